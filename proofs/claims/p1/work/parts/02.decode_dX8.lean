theorem dX8_init_0 : decode cX8_init 0 = .ok (.aload_n 0, 1) := by decide +kernel
theorem dX8_init_1 : decode cX8_init 1 = .ok (.invokespecial 1, 3) := by decide +kernel
theorem dX8_init_4 : decode cX8_init 4 = .ok (.aload_n 0, 1) := by decide +kernel
theorem dX8_init_5 : decode cX8_init 5 = .ok (.bipush 20, 2) := by decide +kernel
theorem dX8_init_7 : decode cX8_init 7 = .ok (.newarray .int, 2) := by decide +kernel
theorem dX8_init_9 : decode cX8_init 9 = .ok (.dup, 1) := by decide +kernel
theorem dX8_init_10 : decode cX8_init 10 = .ok (.iconst 0, 1) := by decide +kernel
theorem dX8_init_11 : decode cX8_init 11 = .ok (.bipush 11, 2) := by decide +kernel
theorem dX8_init_13 : decode cX8_init 13 = .ok (.iastore, 1) := by decide +kernel
theorem dX8_init_14 : decode cX8_init 14 = .ok (.dup, 1) := by decide +kernel
theorem dX8_init_15 : decode cX8_init 15 = .ok (.iconst 1, 1) := by decide +kernel
theorem dX8_init_16 : decode cX8_init 16 = .ok (.bipush 39, 2) := by decide +kernel
theorem dX8_init_18 : decode cX8_init 18 = .ok (.iastore, 1) := by decide +kernel
theorem dX8_init_19 : decode cX8_init 19 = .ok (.dup, 1) := by decide +kernel
theorem dX8_init_20 : decode cX8_init 20 = .ok (.iconst 2, 1) := by decide +kernel
theorem dX8_init_21 : decode cX8_init 21 = .ok (.bipush 41, 2) := by decide +kernel
theorem dX8_init_23 : decode cX8_init 23 = .ok (.iastore, 1) := by decide +kernel
theorem dX8_init_24 : decode cX8_init 24 = .ok (.dup, 1) := by decide +kernel
theorem dX8_init_25 : decode cX8_init 25 = .ok (.iconst 3, 1) := by decide +kernel
theorem dX8_init_26 : decode cX8_init 26 = .ok (.bipush 63, 2) := by decide +kernel
theorem dX8_init_28 : decode cX8_init 28 = .ok (.iastore, 1) := by decide +kernel
theorem dX8_init_29 : decode cX8_init 29 = .ok (.dup, 1) := by decide +kernel
theorem dX8_init_30 : decode cX8_init 30 = .ok (.iconst 4, 1) := by decide +kernel
theorem dX8_init_31 : decode cX8_init 31 = .ok (.bipush 101, 2) := by decide +kernel
theorem dX8_init_33 : decode cX8_init 33 = .ok (.iastore, 1) := by decide +kernel
theorem dX8_init_34 : decode cX8_init 34 = .ok (.dup, 1) := by decide +kernel
theorem dX8_init_35 : decode cX8_init 35 = .ok (.iconst 5, 1) := by decide +kernel
theorem dX8_init_36 : decode cX8_init 36 = .ok (.bipush 123, 2) := by decide +kernel
theorem dX8_init_38 : decode cX8_init 38 = .ok (.iastore, 1) := by decide +kernel
theorem dX8_init_39 : decode cX8_init 39 = .ok (.dup, 1) := by decide +kernel
theorem dX8_init_40 : decode cX8_init 40 = .ok (.bipush 6, 2) := by decide +kernel
theorem dX8_init_42 : decode cX8_init 42 = .ok (.sipush 137, 3) := by decide +kernel
theorem dX8_init_45 : decode cX8_init 45 = .ok (.iastore, 1) := by decide +kernel
theorem dX8_init_46 : decode cX8_init 46 = .ok (.dup, 1) := by decide +kernel
theorem dX8_init_47 : decode cX8_init 47 = .ok (.bipush 7, 2) := by decide +kernel
theorem dX8_init_49 : decode cX8_init 49 = .ok (.sipush 143, 3) := by decide +kernel
theorem dX8_init_52 : decode cX8_init 52 = .ok (.iastore, 1) := by decide +kernel
theorem dX8_init_53 : decode cX8_init 53 = .ok (.dup, 1) := by decide +kernel
theorem dX8_init_54 : decode cX8_init 54 = .ok (.bipush 8, 2) := by decide +kernel
theorem dX8_init_56 : decode cX8_init 56 = .ok (.sipush 153, 3) := by decide +kernel
theorem dX8_init_59 : decode cX8_init 59 = .ok (.iastore, 1) := by decide +kernel
theorem dX8_init_60 : decode cX8_init 60 = .ok (.dup, 1) := by decide +kernel
theorem dX8_init_61 : decode cX8_init 61 = .ok (.bipush 9, 2) := by decide +kernel
theorem dX8_init_63 : decode cX8_init 63 = .ok (.sipush 233, 3) := by decide +kernel
theorem dX8_init_66 : decode cX8_init 66 = .ok (.iastore, 1) := by decide +kernel
theorem dX8_init_67 : decode cX8_init 67 = .ok (.dup, 1) := by decide +kernel
theorem dX8_init_68 : decode cX8_init 68 = .ok (.bipush 10, 2) := by decide +kernel
theorem dX8_init_70 : decode cX8_init 70 = .ok (.sipush 293, 3) := by decide +kernel
theorem dX8_init_73 : decode cX8_init 73 = .ok (.iastore, 1) := by decide +kernel
theorem dX8_init_74 : decode cX8_init 74 = .ok (.dup, 1) := by decide +kernel
theorem dX8_init_75 : decode cX8_init 75 = .ok (.bipush 11, 2) := by decide +kernel
theorem dX8_init_77 : decode cX8_init 77 = .ok (.sipush 303, 3) := by decide +kernel
theorem dX8_init_80 : decode cX8_init 80 = .ok (.iastore, 1) := by decide +kernel
theorem dX8_init_81 : decode cX8_init 81 = .ok (.dup, 1) := by decide +kernel
theorem dX8_init_82 : decode cX8_init 82 = .ok (.bipush 12, 2) := by decide +kernel
theorem dX8_init_84 : decode cX8_init 84 = .ok (.sipush 327, 3) := by decide +kernel
theorem dX8_init_87 : decode cX8_init 87 = .ok (.iastore, 1) := by decide +kernel
theorem dX8_init_88 : decode cX8_init 88 = .ok (.dup, 1) := by decide +kernel
theorem dX8_init_89 : decode cX8_init 89 = .ok (.bipush 13, 2) := by decide +kernel
theorem dX8_init_91 : decode cX8_init 91 = .ok (.sipush 383, 3) := by decide +kernel
theorem dX8_init_94 : decode cX8_init 94 = .ok (.iastore, 1) := by decide +kernel
theorem dX8_init_95 : decode cX8_init 95 = .ok (.dup, 1) := by decide +kernel
theorem dX8_init_96 : decode cX8_init 96 = .ok (.bipush 14, 2) := by decide +kernel
theorem dX8_init_98 : decode cX8_init 98 = .ok (.sipush 389, 3) := by decide +kernel
theorem dX8_init_101 : decode cX8_init 101 = .ok (.iastore, 1) := by decide +kernel
theorem dX8_init_102 : decode cX8_init 102 = .ok (.dup, 1) := by decide +kernel
theorem dX8_init_103 : decode cX8_init 103 = .ok (.bipush 15, 2) := by decide +kernel
theorem dX8_init_105 : decode cX8_init 105 = .ok (.sipush 401, 3) := by decide +kernel
theorem dX8_init_108 : decode cX8_init 108 = .ok (.iastore, 1) := by decide +kernel
theorem dX8_init_109 : decode cX8_init 109 = .ok (.dup, 1) := by decide +kernel
theorem dX8_init_110 : decode cX8_init 110 = .ok (.bipush 16, 2) := by decide +kernel
theorem dX8_init_112 : decode cX8_init 112 = .ok (.sipush 411, 3) := by decide +kernel
theorem dX8_init_115 : decode cX8_init 115 = .ok (.iastore, 1) := by decide +kernel
theorem dX8_init_116 : decode cX8_init 116 = .ok (.dup, 1) := by decide +kernel
theorem dX8_init_117 : decode cX8_init 117 = .ok (.bipush 17, 2) := by decide +kernel
theorem dX8_init_119 : decode cX8_init 119 = .ok (.sipush 423, 3) := by decide +kernel
theorem dX8_init_122 : decode cX8_init 122 = .ok (.iastore, 1) := by decide +kernel
theorem dX8_init_123 : decode cX8_init 123 = .ok (.dup, 1) := by decide +kernel
theorem dX8_init_124 : decode cX8_init 124 = .ok (.bipush 18, 2) := by decide +kernel
theorem dX8_init_126 : decode cX8_init 126 = .ok (.sipush 429, 3) := by decide +kernel
theorem dX8_init_129 : decode cX8_init 129 = .ok (.iastore, 1) := by decide +kernel
theorem dX8_init_130 : decode cX8_init 130 = .ok (.dup, 1) := by decide +kernel
theorem dX8_init_131 : decode cX8_init 131 = .ok (.bipush 19, 2) := by decide +kernel
theorem dX8_init_133 : decode cX8_init 133 = .ok (.sipush 471, 3) := by decide +kernel
theorem dX8_init_136 : decode cX8_init 136 = .ok (.iastore, 1) := by decide +kernel
theorem dX8_init_137 : decode cX8_init 137 = .ok (.putfield 7, 3) := by decide +kernel
theorem dX8_init_140 : decode cX8_init 140 = .ok (.aload_n 0, 1) := by decide +kernel
theorem dX8_init_141 : decode cX8_init 141 = .ok (.sipush 880, 3) := by decide +kernel
theorem dX8_init_144 : decode cX8_init 144 = .ok (.newarray .int, 2) := by decide +kernel
theorem dX8_init_146 : decode cX8_init 146 = .ok (.putfield 13, 3) := by decide +kernel
theorem dX8_init_149 : decode cX8_init 149 = .ok (.aload_n 0, 1) := by decide +kernel
theorem dX8_init_150 : decode cX8_init 150 = .ok (.bipush 10, 2) := by decide +kernel
theorem dX8_init_152 : decode cX8_init 152 = .ok (.newarray .int, 2) := by decide +kernel
theorem dX8_init_154 : decode cX8_init 154 = .ok (.putfield 16, 3) := by decide +kernel
theorem dX8_init_157 : decode cX8_init 157 = .ok (.aload_n 0, 1) := by decide +kernel
theorem dX8_init_158 : decode cX8_init 158 = .ok (.bipush 10, 2) := by decide +kernel
theorem dX8_init_160 : decode cX8_init 160 = .ok (.newarray .int, 2) := by decide +kernel
theorem dX8_init_162 : decode cX8_init 162 = .ok (.putfield 19, 3) := by decide +kernel
theorem dX8_init_165 : decode cX8_init 165 = .ok (.aload_n 0, 1) := by decide +kernel
theorem dX8_init_166 : decode cX8_init 166 = .ok (.sipush 1440, 3) := by decide +kernel
theorem dX8_init_169 : decode cX8_init 169 = .ok (.newarray .long, 2) := by decide +kernel
theorem dX8_init_171 : decode cX8_init 171 = .ok (.putfield 22, 3) := by decide +kernel
theorem dX8_init_174 : decode cX8_init 174 = .ok (.aload_n 0, 1) := by decide +kernel
theorem dX8_init_175 : decode cX8_init 175 = .ok (.bipush 60, 2) := by decide +kernel
theorem dX8_init_177 : decode cX8_init 177 = .ok (.newarray .int, 2) := by decide +kernel
theorem dX8_init_179 : decode cX8_init 179 = .ok (.putfield 26, 3) := by decide +kernel
theorem dX8_init_182 : decode cX8_init 182 = .ok (.aload_n 0, 1) := by decide +kernel
theorem dX8_init_183 : decode cX8_init 183 = .ok (.bipush 10, 2) := by decide +kernel
theorem dX8_init_185 : decode cX8_init 185 = .ok (.newarray .int, 2) := by decide +kernel
theorem dX8_init_187 : decode cX8_init 187 = .ok (.putfield 29, 3) := by decide +kernel
theorem dX8_init_190 : decode cX8_init 190 = .ok (.aload_n 0, 1) := by decide +kernel
theorem dX8_init_191 : decode cX8_init 191 = .ok (.bipush 12, 2) := by decide +kernel
theorem dX8_init_193 : decode cX8_init 193 = .ok (.newarray .boolean, 2) := by decide +kernel
theorem dX8_init_195 : decode cX8_init 195 = .ok (.putfield 32, 3) := by decide +kernel
theorem dX8_init_198 : decode cX8_init 198 = .ok (.aload_n 0, 1) := by decide +kernel
theorem dX8_init_199 : decode cX8_init 199 = .ok (.bipush 12, 2) := by decide +kernel
theorem dX8_init_201 : decode cX8_init 201 = .ok (.newarray .int, 2) := by decide +kernel
theorem dX8_init_203 : decode cX8_init 203 = .ok (.putfield 36, 3) := by decide +kernel
theorem dX8_init_206 : decode cX8_init 206 = .ok (.aload_n 0, 1) := by decide +kernel
theorem dX8_init_207 : decode cX8_init 207 = .ok (.bipush 12, 2) := by decide +kernel
theorem dX8_init_209 : decode cX8_init 209 = .ok (.newarray .int, 2) := by decide +kernel
theorem dX8_init_211 : decode cX8_init 211 = .ok (.putfield 39, 3) := by decide +kernel
theorem dX8_init_214 : decode cX8_init 214 = .ok (.aload_n 0, 1) := by decide +kernel
theorem dX8_init_215 : decode cX8_init 215 = .ok (.bipush 12, 2) := by decide +kernel
theorem dX8_init_217 : decode cX8_init 217 = .ok (.newarray .int, 2) := by decide +kernel
theorem dX8_init_219 : decode cX8_init 219 = .ok (.putfield 42, 3) := by decide +kernel
theorem dX8_init_222 : decode cX8_init 222 = .ok (.return_, 1) := by decide +kernel
theorem dX8_thrown_0 : decode cX8_thrown 0 = .ok (.aload_n 0, 1) := by decide +kernel
theorem dX8_thrown_1 : decode cX8_thrown 1 = .ok (.getfield 45, 3) := by decide +kernel
theorem dX8_thrown_4 : decode cX8_thrown 4 = .ok (.ireturn, 1) := by decide +kernel
theorem dX8_isPoly_0 : decode cX8_isPoly 0 = .ok (.iload_n 0, 1) := by decide +kernel
theorem dX8_isPoly_1 : decode cX8_isPoly 1 = .ok (.ifCond .lt 13, 3) := by decide +kernel
theorem dX8_isPoly_4 : decode cX8_isPoly 4 = .ok (.iload_n 0, 1) := by decide +kernel
theorem dX8_isPoly_5 : decode cX8_isPoly 5 = .ok (.bipush 80, 2) := by decide +kernel
theorem dX8_isPoly_7 : decode cX8_isPoly 7 = .ok (.if_icmp .ge 7, 3) := by decide +kernel
theorem dX8_isPoly_10 : decode cX8_isPoly 10 = .ok (.iconst 1, 1) := by decide +kernel
theorem dX8_isPoly_11 : decode cX8_isPoly 11 = .ok (.goto 4, 3) := by decide +kernel
theorem dX8_isPoly_14 : decode cX8_isPoly 14 = .ok (.iconst 0, 1) := by decide +kernel
theorem dX8_isPoly_15 : decode cX8_isPoly 15 = .ok (.ireturn, 1) := by decide +kernel
theorem dX8_isPower_0 : decode cX8_isPower 0 = .ok (.iload_n 0, 1) := by decide +kernel
theorem dX8_isPower_1 : decode cX8_isPower 1 = .ok (.ifCond .lt 13, 3) := by decide +kernel
theorem dX8_isPower_4 : decode cX8_isPower 4 = .ok (.iload_n 0, 1) := by decide +kernel
theorem dX8_isPower_5 : decode cX8_isPower 5 = .ok (.bipush 11, 2) := by decide +kernel
theorem dX8_isPower_7 : decode cX8_isPower 7 = .ok (.if_icmp .ge 7, 3) := by decide +kernel
theorem dX8_isPower_10 : decode cX8_isPower 10 = .ok (.iconst 1, 1) := by decide +kernel
theorem dX8_isPower_11 : decode cX8_isPower 11 = .ok (.goto 4, 3) := by decide +kernel
theorem dX8_isPower_14 : decode cX8_isPower 14 = .ok (.iconst 0, 1) := by decide +kernel
theorem dX8_isPower_15 : decode cX8_isPower 15 = .ok (.ireturn, 1) := by decide +kernel
theorem dX8_trim_0 : decode cX8_trim 0 = .ok (.iload_n 2, 1) := by decide +kernel
theorem dX8_trim_1 : decode cX8_trim 1 = .ok (.istore_n 3, 1) := by decide +kernel
theorem dX8_trim_2 : decode cX8_trim 2 = .ok (.iload_n 3, 1) := by decide +kernel
theorem dX8_trim_3 : decode cX8_trim 3 = .ok (.ifCond .lt 25, 3) := by decide +kernel
theorem dX8_trim_6 : decode cX8_trim 6 = .ok (.aload_n 0, 1) := by decide +kernel
theorem dX8_trim_7 : decode cX8_trim 7 = .ok (.getfield 22, 3) := by decide +kernel
theorem dX8_trim_10 : decode cX8_trim 10 = .ok (.bipush 24, 2) := by decide +kernel
theorem dX8_trim_12 : decode cX8_trim 12 = .ok (.iload_n 1, 1) := by decide +kernel
theorem dX8_trim_13 : decode cX8_trim 13 = .ok (.imul, 1) := by decide +kernel
theorem dX8_trim_14 : decode cX8_trim 14 = .ok (.iload_n 3, 1) := by decide +kernel
theorem dX8_trim_15 : decode cX8_trim 15 = .ok (.iadd, 1) := by decide +kernel
theorem dX8_trim_16 : decode cX8_trim 16 = .ok (.laload, 1) := by decide +kernel
theorem dX8_trim_17 : decode cX8_trim 17 = .ok (.lconst 0, 1) := by decide +kernel
theorem dX8_trim_18 : decode cX8_trim 18 = .ok (.lcmp, 1) := by decide +kernel
theorem dX8_trim_19 : decode cX8_trim 19 = .ok (.ifCond .ne 9, 3) := by decide +kernel
theorem dX8_trim_22 : decode cX8_trim 22 = .ok (.iinc 3 (-1), 3) := by decide +kernel
theorem dX8_trim_25 : decode cX8_trim 25 = .ok (.goto (-23), 3) := by decide +kernel
theorem dX8_trim_28 : decode cX8_trim 28 = .ok (.aload_n 0, 1) := by decide +kernel
theorem dX8_trim_29 : decode cX8_trim 29 = .ok (.getfield 26, 3) := by decide +kernel
theorem dX8_trim_32 : decode cX8_trim 32 = .ok (.iload_n 1, 1) := by decide +kernel
theorem dX8_trim_33 : decode cX8_trim 33 = .ok (.iload_n 3, 1) := by decide +kernel
theorem dX8_trim_34 : decode cX8_trim 34 = .ok (.iastore, 1) := by decide +kernel
theorem dX8_trim_35 : decode cX8_trim 35 = .ok (.return_, 1) := by decide +kernel
theorem dX8_get_0 : decode cX8_get 0 = .ok (.iload_n 2, 1) := by decide +kernel
theorem dX8_get_1 : decode cX8_get 1 = .ok (.aload_n 0, 1) := by decide +kernel
theorem dX8_get_2 : decode cX8_get 2 = .ok (.getfield 26, 3) := by decide +kernel
theorem dX8_get_5 : decode cX8_get 5 = .ok (.iload_n 1, 1) := by decide +kernel
theorem dX8_get_6 : decode cX8_get 6 = .ok (.iaload, 1) := by decide +kernel
theorem dX8_get_7 : decode cX8_get 7 = .ok (.if_icmp .le 7, 3) := by decide +kernel
theorem dX8_get_10 : decode cX8_get 10 = .ok (.lconst 0, 1) := by decide +kernel
theorem dX8_get_11 : decode cX8_get 11 = .ok (.goto 14, 3) := by decide +kernel
theorem dX8_get_14 : decode cX8_get 14 = .ok (.aload_n 0, 1) := by decide +kernel
theorem dX8_get_15 : decode cX8_get 15 = .ok (.getfield 22, 3) := by decide +kernel
theorem dX8_get_18 : decode cX8_get 18 = .ok (.bipush 24, 2) := by decide +kernel
theorem dX8_get_20 : decode cX8_get 20 = .ok (.iload_n 1, 1) := by decide +kernel
theorem dX8_get_21 : decode cX8_get 21 = .ok (.imul, 1) := by decide +kernel
theorem dX8_get_22 : decode cX8_get 22 = .ok (.iload_n 2, 1) := by decide +kernel
theorem dX8_get_23 : decode cX8_get 23 = .ok (.iadd, 1) := by decide +kernel
theorem dX8_get_24 : decode cX8_get 24 = .ok (.laload, 1) := by decide +kernel
theorem dX8_get_25 : decode cX8_get 25 = .ok (.lreturn, 1) := by decide +kernel
theorem dX8_copy_0 : decode cX8_copy 0 = .ok (.iconst 0, 1) := by decide +kernel
theorem dX8_copy_1 : decode cX8_copy 1 = .ok (.istore_n 3, 1) := by decide +kernel
theorem dX8_copy_2 : decode cX8_copy 2 = .ok (.iload_n 3, 1) := by decide +kernel
theorem dX8_copy_3 : decode cX8_copy 3 = .ok (.aload_n 0, 1) := by decide +kernel
theorem dX8_copy_4 : decode cX8_copy 4 = .ok (.getfield 26, 3) := by decide +kernel
theorem dX8_copy_7 : decode cX8_copy 7 = .ok (.iload_n 1, 1) := by decide +kernel
theorem dX8_copy_8 : decode cX8_copy 8 = .ok (.iaload, 1) := by decide +kernel
theorem dX8_copy_9 : decode cX8_copy 9 = .ok (.if_icmp .gt 31, 3) := by decide +kernel
theorem dX8_copy_12 : decode cX8_copy 12 = .ok (.aload_n 0, 1) := by decide +kernel
theorem dX8_copy_13 : decode cX8_copy 13 = .ok (.getfield 22, 3) := by decide +kernel
theorem dX8_copy_16 : decode cX8_copy 16 = .ok (.bipush 24, 2) := by decide +kernel
theorem dX8_copy_18 : decode cX8_copy 18 = .ok (.iload_n 2, 1) := by decide +kernel
theorem dX8_copy_19 : decode cX8_copy 19 = .ok (.imul, 1) := by decide +kernel
theorem dX8_copy_20 : decode cX8_copy 20 = .ok (.iload_n 3, 1) := by decide +kernel
theorem dX8_copy_21 : decode cX8_copy 21 = .ok (.iadd, 1) := by decide +kernel
theorem dX8_copy_22 : decode cX8_copy 22 = .ok (.aload_n 0, 1) := by decide +kernel
theorem dX8_copy_23 : decode cX8_copy 23 = .ok (.getfield 22, 3) := by decide +kernel
theorem dX8_copy_26 : decode cX8_copy 26 = .ok (.bipush 24, 2) := by decide +kernel
theorem dX8_copy_28 : decode cX8_copy 28 = .ok (.iload_n 1, 1) := by decide +kernel
theorem dX8_copy_29 : decode cX8_copy 29 = .ok (.imul, 1) := by decide +kernel
theorem dX8_copy_30 : decode cX8_copy 30 = .ok (.iload_n 3, 1) := by decide +kernel
theorem dX8_copy_31 : decode cX8_copy 31 = .ok (.iadd, 1) := by decide +kernel
theorem dX8_copy_32 : decode cX8_copy 32 = .ok (.laload, 1) := by decide +kernel
theorem dX8_copy_33 : decode cX8_copy 33 = .ok (.lastore, 1) := by decide +kernel
theorem dX8_copy_34 : decode cX8_copy 34 = .ok (.iinc 3 1, 3) := by decide +kernel
theorem dX8_copy_37 : decode cX8_copy 37 = .ok (.goto (-35), 3) := by decide +kernel
theorem dX8_copy_40 : decode cX8_copy 40 = .ok (.aload_n 0, 1) := by decide +kernel
theorem dX8_copy_41 : decode cX8_copy 41 = .ok (.getfield 26, 3) := by decide +kernel
theorem dX8_copy_44 : decode cX8_copy 44 = .ok (.iload_n 2, 1) := by decide +kernel
theorem dX8_copy_45 : decode cX8_copy 45 = .ok (.aload_n 0, 1) := by decide +kernel
theorem dX8_copy_46 : decode cX8_copy 46 = .ok (.getfield 26, 3) := by decide +kernel
theorem dX8_copy_49 : decode cX8_copy 49 = .ok (.iload_n 1, 1) := by decide +kernel
theorem dX8_copy_50 : decode cX8_copy 50 = .ok (.iaload, 1) := by decide +kernel
theorem dX8_copy_51 : decode cX8_copy 51 = .ok (.iastore, 1) := by decide +kernel
theorem dX8_copy_52 : decode cX8_copy 52 = .ok (.return_, 1) := by decide +kernel
theorem dX8_constant_0 : decode cX8_constant 0 = .ok (.aload_n 0, 1) := by decide +kernel
theorem dX8_constant_1 : decode cX8_constant 1 = .ok (.getfield 22, 3) := by decide +kernel
theorem dX8_constant_4 : decode cX8_constant 4 = .ok (.bipush 24, 2) := by decide +kernel
theorem dX8_constant_6 : decode cX8_constant 6 = .ok (.iload_n 1, 1) := by decide +kernel
theorem dX8_constant_7 : decode cX8_constant 7 = .ok (.imul, 1) := by decide +kernel
theorem dX8_constant_8 : decode cX8_constant 8 = .ok (.lload_n 2, 1) := by decide +kernel
theorem dX8_constant_9 : decode cX8_constant 9 = .ok (.lastore, 1) := by decide +kernel
theorem dX8_constant_10 : decode cX8_constant 10 = .ok (.aload_n 0, 1) := by decide +kernel
theorem dX8_constant_11 : decode cX8_constant 11 = .ok (.getfield 26, 3) := by decide +kernel
theorem dX8_constant_14 : decode cX8_constant 14 = .ok (.iload_n 1, 1) := by decide +kernel
theorem dX8_constant_15 : decode cX8_constant 15 = .ok (.lload_n 2, 1) := by decide +kernel
theorem dX8_constant_16 : decode cX8_constant 16 = .ok (.lconst 0, 1) := by decide +kernel
theorem dX8_constant_17 : decode cX8_constant 17 = .ok (.lcmp, 1) := by decide +kernel
theorem dX8_constant_18 : decode cX8_constant 18 = .ok (.ifCond .ne 7, 3) := by decide +kernel
theorem dX8_constant_21 : decode cX8_constant 21 = .ok (.iconst (-1), 1) := by decide +kernel
theorem dX8_constant_22 : decode cX8_constant 22 = .ok (.goto 4, 3) := by decide +kernel
theorem dX8_constant_25 : decode cX8_constant 25 = .ok (.iconst 0, 1) := by decide +kernel
theorem dX8_constant_26 : decode cX8_constant 26 = .ok (.iastore, 1) := by decide +kernel
theorem dX8_constant_27 : decode cX8_constant 27 = .ok (.return_, 1) := by decide +kernel
theorem dX8_abs_0 : decode cX8_abs 0 = .ok (.lload_n 0, 1) := by decide +kernel
theorem dX8_abs_1 : decode cX8_abs 1 = .ok (.lconst 0, 1) := by decide +kernel
theorem dX8_abs_2 : decode cX8_abs 2 = .ok (.lcmp, 1) := by decide +kernel
theorem dX8_abs_3 : decode cX8_abs 3 = .ok (.ifCond .ge 8, 3) := by decide +kernel
theorem dX8_abs_6 : decode cX8_abs 6 = .ok (.lload_n 0, 1) := by decide +kernel
theorem dX8_abs_7 : decode cX8_abs 7 = .ok (.lneg, 1) := by decide +kernel
theorem dX8_abs_8 : decode cX8_abs 8 = .ok (.goto 4, 3) := by decide +kernel
theorem dX8_abs_11 : decode cX8_abs 11 = .ok (.lload_n 0, 1) := by decide +kernel
theorem dX8_abs_12 : decode cX8_abs 12 = .ok (.lreturn, 1) := by decide +kernel
theorem dX8_common_0 : decode cX8_common 0 = .ok (.lload_n 0, 1) := by decide +kernel
theorem dX8_common_1 : decode cX8_common 1 = .ok (.invokestatic 49, 3) := by decide +kernel
theorem dX8_common_4 : decode cX8_common 4 = .ok (.lstore 4, 2) := by decide +kernel
theorem dX8_common_6 : decode cX8_common 6 = .ok (.lload_n 2, 1) := by decide +kernel
theorem dX8_common_7 : decode cX8_common 7 = .ok (.invokestatic 49, 3) := by decide +kernel
theorem dX8_common_10 : decode cX8_common 10 = .ok (.lstore 6, 2) := by decide +kernel
theorem dX8_common_12 : decode cX8_common 12 = .ok (.lload 6, 2) := by decide +kernel
theorem dX8_common_14 : decode cX8_common 14 = .ok (.lconst 0, 1) := by decide +kernel
theorem dX8_common_15 : decode cX8_common 15 = .ok (.lcmp, 1) := by decide +kernel
theorem dX8_common_16 : decode cX8_common 16 = .ok (.ifCond .eq 21, 3) := by decide +kernel
theorem dX8_common_19 : decode cX8_common 19 = .ok (.lload 4, 2) := by decide +kernel
theorem dX8_common_21 : decode cX8_common 21 = .ok (.lload 6, 2) := by decide +kernel
theorem dX8_common_23 : decode cX8_common 23 = .ok (.lrem, 1) := by decide +kernel
theorem dX8_common_24 : decode cX8_common 24 = .ok (.lstore 8, 2) := by decide +kernel
theorem dX8_common_26 : decode cX8_common 26 = .ok (.lload 6, 2) := by decide +kernel
theorem dX8_common_28 : decode cX8_common 28 = .ok (.lstore 4, 2) := by decide +kernel
theorem dX8_common_30 : decode cX8_common 30 = .ok (.lload 8, 2) := by decide +kernel
theorem dX8_common_32 : decode cX8_common 32 = .ok (.lstore 6, 2) := by decide +kernel
theorem dX8_common_34 : decode cX8_common 34 = .ok (.goto (-22), 3) := by decide +kernel
theorem dX8_common_37 : decode cX8_common 37 = .ok (.lload 4, 2) := by decide +kernel
theorem dX8_common_39 : decode cX8_common 39 = .ok (.lreturn, 1) := by decide +kernel
theorem dX8_primitive_0 : decode cX8_primitive 0 = .ok (.lconst 0, 1) := by decide +kernel
theorem dX8_primitive_1 : decode cX8_primitive 1 = .ok (.lstore_n 2, 1) := by decide +kernel
theorem dX8_primitive_2 : decode cX8_primitive 2 = .ok (.iconst 0, 1) := by decide +kernel
theorem dX8_primitive_3 : decode cX8_primitive 3 = .ok (.istore 4, 2) := by decide +kernel
theorem dX8_primitive_5 : decode cX8_primitive 5 = .ok (.iload 4, 2) := by decide +kernel
theorem dX8_primitive_7 : decode cX8_primitive 7 = .ok (.aload_n 0, 1) := by decide +kernel
theorem dX8_primitive_8 : decode cX8_primitive 8 = .ok (.getfield 26, 3) := by decide +kernel
theorem dX8_primitive_11 : decode cX8_primitive 11 = .ok (.iload_n 1, 1) := by decide +kernel
theorem dX8_primitive_12 : decode cX8_primitive 12 = .ok (.iaload, 1) := by decide +kernel
theorem dX8_primitive_13 : decode cX8_primitive 13 = .ok (.if_icmp .gt 26, 3) := by decide +kernel
theorem dX8_primitive_16 : decode cX8_primitive 16 = .ok (.lload_n 2, 1) := by decide +kernel
theorem dX8_primitive_17 : decode cX8_primitive 17 = .ok (.aload_n 0, 1) := by decide +kernel
theorem dX8_primitive_18 : decode cX8_primitive 18 = .ok (.getfield 22, 3) := by decide +kernel
theorem dX8_primitive_21 : decode cX8_primitive 21 = .ok (.bipush 24, 2) := by decide +kernel
theorem dX8_primitive_23 : decode cX8_primitive 23 = .ok (.iload_n 1, 1) := by decide +kernel
theorem dX8_primitive_24 : decode cX8_primitive 24 = .ok (.imul, 1) := by decide +kernel
theorem dX8_primitive_25 : decode cX8_primitive 25 = .ok (.iload 4, 2) := by decide +kernel
theorem dX8_primitive_27 : decode cX8_primitive 27 = .ok (.iadd, 1) := by decide +kernel
theorem dX8_primitive_28 : decode cX8_primitive 28 = .ok (.laload, 1) := by decide +kernel
theorem dX8_primitive_29 : decode cX8_primitive 29 = .ok (.invokestatic 53, 3) := by decide +kernel
theorem dX8_primitive_32 : decode cX8_primitive 32 = .ok (.lstore_n 2, 1) := by decide +kernel
theorem dX8_primitive_33 : decode cX8_primitive 33 = .ok (.iinc 4 1, 3) := by decide +kernel
theorem dX8_primitive_36 : decode cX8_primitive 36 = .ok (.goto (-31), 3) := by decide +kernel
theorem dX8_primitive_39 : decode cX8_primitive 39 = .ok (.lload_n 2, 1) := by decide +kernel
theorem dX8_primitive_40 : decode cX8_primitive 40 = .ok (.lconst 0, 1) := by decide +kernel
theorem dX8_primitive_41 : decode cX8_primitive 41 = .ok (.lcmp, 1) := by decide +kernel
theorem dX8_primitive_42 : decode cX8_primitive 42 = .ok (.ifCond .ne 5, 3) := by decide +kernel
theorem dX8_primitive_45 : decode cX8_primitive 45 = .ok (.lconst 0, 1) := by decide +kernel
theorem dX8_primitive_46 : decode cX8_primitive 46 = .ok (.lreturn, 1) := by decide +kernel
theorem dX8_primitive_47 : decode cX8_primitive 47 = .ok (.aload_n 0, 1) := by decide +kernel
theorem dX8_primitive_48 : decode cX8_primitive 48 = .ok (.getfield 22, 3) := by decide +kernel
theorem dX8_primitive_51 : decode cX8_primitive 51 = .ok (.bipush 24, 2) := by decide +kernel
theorem dX8_primitive_53 : decode cX8_primitive 53 = .ok (.iload_n 1, 1) := by decide +kernel
theorem dX8_primitive_54 : decode cX8_primitive 54 = .ok (.imul, 1) := by decide +kernel
theorem dX8_primitive_55 : decode cX8_primitive 55 = .ok (.aload_n 0, 1) := by decide +kernel
theorem dX8_primitive_56 : decode cX8_primitive 56 = .ok (.getfield 26, 3) := by decide +kernel
theorem dX8_primitive_59 : decode cX8_primitive 59 = .ok (.iload_n 1, 1) := by decide +kernel
theorem dX8_primitive_60 : decode cX8_primitive 60 = .ok (.iaload, 1) := by decide +kernel
theorem dX8_primitive_61 : decode cX8_primitive 61 = .ok (.iadd, 1) := by decide +kernel
theorem dX8_primitive_62 : decode cX8_primitive 62 = .ok (.laload, 1) := by decide +kernel
theorem dX8_primitive_63 : decode cX8_primitive 63 = .ok (.lconst 0, 1) := by decide +kernel
theorem dX8_primitive_64 : decode cX8_primitive 64 = .ok (.lcmp, 1) := by decide +kernel
theorem dX8_primitive_65 : decode cX8_primitive 65 = .ok (.ifCond .ge 6, 3) := by decide +kernel
theorem dX8_primitive_68 : decode cX8_primitive 68 = .ok (.lload_n 2, 1) := by decide +kernel
theorem dX8_primitive_69 : decode cX8_primitive 69 = .ok (.lneg, 1) := by decide +kernel
theorem dX8_primitive_70 : decode cX8_primitive 70 = .ok (.lstore_n 2, 1) := by decide +kernel
theorem dX8_primitive_71 : decode cX8_primitive 71 = .ok (.iconst 0, 1) := by decide +kernel
theorem dX8_primitive_72 : decode cX8_primitive 72 = .ok (.istore 4, 2) := by decide +kernel
theorem dX8_primitive_74 : decode cX8_primitive 74 = .ok (.iload 4, 2) := by decide +kernel
theorem dX8_primitive_76 : decode cX8_primitive 76 = .ok (.aload_n 0, 1) := by decide +kernel
theorem dX8_primitive_77 : decode cX8_primitive 77 = .ok (.getfield 26, 3) := by decide +kernel
theorem dX8_primitive_80 : decode cX8_primitive 80 = .ok (.iload_n 1, 1) := by decide +kernel
theorem dX8_primitive_81 : decode cX8_primitive 81 = .ok (.iaload, 1) := by decide +kernel
theorem dX8_primitive_82 : decode cX8_primitive 82 = .ok (.if_icmp .gt 25, 3) := by decide +kernel
theorem dX8_primitive_85 : decode cX8_primitive 85 = .ok (.aload_n 0, 1) := by decide +kernel
theorem dX8_primitive_86 : decode cX8_primitive 86 = .ok (.getfield 22, 3) := by decide +kernel
theorem dX8_primitive_89 : decode cX8_primitive 89 = .ok (.bipush 24, 2) := by decide +kernel
theorem dX8_primitive_91 : decode cX8_primitive 91 = .ok (.iload_n 1, 1) := by decide +kernel
theorem dX8_primitive_92 : decode cX8_primitive 92 = .ok (.imul, 1) := by decide +kernel
theorem dX8_primitive_93 : decode cX8_primitive 93 = .ok (.iload 4, 2) := by decide +kernel
theorem dX8_primitive_95 : decode cX8_primitive 95 = .ok (.iadd, 1) := by decide +kernel
theorem dX8_primitive_96 : decode cX8_primitive 96 = .ok (.dup2, 1) := by decide +kernel
theorem dX8_primitive_97 : decode cX8_primitive 97 = .ok (.laload, 1) := by decide +kernel
theorem dX8_primitive_98 : decode cX8_primitive 98 = .ok (.lload_n 2, 1) := by decide +kernel
theorem dX8_primitive_99 : decode cX8_primitive 99 = .ok (.ldiv, 1) := by decide +kernel
theorem dX8_primitive_100 : decode cX8_primitive 100 = .ok (.lastore, 1) := by decide +kernel
theorem dX8_primitive_101 : decode cX8_primitive 101 = .ok (.iinc 4 1, 3) := by decide +kernel
theorem dX8_primitive_104 : decode cX8_primitive 104 = .ok (.goto (-30), 3) := by decide +kernel
theorem dX8_primitive_107 : decode cX8_primitive 107 = .ok (.lload_n 2, 1) := by decide +kernel
theorem dX8_primitive_108 : decode cX8_primitive 108 = .ok (.lreturn, 1) := by decide +kernel
theorem dX8_load_0 : decode cX8_load 0 = .ok (.iconst 0, 1) := by decide +kernel
theorem dX8_load_1 : decode cX8_load 1 = .ok (.istore_n 3, 1) := by decide +kernel
theorem dX8_load_2 : decode cX8_load 2 = .ok (.iload_n 3, 1) := by decide +kernel
theorem dX8_load_3 : decode cX8_load 3 = .ok (.bipush 11, 2) := by decide +kernel
theorem dX8_load_5 : decode cX8_load 5 = .ok (.if_icmp .ge 32, 3) := by decide +kernel
theorem dX8_load_8 : decode cX8_load 8 = .ok (.aload_n 0, 1) := by decide +kernel
theorem dX8_load_9 : decode cX8_load 9 = .ok (.getfield 22, 3) := by decide +kernel
theorem dX8_load_12 : decode cX8_load 12 = .ok (.bipush 24, 2) := by decide +kernel
theorem dX8_load_14 : decode cX8_load 14 = .ok (.iload_n 2, 1) := by decide +kernel
theorem dX8_load_15 : decode cX8_load 15 = .ok (.imul, 1) := by decide +kernel
theorem dX8_load_16 : decode cX8_load 16 = .ok (.iload_n 3, 1) := by decide +kernel
theorem dX8_load_17 : decode cX8_load 17 = .ok (.iadd, 1) := by decide +kernel
theorem dX8_load_18 : decode cX8_load 18 = .ok (.aload_n 0, 1) := by decide +kernel
theorem dX8_load_19 : decode cX8_load 19 = .ok (.getfield 13, 3) := by decide +kernel
theorem dX8_load_22 : decode cX8_load 22 = .ok (.bipush 11, 2) := by decide +kernel
theorem dX8_load_24 : decode cX8_load 24 = .ok (.iload_n 1, 1) := by decide +kernel
theorem dX8_load_25 : decode cX8_load 25 = .ok (.imul, 1) := by decide +kernel
theorem dX8_load_26 : decode cX8_load 26 = .ok (.iload_n 3, 1) := by decide +kernel
theorem dX8_load_27 : decode cX8_load 27 = .ok (.iadd, 1) := by decide +kernel
theorem dX8_load_28 : decode cX8_load 28 = .ok (.iaload, 1) := by decide +kernel
theorem dX8_load_29 : decode cX8_load 29 = .ok (.i2l, 1) := by decide +kernel
theorem dX8_load_30 : decode cX8_load 30 = .ok (.lastore, 1) := by decide +kernel
theorem dX8_load_31 : decode cX8_load 31 = .ok (.iinc 3 1, 3) := by decide +kernel
theorem dX8_load_34 : decode cX8_load 34 = .ok (.goto (-32), 3) := by decide +kernel
theorem dX8_load_37 : decode cX8_load 37 = .ok (.aload_n 0, 1) := by decide +kernel
theorem dX8_load_38 : decode cX8_load 38 = .ok (.iload_n 2, 1) := by decide +kernel
theorem dX8_load_39 : decode cX8_load 39 = .ok (.bipush 10, 2) := by decide +kernel
theorem dX8_load_41 : decode cX8_load 41 = .ok (.invokevirtual 57, 3) := by decide +kernel
theorem dX8_load_44 : decode cX8_load 44 = .ok (.return_, 1) := by decide +kernel
theorem dX8_store_0 : decode cX8_store 0 = .ok (.iconst 0, 1) := by decide +kernel
theorem dX8_store_1 : decode cX8_store 1 = .ok (.istore_n 2, 1) := by decide +kernel
theorem dX8_store_2 : decode cX8_store 2 = .ok (.iload_n 2, 1) := by decide +kernel
theorem dX8_store_3 : decode cX8_store 3 = .ok (.bipush 11, 2) := by decide +kernel
theorem dX8_store_5 : decode cX8_store 5 = .ok (.if_icmp .ge 30, 3) := by decide +kernel
theorem dX8_store_8 : decode cX8_store 8 = .ok (.aload_n 0, 1) := by decide +kernel
theorem dX8_store_9 : decode cX8_store 9 = .ok (.getfield 13, 3) := by decide +kernel
theorem dX8_store_12 : decode cX8_store 12 = .ok (.bipush 11, 2) := by decide +kernel
theorem dX8_store_14 : decode cX8_store 14 = .ok (.aload_n 0, 1) := by decide +kernel
theorem dX8_store_15 : decode cX8_store 15 = .ok (.getfield 61, 3) := by decide +kernel
theorem dX8_store_18 : decode cX8_store 18 = .ok (.imul, 1) := by decide +kernel
theorem dX8_store_19 : decode cX8_store 19 = .ok (.iload_n 2, 1) := by decide +kernel
theorem dX8_store_20 : decode cX8_store 20 = .ok (.iadd, 1) := by decide +kernel
theorem dX8_store_21 : decode cX8_store 21 = .ok (.aload_n 0, 1) := by decide +kernel
theorem dX8_store_22 : decode cX8_store 22 = .ok (.iload_n 1, 1) := by decide +kernel
theorem dX8_store_23 : decode cX8_store 23 = .ok (.iload_n 2, 1) := by decide +kernel
theorem dX8_store_24 : decode cX8_store 24 = .ok (.invokevirtual 64, 3) := by decide +kernel
theorem dX8_store_27 : decode cX8_store 27 = .ok (.l2i, 1) := by decide +kernel
theorem dX8_store_28 : decode cX8_store 28 = .ok (.iastore, 1) := by decide +kernel
theorem dX8_store_29 : decode cX8_store 29 = .ok (.iinc 2 1, 3) := by decide +kernel
theorem dX8_store_32 : decode cX8_store 32 = .ok (.goto (-30), 3) := by decide +kernel
theorem dX8_store_35 : decode cX8_store 35 = .ok (.aload_n 0, 1) := by decide +kernel
theorem dX8_store_36 : decode cX8_store 36 = .ok (.dup, 1) := by decide +kernel
theorem dX8_store_37 : decode cX8_store 37 = .ok (.getfield 61, 3) := by decide +kernel
theorem dX8_store_40 : decode cX8_store 40 = .ok (.iconst 1, 1) := by decide +kernel
theorem dX8_store_41 : decode cX8_store 41 = .ok (.iadd, 1) := by decide +kernel
theorem dX8_store_42 : decode cX8_store 42 = .ok (.putfield 61, 3) := by decide +kernel
theorem dX8_store_45 : decode cX8_store 45 = .ok (.aload_n 0, 1) := by decide +kernel
theorem dX8_store_46 : decode cX8_store 46 = .ok (.getfield 61, 3) := by decide +kernel
theorem dX8_store_49 : decode cX8_store 49 = .ok (.iconst 1, 1) := by decide +kernel
theorem dX8_store_50 : decode cX8_store 50 = .ok (.isub, 1) := by decide +kernel
theorem dX8_store_51 : decode cX8_store 51 = .ok (.ireturn, 1) := by decide +kernel
theorem dX8_great_0 : decode cX8_great 0 = .ok (.aload_n 0, 1) := by decide +kernel
theorem dX8_great_1 : decode cX8_great 1 = .ok (.getfield 26, 3) := by decide +kernel
theorem dX8_great_4 : decode cX8_great 4 = .ok (.iload_n 1, 1) := by decide +kernel
theorem dX8_great_5 : decode cX8_great 5 = .ok (.iaload, 1) := by decide +kernel
theorem dX8_great_6 : decode cX8_great 6 = .ok (.bipush 11, 2) := by decide +kernel
theorem dX8_great_8 : decode cX8_great 8 = .ok (.if_icmp .lt 5, 3) := by decide +kernel
theorem dX8_great_11 : decode cX8_great 11 = .ok (.iconst 1, 1) := by decide +kernel
theorem dX8_great_12 : decode cX8_great 12 = .ok (.ireturn, 1) := by decide +kernel
theorem dX8_great_13 : decode cX8_great 13 = .ok (.iconst 0, 1) := by decide +kernel
theorem dX8_great_14 : decode cX8_great 14 = .ok (.istore_n 2, 1) := by decide +kernel
theorem dX8_great_15 : decode cX8_great 15 = .ok (.iload_n 2, 1) := by decide +kernel
theorem dX8_great_16 : decode cX8_great 16 = .ok (.aload_n 0, 1) := by decide +kernel
theorem dX8_great_17 : decode cX8_great 17 = .ok (.getfield 26, 3) := by decide +kernel
theorem dX8_great_20 : decode cX8_great 20 = .ok (.iload_n 1, 1) := by decide +kernel
theorem dX8_great_21 : decode cX8_great 21 = .ok (.iaload, 1) := by decide +kernel
theorem dX8_great_22 : decode cX8_great 22 = .ok (.if_icmp .gt 32, 3) := by decide +kernel
theorem dX8_great_25 : decode cX8_great 25 = .ok (.aload_n 0, 1) := by decide +kernel
theorem dX8_great_26 : decode cX8_great 26 = .ok (.getfield 22, 3) := by decide +kernel
theorem dX8_great_29 : decode cX8_great 29 = .ok (.bipush 24, 2) := by decide +kernel
theorem dX8_great_31 : decode cX8_great 31 = .ok (.iload_n 1, 1) := by decide +kernel
theorem dX8_great_32 : decode cX8_great 32 = .ok (.imul, 1) := by decide +kernel
theorem dX8_great_33 : decode cX8_great 33 = .ok (.iload_n 2, 1) := by decide +kernel
theorem dX8_great_34 : decode cX8_great 34 = .ok (.iadd, 1) := by decide +kernel
theorem dX8_great_35 : decode cX8_great 35 = .ok (.laload, 1) := by decide +kernel
theorem dX8_great_36 : decode cX8_great 36 = .ok (.invokestatic 49, 3) := by decide +kernel
theorem dX8_great_39 : decode cX8_great 39 = .ok (.ldc2_w 68, 3) := by decide +kernel
theorem dX8_great_42 : decode cX8_great 42 = .ok (.lcmp, 1) := by decide +kernel
theorem dX8_great_43 : decode cX8_great 43 = .ok (.ifCond .le 5, 3) := by decide +kernel
theorem dX8_great_46 : decode cX8_great 46 = .ok (.iconst 1, 1) := by decide +kernel
theorem dX8_great_47 : decode cX8_great 47 = .ok (.ireturn, 1) := by decide +kernel
theorem dX8_great_48 : decode cX8_great 48 = .ok (.iinc 2 1, 3) := by decide +kernel
theorem dX8_great_51 : decode cX8_great 51 = .ok (.goto (-36), 3) := by decide +kernel
theorem dX8_great_54 : decode cX8_great 54 = .ok (.iconst 0, 1) := by decide +kernel
theorem dX8_great_55 : decode cX8_great 55 = .ok (.ireturn, 1) := by decide +kernel
theorem dX8_derive_0 : decode cX8_derive 0 = .ok (.iconst 1, 1) := by decide +kernel
theorem dX8_derive_1 : decode cX8_derive 1 = .ok (.istore_n 3, 1) := by decide +kernel
theorem dX8_derive_2 : decode cX8_derive 2 = .ok (.iload_n 3, 1) := by decide +kernel
theorem dX8_derive_3 : decode cX8_derive 3 = .ok (.aload_n 0, 1) := by decide +kernel
theorem dX8_derive_4 : decode cX8_derive 4 = .ok (.getfield 26, 3) := by decide +kernel
theorem dX8_derive_7 : decode cX8_derive 7 = .ok (.iload_n 1, 1) := by decide +kernel
theorem dX8_derive_8 : decode cX8_derive 8 = .ok (.iaload, 1) := by decide +kernel
theorem dX8_derive_9 : decode cX8_derive 9 = .ok (.if_icmp .gt 36, 3) := by decide +kernel
theorem dX8_derive_12 : decode cX8_derive 12 = .ok (.aload_n 0, 1) := by decide +kernel
theorem dX8_derive_13 : decode cX8_derive 13 = .ok (.getfield 22, 3) := by decide +kernel
theorem dX8_derive_16 : decode cX8_derive 16 = .ok (.bipush 24, 2) := by decide +kernel
theorem dX8_derive_18 : decode cX8_derive 18 = .ok (.iload_n 2, 1) := by decide +kernel
theorem dX8_derive_19 : decode cX8_derive 19 = .ok (.imul, 1) := by decide +kernel
theorem dX8_derive_20 : decode cX8_derive 20 = .ok (.iload_n 3, 1) := by decide +kernel
theorem dX8_derive_21 : decode cX8_derive 21 = .ok (.iadd, 1) := by decide +kernel
theorem dX8_derive_22 : decode cX8_derive 22 = .ok (.iconst 1, 1) := by decide +kernel
theorem dX8_derive_23 : decode cX8_derive 23 = .ok (.isub, 1) := by decide +kernel
theorem dX8_derive_24 : decode cX8_derive 24 = .ok (.iload_n 3, 1) := by decide +kernel
theorem dX8_derive_25 : decode cX8_derive 25 = .ok (.i2l, 1) := by decide +kernel
theorem dX8_derive_26 : decode cX8_derive 26 = .ok (.aload_n 0, 1) := by decide +kernel
theorem dX8_derive_27 : decode cX8_derive 27 = .ok (.getfield 22, 3) := by decide +kernel
theorem dX8_derive_30 : decode cX8_derive 30 = .ok (.bipush 24, 2) := by decide +kernel
theorem dX8_derive_32 : decode cX8_derive 32 = .ok (.iload_n 1, 1) := by decide +kernel
theorem dX8_derive_33 : decode cX8_derive 33 = .ok (.imul, 1) := by decide +kernel
theorem dX8_derive_34 : decode cX8_derive 34 = .ok (.iload_n 3, 1) := by decide +kernel
theorem dX8_derive_35 : decode cX8_derive 35 = .ok (.iadd, 1) := by decide +kernel
theorem dX8_derive_36 : decode cX8_derive 36 = .ok (.laload, 1) := by decide +kernel
theorem dX8_derive_37 : decode cX8_derive 37 = .ok (.lmul, 1) := by decide +kernel
theorem dX8_derive_38 : decode cX8_derive 38 = .ok (.lastore, 1) := by decide +kernel
theorem dX8_derive_39 : decode cX8_derive 39 = .ok (.iinc 3 1, 3) := by decide +kernel
theorem dX8_derive_42 : decode cX8_derive 42 = .ok (.goto (-40), 3) := by decide +kernel
theorem dX8_derive_45 : decode cX8_derive 45 = .ok (.aload_n 0, 1) := by decide +kernel
theorem dX8_derive_46 : decode cX8_derive 46 = .ok (.iload_n 2, 1) := by decide +kernel
theorem dX8_derive_47 : decode cX8_derive 47 = .ok (.aload_n 0, 1) := by decide +kernel
theorem dX8_derive_48 : decode cX8_derive 48 = .ok (.getfield 26, 3) := by decide +kernel
theorem dX8_derive_51 : decode cX8_derive 51 = .ok (.iload_n 1, 1) := by decide +kernel
theorem dX8_derive_52 : decode cX8_derive 52 = .ok (.iaload, 1) := by decide +kernel
theorem dX8_derive_53 : decode cX8_derive 53 = .ok (.iconst 1, 1) := by decide +kernel
theorem dX8_derive_54 : decode cX8_derive 54 = .ok (.isub, 1) := by decide +kernel
theorem dX8_derive_55 : decode cX8_derive 55 = .ok (.invokevirtual 57, 3) := by decide +kernel
theorem dX8_derive_58 : decode cX8_derive 58 = .ok (.return_, 1) := by decide +kernel
theorem dX8_divides_0 : decode cX8_divides 0 = .ok (.aload_n 0, 1) := by decide +kernel
theorem dX8_divides_1 : decode cX8_divides 1 = .ok (.getfield 26, 3) := by decide +kernel
theorem dX8_divides_4 : decode cX8_divides 4 = .ok (.iload_n 1, 1) := by decide +kernel
theorem dX8_divides_5 : decode cX8_divides 5 = .ok (.iaload, 1) := by decide +kernel
theorem dX8_divides_6 : decode cX8_divides 6 = .ok (.ifCond .ge 5, 3) := by decide +kernel
theorem dX8_divides_9 : decode cX8_divides 9 = .ok (.iconst 0, 1) := by decide +kernel
theorem dX8_divides_10 : decode cX8_divides 10 = .ok (.ireturn, 1) := by decide +kernel
theorem dX8_divides_11 : decode cX8_divides 11 = .ok (.iconst 0, 1) := by decide +kernel
theorem dX8_divides_12 : decode cX8_divides 12 = .ok (.istore 5, 2) := by decide +kernel
theorem dX8_divides_14 : decode cX8_divides 14 = .ok (.iload 5, 2) := by decide +kernel
theorem dX8_divides_16 : decode cX8_divides 16 = .ok (.aload_n 0, 1) := by decide +kernel
theorem dX8_divides_17 : decode cX8_divides 17 = .ok (.getfield 26, 3) := by decide +kernel
theorem dX8_divides_20 : decode cX8_divides 20 = .ok (.iload_n 1, 1) := by decide +kernel
theorem dX8_divides_21 : decode cX8_divides 21 = .ok (.iaload, 1) := by decide +kernel
theorem dX8_divides_22 : decode cX8_divides 22 = .ok (.if_icmp .gt 33, 3) := by decide +kernel
theorem dX8_divides_25 : decode cX8_divides 25 = .ok (.aload_n 0, 1) := by decide +kernel
theorem dX8_divides_26 : decode cX8_divides 26 = .ok (.getfield 22, 3) := by decide +kernel
theorem dX8_divides_29 : decode cX8_divides 29 = .ok (.bipush 24, 2) := by decide +kernel
theorem dX8_divides_31 : decode cX8_divides 31 = .ok (.iload_n 1, 1) := by decide +kernel
theorem dX8_divides_32 : decode cX8_divides 32 = .ok (.imul, 1) := by decide +kernel
theorem dX8_divides_33 : decode cX8_divides 33 = .ok (.iload 5, 2) := by decide +kernel
theorem dX8_divides_35 : decode cX8_divides 35 = .ok (.iadd, 1) := by decide +kernel
theorem dX8_divides_36 : decode cX8_divides 36 = .ok (.laload, 1) := by decide +kernel
theorem dX8_divides_37 : decode cX8_divides 37 = .ok (.invokestatic 49, 3) := by decide +kernel
theorem dX8_divides_40 : decode cX8_divides 40 = .ok (.ldc2_w 70, 3) := by decide +kernel
theorem dX8_divides_43 : decode cX8_divides 43 = .ok (.lcmp, 1) := by decide +kernel
theorem dX8_divides_44 : decode cX8_divides 44 = .ok (.ifCond .le 5, 3) := by decide +kernel
theorem dX8_divides_47 : decode cX8_divides 47 = .ok (.iconst 0, 1) := by decide +kernel
theorem dX8_divides_48 : decode cX8_divides 48 = .ok (.ireturn, 1) := by decide +kernel
theorem dX8_divides_49 : decode cX8_divides 49 = .ok (.iinc 5 1, 3) := by decide +kernel
theorem dX8_divides_52 : decode cX8_divides 52 = .ok (.goto (-38), 3) := by decide +kernel
theorem dX8_divides_55 : decode cX8_divides 55 = .ok (.aload_n 0, 1) := by decide +kernel
theorem dX8_divides_56 : decode cX8_divides 56 = .ok (.iload_n 2, 1) := by decide +kernel
theorem dX8_divides_57 : decode cX8_divides 57 = .ok (.iconst 4, 1) := by decide +kernel
theorem dX8_divides_58 : decode cX8_divides 58 = .ok (.invokevirtual 72, 3) := by decide +kernel
theorem dX8_divides_61 : decode cX8_divides 61 = .ok (.aload_n 0, 1) := by decide +kernel
theorem dX8_divides_62 : decode cX8_divides 62 = .ok (.getfield 26, 3) := by decide +kernel
theorem dX8_divides_65 : decode cX8_divides 65 = .ok (.iload_n 2, 1) := by decide +kernel
theorem dX8_divides_66 : decode cX8_divides 66 = .ok (.iaload, 1) := by decide +kernel
theorem dX8_divides_67 : decode cX8_divides 67 = .ok (.aload_n 0, 1) := by decide +kernel
theorem dX8_divides_68 : decode cX8_divides 68 = .ok (.getfield 26, 3) := by decide +kernel
theorem dX8_divides_71 : decode cX8_divides 71 = .ok (.iload_n 1, 1) := by decide +kernel
theorem dX8_divides_72 : decode cX8_divides 72 = .ok (.iaload, 1) := by decide +kernel
theorem dX8_divides_73 : decode cX8_divides 73 = .ok (.isub, 1) := by decide +kernel
theorem dX8_divides_74 : decode cX8_divides 74 = .ok (.istore 5, 2) := by decide +kernel
theorem dX8_divides_76 : decode cX8_divides 76 = .ok (.aload_n 0, 1) := by decide +kernel
theorem dX8_divides_77 : decode cX8_divides 77 = .ok (.getfield 22, 3) := by decide +kernel
theorem dX8_divides_80 : decode cX8_divides 80 = .ok (.bipush 24, 2) := by decide +kernel
theorem dX8_divides_82 : decode cX8_divides 82 = .ok (.iload_n 1, 1) := by decide +kernel
theorem dX8_divides_83 : decode cX8_divides 83 = .ok (.imul, 1) := by decide +kernel
theorem dX8_divides_84 : decode cX8_divides 84 = .ok (.aload_n 0, 1) := by decide +kernel
theorem dX8_divides_85 : decode cX8_divides 85 = .ok (.getfield 26, 3) := by decide +kernel
theorem dX8_divides_88 : decode cX8_divides 88 = .ok (.iload_n 1, 1) := by decide +kernel
theorem dX8_divides_89 : decode cX8_divides 89 = .ok (.iaload, 1) := by decide +kernel
theorem dX8_divides_90 : decode cX8_divides 90 = .ok (.iadd, 1) := by decide +kernel
theorem dX8_divides_91 : decode cX8_divides 91 = .ok (.laload, 1) := by decide +kernel
theorem dX8_divides_92 : decode cX8_divides 92 = .ok (.lstore 6, 2) := by decide +kernel
theorem dX8_divides_94 : decode cX8_divides 94 = .ok (.iload 5, 2) := by decide +kernel
theorem dX8_divides_96 : decode cX8_divides 96 = .ok (.istore 8, 2) := by decide +kernel
theorem dX8_divides_98 : decode cX8_divides 98 = .ok (.iload 8, 2) := by decide +kernel
theorem dX8_divides_100 : decode cX8_divides 100 = .ok (.ifCond .lt 123, 3) := by decide +kernel
theorem dX8_divides_103 : decode cX8_divides 103 = .ok (.aload_n 0, 1) := by decide +kernel
theorem dX8_divides_104 : decode cX8_divides 104 = .ok (.getfield 22, 3) := by decide +kernel
theorem dX8_divides_107 : decode cX8_divides 107 = .ok (.bipush 96, 2) := by decide +kernel
theorem dX8_divides_109 : decode cX8_divides 109 = .ok (.iload 8, 2) := by decide +kernel
theorem dX8_divides_111 : decode cX8_divides 111 = .ok (.iadd, 1) := by decide +kernel
theorem dX8_divides_112 : decode cX8_divides 112 = .ok (.aload_n 0, 1) := by decide +kernel
theorem dX8_divides_113 : decode cX8_divides 113 = .ok (.getfield 26, 3) := by decide +kernel
theorem dX8_divides_116 : decode cX8_divides 116 = .ok (.iload_n 1, 1) := by decide +kernel
theorem dX8_divides_117 : decode cX8_divides 117 = .ok (.iaload, 1) := by decide +kernel
theorem dX8_divides_118 : decode cX8_divides 118 = .ok (.iadd, 1) := by decide +kernel
theorem dX8_divides_119 : decode cX8_divides 119 = .ok (.laload, 1) := by decide +kernel
theorem dX8_divides_120 : decode cX8_divides 120 = .ok (.lstore 9, 2) := by decide +kernel
theorem dX8_divides_122 : decode cX8_divides 122 = .ok (.lload 9, 2) := by decide +kernel
theorem dX8_divides_124 : decode cX8_divides 124 = .ok (.lload 6, 2) := by decide +kernel
theorem dX8_divides_126 : decode cX8_divides 126 = .ok (.lrem, 1) := by decide +kernel
theorem dX8_divides_127 : decode cX8_divides 127 = .ok (.lconst 0, 1) := by decide +kernel
theorem dX8_divides_128 : decode cX8_divides 128 = .ok (.lcmp, 1) := by decide +kernel
theorem dX8_divides_129 : decode cX8_divides 129 = .ok (.ifCond .ne 16, 3) := by decide +kernel
theorem dX8_divides_132 : decode cX8_divides 132 = .ok (.lload 9, 2) := by decide +kernel
theorem dX8_divides_134 : decode cX8_divides 134 = .ok (.lload 6, 2) := by decide +kernel
theorem dX8_divides_136 : decode cX8_divides 136 = .ok (.ldiv, 1) := by decide +kernel
theorem dX8_divides_137 : decode cX8_divides 137 = .ok (.invokestatic 49, 3) := by decide +kernel
theorem dX8_divides_140 : decode cX8_divides 140 = .ok (.lload_n 3, 1) := by decide +kernel
theorem dX8_divides_141 : decode cX8_divides 141 = .ok (.lcmp, 1) := by decide +kernel
theorem dX8_divides_142 : decode cX8_divides 142 = .ok (.ifCond .le 5, 3) := by decide +kernel
theorem dX8_divides_145 : decode cX8_divides 145 = .ok (.iconst 0, 1) := by decide +kernel
theorem dX8_divides_146 : decode cX8_divides 146 = .ok (.ireturn, 1) := by decide +kernel
theorem dX8_divides_147 : decode cX8_divides 147 = .ok (.lload 9, 2) := by decide +kernel
theorem dX8_divides_149 : decode cX8_divides 149 = .ok (.lload 6, 2) := by decide +kernel
theorem dX8_divides_151 : decode cX8_divides 151 = .ok (.ldiv, 1) := by decide +kernel
theorem dX8_divides_152 : decode cX8_divides 152 = .ok (.lstore 11, 2) := by decide +kernel
theorem dX8_divides_154 : decode cX8_divides 154 = .ok (.aload_n 0, 1) := by decide +kernel
theorem dX8_divides_155 : decode cX8_divides 155 = .ok (.getfield 22, 3) := by decide +kernel
theorem dX8_divides_158 : decode cX8_divides 158 = .ok (.bipush 72, 2) := by decide +kernel
theorem dX8_divides_160 : decode cX8_divides 160 = .ok (.iload 8, 2) := by decide +kernel
theorem dX8_divides_162 : decode cX8_divides 162 = .ok (.iadd, 1) := by decide +kernel
theorem dX8_divides_163 : decode cX8_divides 163 = .ok (.lload 11, 2) := by decide +kernel
theorem dX8_divides_165 : decode cX8_divides 165 = .ok (.lastore, 1) := by decide +kernel
theorem dX8_divides_166 : decode cX8_divides 166 = .ok (.iconst 0, 1) := by decide +kernel
theorem dX8_divides_167 : decode cX8_divides 167 = .ok (.istore 13, 2) := by decide +kernel
theorem dX8_divides_169 : decode cX8_divides 169 = .ok (.iload 13, 2) := by decide +kernel
theorem dX8_divides_171 : decode cX8_divides 171 = .ok (.aload_n 0, 1) := by decide +kernel
theorem dX8_divides_172 : decode cX8_divides 172 = .ok (.getfield 26, 3) := by decide +kernel
theorem dX8_divides_175 : decode cX8_divides 175 = .ok (.iload_n 1, 1) := by decide +kernel
theorem dX8_divides_176 : decode cX8_divides 176 = .ok (.iaload, 1) := by decide +kernel
theorem dX8_divides_177 : decode cX8_divides 177 = .ok (.if_icmp .gt 40, 3) := by decide +kernel
theorem dX8_divides_180 : decode cX8_divides 180 = .ok (.aload_n 0, 1) := by decide +kernel
theorem dX8_divides_181 : decode cX8_divides 181 = .ok (.getfield 22, 3) := by decide +kernel
theorem dX8_divides_184 : decode cX8_divides 184 = .ok (.bipush 96, 2) := by decide +kernel
theorem dX8_divides_186 : decode cX8_divides 186 = .ok (.iload 8, 2) := by decide +kernel
theorem dX8_divides_188 : decode cX8_divides 188 = .ok (.iadd, 1) := by decide +kernel
theorem dX8_divides_189 : decode cX8_divides 189 = .ok (.iload 13, 2) := by decide +kernel
theorem dX8_divides_191 : decode cX8_divides 191 = .ok (.iadd, 1) := by decide +kernel
theorem dX8_divides_192 : decode cX8_divides 192 = .ok (.dup2, 1) := by decide +kernel
theorem dX8_divides_193 : decode cX8_divides 193 = .ok (.laload, 1) := by decide +kernel
theorem dX8_divides_194 : decode cX8_divides 194 = .ok (.lload 11, 2) := by decide +kernel
theorem dX8_divides_196 : decode cX8_divides 196 = .ok (.aload_n 0, 1) := by decide +kernel
theorem dX8_divides_197 : decode cX8_divides 197 = .ok (.getfield 22, 3) := by decide +kernel
theorem dX8_divides_200 : decode cX8_divides 200 = .ok (.bipush 24, 2) := by decide +kernel
theorem dX8_divides_202 : decode cX8_divides 202 = .ok (.iload_n 1, 1) := by decide +kernel
theorem dX8_divides_203 : decode cX8_divides 203 = .ok (.imul, 1) := by decide +kernel
theorem dX8_divides_204 : decode cX8_divides 204 = .ok (.iload 13, 2) := by decide +kernel
theorem dX8_divides_206 : decode cX8_divides 206 = .ok (.iadd, 1) := by decide +kernel
theorem dX8_divides_207 : decode cX8_divides 207 = .ok (.laload, 1) := by decide +kernel
theorem dX8_divides_208 : decode cX8_divides 208 = .ok (.lmul, 1) := by decide +kernel
theorem dX8_divides_209 : decode cX8_divides 209 = .ok (.lsub, 1) := by decide +kernel
theorem dX8_divides_210 : decode cX8_divides 210 = .ok (.lastore, 1) := by decide +kernel
theorem dX8_divides_211 : decode cX8_divides 211 = .ok (.iinc 13 1, 3) := by decide +kernel
theorem dX8_divides_214 : decode cX8_divides 214 = .ok (.goto (-45), 3) := by decide +kernel
theorem dX8_divides_217 : decode cX8_divides 217 = .ok (.iinc 8 (-1), 3) := by decide +kernel
theorem dX8_divides_220 : decode cX8_divides 220 = .ok (.goto (-122), 3) := by decide +kernel
theorem dX8_divides_223 : decode cX8_divides 223 = .ok (.iconst 0, 1) := by decide +kernel
theorem dX8_divides_224 : decode cX8_divides 224 = .ok (.istore 8, 2) := by decide +kernel
theorem dX8_divides_226 : decode cX8_divides 226 = .ok (.iload 8, 2) := by decide +kernel
theorem dX8_divides_228 : decode cX8_divides 228 = .ok (.aload_n 0, 1) := by decide +kernel
theorem dX8_divides_229 : decode cX8_divides 229 = .ok (.getfield 26, 3) := by decide +kernel
theorem dX8_divides_232 : decode cX8_divides 232 = .ok (.iload_n 2, 1) := by decide +kernel
theorem dX8_divides_233 : decode cX8_divides 233 = .ok (.iaload, 1) := by decide +kernel
theorem dX8_divides_234 : decode cX8_divides 234 = .ok (.if_icmp .gt 26, 3) := by decide +kernel
theorem dX8_divides_237 : decode cX8_divides 237 = .ok (.aload_n 0, 1) := by decide +kernel
theorem dX8_divides_238 : decode cX8_divides 238 = .ok (.getfield 22, 3) := by decide +kernel
theorem dX8_divides_241 : decode cX8_divides 241 = .ok (.bipush 96, 2) := by decide +kernel
theorem dX8_divides_243 : decode cX8_divides 243 = .ok (.iload 8, 2) := by decide +kernel
theorem dX8_divides_245 : decode cX8_divides 245 = .ok (.iadd, 1) := by decide +kernel
theorem dX8_divides_246 : decode cX8_divides 246 = .ok (.laload, 1) := by decide +kernel
theorem dX8_divides_247 : decode cX8_divides 247 = .ok (.lconst 0, 1) := by decide +kernel
theorem dX8_divides_248 : decode cX8_divides 248 = .ok (.lcmp, 1) := by decide +kernel
theorem dX8_divides_249 : decode cX8_divides 249 = .ok (.ifCond .eq 5, 3) := by decide +kernel
theorem dX8_divides_252 : decode cX8_divides 252 = .ok (.iconst 0, 1) := by decide +kernel
theorem dX8_divides_253 : decode cX8_divides 253 = .ok (.ireturn, 1) := by decide +kernel
theorem dX8_divides_254 : decode cX8_divides 254 = .ok (.iinc 8 1, 3) := by decide +kernel
theorem dX8_divides_257 : decode cX8_divides 257 = .ok (.goto (-31), 3) := by decide +kernel
theorem dX8_divides_260 : decode cX8_divides 260 = .ok (.aload_n 0, 1) := by decide +kernel
theorem dX8_divides_261 : decode cX8_divides 261 = .ok (.iconst 3, 1) := by decide +kernel
theorem dX8_divides_262 : decode cX8_divides 262 = .ok (.iload 5, 2) := by decide +kernel
theorem dX8_divides_264 : decode cX8_divides 264 = .ok (.invokevirtual 57, 3) := by decide +kernel
theorem dX8_divides_267 : decode cX8_divides 267 = .ok (.iconst 1, 1) := by decide +kernel
theorem dX8_divides_268 : decode cX8_divides 268 = .ok (.ireturn, 1) := by decide +kernel
theorem dX8_product_0 : decode cX8_product 0 = .ok (.lload_n 1, 1) := by decide +kernel
theorem dX8_product_1 : decode cX8_product 1 = .ok (.lload_n 3, 1) := by decide +kernel
theorem dX8_product_2 : decode cX8_product 2 = .ok (.bipush 20, 2) := by decide +kernel
theorem dX8_product_4 : decode cX8_product 4 = .ok (.lshr, 1) := by decide +kernel
theorem dX8_product_5 : decode cX8_product 5 = .ok (.lmul, 1) := by decide +kernel
theorem dX8_product_6 : decode cX8_product 6 = .ok (.aload_n 0, 1) := by decide +kernel
theorem dX8_product_7 : decode cX8_product 7 = .ok (.getfield 75, 3) := by decide +kernel
theorem dX8_product_10 : decode cX8_product 10 = .ok (.lrem, 1) := by decide +kernel
theorem dX8_product_11 : decode cX8_product 11 = .ok (.lstore 5, 2) := by decide +kernel
theorem dX8_product_13 : decode cX8_product 13 = .ok (.lload 5, 2) := by decide +kernel
theorem dX8_product_15 : decode cX8_product 15 = .ok (.bipush 20, 2) := by decide +kernel
theorem dX8_product_17 : decode cX8_product 17 = .ok (.lshl, 1) := by decide +kernel
theorem dX8_product_18 : decode cX8_product 18 = .ok (.lload_n 1, 1) := by decide +kernel
theorem dX8_product_19 : decode cX8_product 19 = .ok (.lload_n 3, 1) := by decide +kernel
theorem dX8_product_20 : decode cX8_product 20 = .ok (.ldc2_w 79, 3) := by decide +kernel
theorem dX8_product_23 : decode cX8_product 23 = .ok (.land, 1) := by decide +kernel
theorem dX8_product_24 : decode cX8_product 24 = .ok (.lmul, 1) := by decide +kernel
theorem dX8_product_25 : decode cX8_product 25 = .ok (.ladd, 1) := by decide +kernel
theorem dX8_product_26 : decode cX8_product 26 = .ok (.aload_n 0, 1) := by decide +kernel
theorem dX8_product_27 : decode cX8_product 27 = .ok (.getfield 75, 3) := by decide +kernel
theorem dX8_product_30 : decode cX8_product 30 = .ok (.lrem, 1) := by decide +kernel
theorem dX8_product_31 : decode cX8_product 31 = .ok (.lreturn, 1) := by decide +kernel
theorem dX8_power_0 : decode cX8_power 0 = .ok (.lconst 1, 1) := by decide +kernel
theorem dX8_power_1 : decode cX8_power 1 = .ok (.aload_n 0, 1) := by decide +kernel
theorem dX8_power_2 : decode cX8_power 2 = .ok (.getfield 75, 3) := by decide +kernel
theorem dX8_power_5 : decode cX8_power 5 = .ok (.lrem, 1) := by decide +kernel
theorem dX8_power_6 : decode cX8_power 6 = .ok (.lstore 5, 2) := by decide +kernel
theorem dX8_power_8 : decode cX8_power 8 = .ok (.lload_n 1, 1) := by decide +kernel
theorem dX8_power_9 : decode cX8_power 9 = .ok (.lstore 7, 2) := by decide +kernel
theorem dX8_power_11 : decode cX8_power 11 = .ok (.lload_n 3, 1) := by decide +kernel
theorem dX8_power_12 : decode cX8_power 12 = .ok (.lstore 9, 2) := by decide +kernel
theorem dX8_power_14 : decode cX8_power 14 = .ok (.lload 9, 2) := by decide +kernel
theorem dX8_power_16 : decode cX8_power 16 = .ok (.lconst 0, 1) := by decide +kernel
theorem dX8_power_17 : decode cX8_power 17 = .ok (.lcmp, 1) := by decide +kernel
theorem dX8_power_18 : decode cX8_power 18 = .ok (.ifCond .le 41, 3) := by decide +kernel
theorem dX8_power_21 : decode cX8_power 21 = .ok (.lload 9, 2) := by decide +kernel
theorem dX8_power_23 : decode cX8_power 23 = .ok (.lconst 1, 1) := by decide +kernel
theorem dX8_power_24 : decode cX8_power 24 = .ok (.land, 1) := by decide +kernel
theorem dX8_power_25 : decode cX8_power 25 = .ok (.lconst 1, 1) := by decide +kernel
theorem dX8_power_26 : decode cX8_power 26 = .ok (.lcmp, 1) := by decide +kernel
theorem dX8_power_27 : decode cX8_power 27 = .ok (.ifCond .ne 13, 3) := by decide +kernel
theorem dX8_power_30 : decode cX8_power 30 = .ok (.aload_n 0, 1) := by decide +kernel
theorem dX8_power_31 : decode cX8_power 31 = .ok (.lload 5, 2) := by decide +kernel
theorem dX8_power_33 : decode cX8_power 33 = .ok (.lload 7, 2) := by decide +kernel
theorem dX8_power_35 : decode cX8_power 35 = .ok (.invokevirtual 81, 3) := by decide +kernel
theorem dX8_power_38 : decode cX8_power 38 = .ok (.lstore 5, 2) := by decide +kernel
theorem dX8_power_40 : decode cX8_power 40 = .ok (.aload_n 0, 1) := by decide +kernel
theorem dX8_power_41 : decode cX8_power 41 = .ok (.lload 7, 2) := by decide +kernel
theorem dX8_power_43 : decode cX8_power 43 = .ok (.lload 7, 2) := by decide +kernel
theorem dX8_power_45 : decode cX8_power 45 = .ok (.invokevirtual 81, 3) := by decide +kernel
theorem dX8_power_48 : decode cX8_power 48 = .ok (.lstore 7, 2) := by decide +kernel
theorem dX8_power_50 : decode cX8_power 50 = .ok (.lload 9, 2) := by decide +kernel
theorem dX8_power_52 : decode cX8_power 52 = .ok (.iconst 1, 1) := by decide +kernel
theorem dX8_power_53 : decode cX8_power 53 = .ok (.lshr, 1) := by decide +kernel
theorem dX8_power_54 : decode cX8_power 54 = .ok (.lstore 9, 2) := by decide +kernel
theorem dX8_power_56 : decode cX8_power 56 = .ok (.goto (-42), 3) := by decide +kernel
theorem dX8_power_59 : decode cX8_power 59 = .ok (.lload 5, 2) := by decide +kernel
theorem dX8_power_61 : decode cX8_power 61 = .ok (.lreturn, 1) := by decide +kernel
theorem dX8_reduce_0 : decode cX8_reduce 0 = .ok (.aload_n 0, 1) := by decide +kernel
theorem dX8_reduce_1 : decode cX8_reduce 1 = .ok (.getfield 26, 3) := by decide +kernel
theorem dX8_reduce_4 : decode cX8_reduce 4 = .ok (.iload_n 1, 1) := by decide +kernel
theorem dX8_reduce_5 : decode cX8_reduce 5 = .ok (.iaload, 1) := by decide +kernel
theorem dX8_reduce_6 : decode cX8_reduce 6 = .ok (.istore_n 2, 1) := by decide +kernel
theorem dX8_reduce_7 : decode cX8_reduce 7 = .ok (.iconst 0, 1) := by decide +kernel
theorem dX8_reduce_8 : decode cX8_reduce 8 = .ok (.istore_n 3, 1) := by decide +kernel
theorem dX8_reduce_9 : decode cX8_reduce 9 = .ok (.iload_n 3, 1) := by decide +kernel
theorem dX8_reduce_10 : decode cX8_reduce 10 = .ok (.iload_n 2, 1) := by decide +kernel
theorem dX8_reduce_11 : decode cX8_reduce 11 = .ok (.if_icmp .gt 57, 3) := by decide +kernel
theorem dX8_reduce_14 : decode cX8_reduce 14 = .ok (.aload_n 0, 1) := by decide +kernel
theorem dX8_reduce_15 : decode cX8_reduce 15 = .ok (.getfield 22, 3) := by decide +kernel
theorem dX8_reduce_18 : decode cX8_reduce 18 = .ok (.bipush 24, 2) := by decide +kernel
theorem dX8_reduce_20 : decode cX8_reduce 20 = .ok (.iload_n 1, 1) := by decide +kernel
theorem dX8_reduce_21 : decode cX8_reduce 21 = .ok (.imul, 1) := by decide +kernel
theorem dX8_reduce_22 : decode cX8_reduce 22 = .ok (.iload_n 3, 1) := by decide +kernel
theorem dX8_reduce_23 : decode cX8_reduce 23 = .ok (.iadd, 1) := by decide +kernel
theorem dX8_reduce_24 : decode cX8_reduce 24 = .ok (.laload, 1) := by decide +kernel
theorem dX8_reduce_25 : decode cX8_reduce 25 = .ok (.aload_n 0, 1) := by decide +kernel
theorem dX8_reduce_26 : decode cX8_reduce 26 = .ok (.getfield 75, 3) := by decide +kernel
theorem dX8_reduce_29 : decode cX8_reduce 29 = .ok (.lrem, 1) := by decide +kernel
theorem dX8_reduce_30 : decode cX8_reduce 30 = .ok (.lstore 4, 2) := by decide +kernel
theorem dX8_reduce_32 : decode cX8_reduce 32 = .ok (.aload_n 0, 1) := by decide +kernel
theorem dX8_reduce_33 : decode cX8_reduce 33 = .ok (.getfield 22, 3) := by decide +kernel
theorem dX8_reduce_36 : decode cX8_reduce 36 = .ok (.bipush 24, 2) := by decide +kernel
theorem dX8_reduce_38 : decode cX8_reduce 38 = .ok (.iload_n 1, 1) := by decide +kernel
theorem dX8_reduce_39 : decode cX8_reduce 39 = .ok (.imul, 1) := by decide +kernel
theorem dX8_reduce_40 : decode cX8_reduce 40 = .ok (.iload_n 3, 1) := by decide +kernel
theorem dX8_reduce_41 : decode cX8_reduce 41 = .ok (.iadd, 1) := by decide +kernel
theorem dX8_reduce_42 : decode cX8_reduce 42 = .ok (.lload 4, 2) := by decide +kernel
theorem dX8_reduce_44 : decode cX8_reduce 44 = .ok (.lconst 0, 1) := by decide +kernel
theorem dX8_reduce_45 : decode cX8_reduce 45 = .ok (.lcmp, 1) := by decide +kernel
theorem dX8_reduce_46 : decode cX8_reduce 46 = .ok (.ifCond .ge 13, 3) := by decide +kernel
theorem dX8_reduce_49 : decode cX8_reduce 49 = .ok (.lload 4, 2) := by decide +kernel
theorem dX8_reduce_51 : decode cX8_reduce 51 = .ok (.aload_n 0, 1) := by decide +kernel
theorem dX8_reduce_52 : decode cX8_reduce 52 = .ok (.getfield 75, 3) := by decide +kernel
theorem dX8_reduce_55 : decode cX8_reduce 55 = .ok (.ladd, 1) := by decide +kernel
theorem dX8_reduce_56 : decode cX8_reduce 56 = .ok (.goto 5, 3) := by decide +kernel
theorem dX8_reduce_59 : decode cX8_reduce 59 = .ok (.lload 4, 2) := by decide +kernel
theorem dX8_reduce_61 : decode cX8_reduce 61 = .ok (.lastore, 1) := by decide +kernel
theorem dX8_reduce_62 : decode cX8_reduce 62 = .ok (.iinc 3 1, 3) := by decide +kernel
theorem dX8_reduce_65 : decode cX8_reduce 65 = .ok (.goto (-56), 3) := by decide +kernel
theorem dX8_reduce_68 : decode cX8_reduce 68 = .ok (.aload_n 0, 1) := by decide +kernel
theorem dX8_reduce_69 : decode cX8_reduce 69 = .ok (.iload_n 1, 1) := by decide +kernel
theorem dX8_reduce_70 : decode cX8_reduce 70 = .ok (.iload_n 2, 1) := by decide +kernel
theorem dX8_reduce_71 : decode cX8_reduce 71 = .ok (.invokevirtual 57, 3) := by decide +kernel
theorem dX8_reduce_74 : decode cX8_reduce 74 = .ok (.return_, 1) := by decide +kernel
theorem dX8_monic_0 : decode cX8_monic 0 = .ok (.aload_n 0, 1) := by decide +kernel
theorem dX8_monic_1 : decode cX8_monic 1 = .ok (.getfield 26, 3) := by decide +kernel
theorem dX8_monic_4 : decode cX8_monic 4 = .ok (.iload_n 1, 1) := by decide +kernel
theorem dX8_monic_5 : decode cX8_monic 5 = .ok (.iaload, 1) := by decide +kernel
theorem dX8_monic_6 : decode cX8_monic 6 = .ok (.ifCond .ge 4, 3) := by decide +kernel
theorem dX8_monic_9 : decode cX8_monic 9 = .ok (.return_, 1) := by decide +kernel
theorem dX8_monic_10 : decode cX8_monic 10 = .ok (.aload_n 0, 1) := by decide +kernel
theorem dX8_monic_11 : decode cX8_monic 11 = .ok (.aload_n 0, 1) := by decide +kernel
theorem dX8_monic_12 : decode cX8_monic 12 = .ok (.getfield 22, 3) := by decide +kernel
theorem dX8_monic_15 : decode cX8_monic 15 = .ok (.bipush 24, 2) := by decide +kernel
theorem dX8_monic_17 : decode cX8_monic 17 = .ok (.iload_n 1, 1) := by decide +kernel
theorem dX8_monic_18 : decode cX8_monic 18 = .ok (.imul, 1) := by decide +kernel
theorem dX8_monic_19 : decode cX8_monic 19 = .ok (.aload_n 0, 1) := by decide +kernel
theorem dX8_monic_20 : decode cX8_monic 20 = .ok (.getfield 26, 3) := by decide +kernel
theorem dX8_monic_23 : decode cX8_monic 23 = .ok (.iload_n 1, 1) := by decide +kernel
theorem dX8_monic_24 : decode cX8_monic 24 = .ok (.iaload, 1) := by decide +kernel
theorem dX8_monic_25 : decode cX8_monic 25 = .ok (.iadd, 1) := by decide +kernel
theorem dX8_monic_26 : decode cX8_monic 26 = .ok (.laload, 1) := by decide +kernel
theorem dX8_monic_27 : decode cX8_monic 27 = .ok (.aload_n 0, 1) := by decide +kernel
theorem dX8_monic_28 : decode cX8_monic 28 = .ok (.getfield 75, 3) := by decide +kernel
theorem dX8_monic_31 : decode cX8_monic 31 = .ok (.ldc2_w 84, 3) := by decide +kernel
theorem dX8_monic_34 : decode cX8_monic 34 = .ok (.lsub, 1) := by decide +kernel
theorem dX8_monic_35 : decode cX8_monic 35 = .ok (.invokevirtual 86, 3) := by decide +kernel
theorem dX8_monic_38 : decode cX8_monic 38 = .ok (.lstore_n 2, 1) := by decide +kernel
theorem dX8_monic_39 : decode cX8_monic 39 = .ok (.iconst 0, 1) := by decide +kernel
theorem dX8_monic_40 : decode cX8_monic 40 = .ok (.istore 4, 2) := by decide +kernel
theorem dX8_monic_42 : decode cX8_monic 42 = .ok (.iload 4, 2) := by decide +kernel
theorem dX8_monic_44 : decode cX8_monic 44 = .ok (.aload_n 0, 1) := by decide +kernel
theorem dX8_monic_45 : decode cX8_monic 45 = .ok (.getfield 26, 3) := by decide +kernel
theorem dX8_monic_48 : decode cX8_monic 48 = .ok (.iload_n 1, 1) := by decide +kernel
theorem dX8_monic_49 : decode cX8_monic 49 = .ok (.iaload, 1) := by decide +kernel
theorem dX8_monic_50 : decode cX8_monic 50 = .ok (.if_icmp .gt 64, 3) := by decide +kernel
theorem dX8_monic_53 : decode cX8_monic 53 = .ok (.aload_n 0, 1) := by decide +kernel
theorem dX8_monic_54 : decode cX8_monic 54 = .ok (.getfield 22, 3) := by decide +kernel
theorem dX8_monic_57 : decode cX8_monic 57 = .ok (.bipush 24, 2) := by decide +kernel
theorem dX8_monic_59 : decode cX8_monic 59 = .ok (.iload_n 1, 1) := by decide +kernel
theorem dX8_monic_60 : decode cX8_monic 60 = .ok (.imul, 1) := by decide +kernel
theorem dX8_monic_61 : decode cX8_monic 61 = .ok (.iload 4, 2) := by decide +kernel
theorem dX8_monic_63 : decode cX8_monic 63 = .ok (.iadd, 1) := by decide +kernel
theorem dX8_monic_64 : decode cX8_monic 64 = .ok (.aload_n 0, 1) := by decide +kernel
theorem dX8_monic_65 : decode cX8_monic 65 = .ok (.getfield 75, 3) := by decide +kernel
theorem dX8_monic_68 : decode cX8_monic 68 = .ok (.ldc2_w 84, 3) := by decide +kernel
theorem dX8_monic_71 : decode cX8_monic 71 = .ok (.lcmp, 1) := by decide +kernel
theorem dX8_monic_72 : decode cX8_monic 72 = .ok (.ifCond .ne 18, 3) := by decide +kernel
theorem dX8_monic_75 : decode cX8_monic 75 = .ok (.aload_n 0, 1) := by decide +kernel
theorem dX8_monic_76 : decode cX8_monic 76 = .ok (.getfield 22, 3) := by decide +kernel
theorem dX8_monic_79 : decode cX8_monic 79 = .ok (.bipush 24, 2) := by decide +kernel
theorem dX8_monic_81 : decode cX8_monic 81 = .ok (.iload_n 1, 1) := by decide +kernel
theorem dX8_monic_82 : decode cX8_monic 82 = .ok (.imul, 1) := by decide +kernel
theorem dX8_monic_83 : decode cX8_monic 83 = .ok (.iload 4, 2) := by decide +kernel
theorem dX8_monic_85 : decode cX8_monic 85 = .ok (.iadd, 1) := by decide +kernel
theorem dX8_monic_86 : decode cX8_monic 86 = .ok (.laload, 1) := by decide +kernel
theorem dX8_monic_87 : decode cX8_monic 87 = .ok (.goto 20, 3) := by decide +kernel
theorem dX8_monic_90 : decode cX8_monic 90 = .ok (.aload_n 0, 1) := by decide +kernel
theorem dX8_monic_91 : decode cX8_monic 91 = .ok (.aload_n 0, 1) := by decide +kernel
theorem dX8_monic_92 : decode cX8_monic 92 = .ok (.getfield 22, 3) := by decide +kernel
theorem dX8_monic_95 : decode cX8_monic 95 = .ok (.bipush 24, 2) := by decide +kernel
theorem dX8_monic_97 : decode cX8_monic 97 = .ok (.iload_n 1, 1) := by decide +kernel
theorem dX8_monic_98 : decode cX8_monic 98 = .ok (.imul, 1) := by decide +kernel
theorem dX8_monic_99 : decode cX8_monic 99 = .ok (.iload 4, 2) := by decide +kernel
theorem dX8_monic_101 : decode cX8_monic 101 = .ok (.iadd, 1) := by decide +kernel
theorem dX8_monic_102 : decode cX8_monic 102 = .ok (.laload, 1) := by decide +kernel
theorem dX8_monic_103 : decode cX8_monic 103 = .ok (.lload_n 2, 1) := by decide +kernel
theorem dX8_monic_104 : decode cX8_monic 104 = .ok (.invokevirtual 81, 3) := by decide +kernel
theorem dX8_monic_107 : decode cX8_monic 107 = .ok (.lastore, 1) := by decide +kernel
theorem dX8_monic_108 : decode cX8_monic 108 = .ok (.iinc 4 1, 3) := by decide +kernel
theorem dX8_monic_111 : decode cX8_monic 111 = .ok (.goto (-69), 3) := by decide +kernel
theorem dX8_monic_114 : decode cX8_monic 114 = .ok (.return_, 1) := by decide +kernel
theorem dX8_rest_0 : decode cX8_rest 0 = .ok (.aload_n 0, 1) := by decide +kernel
theorem dX8_rest_1 : decode cX8_rest 1 = .ok (.getfield 26, 3) := by decide +kernel
theorem dX8_rest_4 : decode cX8_rest 4 = .ok (.iload_n 1, 1) := by decide +kernel
theorem dX8_rest_5 : decode cX8_rest 5 = .ok (.iaload, 1) := by decide +kernel
theorem dX8_rest_6 : decode cX8_rest 6 = .ok (.istore_n 3, 1) := by decide +kernel
theorem dX8_rest_7 : decode cX8_rest 7 = .ok (.iload_n 3, 1) := by decide +kernel
theorem dX8_rest_8 : decode cX8_rest 8 = .ok (.aload_n 0, 1) := by decide +kernel
theorem dX8_rest_9 : decode cX8_rest 9 = .ok (.getfield 26, 3) := by decide +kernel
theorem dX8_rest_12 : decode cX8_rest 12 = .ok (.iload_n 2, 1) := by decide +kernel
theorem dX8_rest_13 : decode cX8_rest 13 = .ok (.iaload, 1) := by decide +kernel
theorem dX8_rest_14 : decode cX8_rest 14 = .ok (.isub, 1) := by decide +kernel
theorem dX8_rest_15 : decode cX8_rest 15 = .ok (.istore 4, 2) := by decide +kernel
theorem dX8_rest_17 : decode cX8_rest 17 = .ok (.iload 4, 2) := by decide +kernel
theorem dX8_rest_19 : decode cX8_rest 19 = .ok (.ifCond .lt 139, 3) := by decide +kernel
theorem dX8_rest_22 : decode cX8_rest 22 = .ok (.aload_n 0, 1) := by decide +kernel
theorem dX8_rest_23 : decode cX8_rest 23 = .ok (.getfield 22, 3) := by decide +kernel
theorem dX8_rest_26 : decode cX8_rest 26 = .ok (.bipush 24, 2) := by decide +kernel
theorem dX8_rest_28 : decode cX8_rest 28 = .ok (.iload_n 1, 1) := by decide +kernel
theorem dX8_rest_29 : decode cX8_rest 29 = .ok (.imul, 1) := by decide +kernel
theorem dX8_rest_30 : decode cX8_rest 30 = .ok (.iload 4, 2) := by decide +kernel
theorem dX8_rest_32 : decode cX8_rest 32 = .ok (.iadd, 1) := by decide +kernel
theorem dX8_rest_33 : decode cX8_rest 33 = .ok (.aload_n 0, 1) := by decide +kernel
theorem dX8_rest_34 : decode cX8_rest 34 = .ok (.getfield 26, 3) := by decide +kernel
theorem dX8_rest_37 : decode cX8_rest 37 = .ok (.iload_n 2, 1) := by decide +kernel
theorem dX8_rest_38 : decode cX8_rest 38 = .ok (.iaload, 1) := by decide +kernel
theorem dX8_rest_39 : decode cX8_rest 39 = .ok (.iadd, 1) := by decide +kernel
theorem dX8_rest_40 : decode cX8_rest 40 = .ok (.laload, 1) := by decide +kernel
theorem dX8_rest_41 : decode cX8_rest 41 = .ok (.lstore 5, 2) := by decide +kernel
theorem dX8_rest_43 : decode cX8_rest 43 = .ok (.aload_n 0, 1) := by decide +kernel
theorem dX8_rest_44 : decode cX8_rest 44 = .ok (.getfield 22, 3) := by decide +kernel
theorem dX8_rest_47 : decode cX8_rest 47 = .ok (.bipush 72, 2) := by decide +kernel
theorem dX8_rest_49 : decode cX8_rest 49 = .ok (.iload 4, 2) := by decide +kernel
theorem dX8_rest_51 : decode cX8_rest 51 = .ok (.iadd, 1) := by decide +kernel
theorem dX8_rest_52 : decode cX8_rest 52 = .ok (.lload 5, 2) := by decide +kernel
theorem dX8_rest_54 : decode cX8_rest 54 = .ok (.lastore, 1) := by decide +kernel
theorem dX8_rest_55 : decode cX8_rest 55 = .ok (.iconst 0, 1) := by decide +kernel
theorem dX8_rest_56 : decode cX8_rest 56 = .ok (.istore 7, 2) := by decide +kernel
theorem dX8_rest_58 : decode cX8_rest 58 = .ok (.iload 7, 2) := by decide +kernel
theorem dX8_rest_60 : decode cX8_rest 60 = .ok (.aload_n 0, 1) := by decide +kernel
theorem dX8_rest_61 : decode cX8_rest 61 = .ok (.getfield 26, 3) := by decide +kernel
theorem dX8_rest_64 : decode cX8_rest 64 = .ok (.iload_n 2, 1) := by decide +kernel
theorem dX8_rest_65 : decode cX8_rest 65 = .ok (.iaload, 1) := by decide +kernel
theorem dX8_rest_66 : decode cX8_rest 66 = .ok (.if_icmp .gt 86, 3) := by decide +kernel
theorem dX8_rest_69 : decode cX8_rest 69 = .ok (.lload 5, 2) := by decide +kernel
theorem dX8_rest_71 : decode cX8_rest 71 = .ok (.lconst 0, 1) := by decide +kernel
theorem dX8_rest_72 : decode cX8_rest 72 = .ok (.lcmp, 1) := by decide +kernel
theorem dX8_rest_73 : decode cX8_rest 73 = .ok (.ifCond .eq 79, 3) := by decide +kernel
theorem dX8_rest_76 : decode cX8_rest 76 = .ok (.aload_n 0, 1) := by decide +kernel
theorem dX8_rest_77 : decode cX8_rest 77 = .ok (.getfield 22, 3) := by decide +kernel
theorem dX8_rest_80 : decode cX8_rest 80 = .ok (.bipush 24, 2) := by decide +kernel
theorem dX8_rest_82 : decode cX8_rest 82 = .ok (.iload_n 1, 1) := by decide +kernel
theorem dX8_rest_83 : decode cX8_rest 83 = .ok (.imul, 1) := by decide +kernel
theorem dX8_rest_84 : decode cX8_rest 84 = .ok (.iload 4, 2) := by decide +kernel
theorem dX8_rest_86 : decode cX8_rest 86 = .ok (.iadd, 1) := by decide +kernel
theorem dX8_rest_87 : decode cX8_rest 87 = .ok (.iload 7, 2) := by decide +kernel
theorem dX8_rest_89 : decode cX8_rest 89 = .ok (.iadd, 1) := by decide +kernel
theorem dX8_rest_90 : decode cX8_rest 90 = .ok (.laload, 1) := by decide +kernel
theorem dX8_rest_91 : decode cX8_rest 91 = .ok (.aload_n 0, 1) := by decide +kernel
theorem dX8_rest_92 : decode cX8_rest 92 = .ok (.lload 5, 2) := by decide +kernel
theorem dX8_rest_94 : decode cX8_rest 94 = .ok (.aload_n 0, 1) := by decide +kernel
theorem dX8_rest_95 : decode cX8_rest 95 = .ok (.getfield 22, 3) := by decide +kernel
theorem dX8_rest_98 : decode cX8_rest 98 = .ok (.bipush 24, 2) := by decide +kernel
theorem dX8_rest_100 : decode cX8_rest 100 = .ok (.iload_n 2, 1) := by decide +kernel
theorem dX8_rest_101 : decode cX8_rest 101 = .ok (.imul, 1) := by decide +kernel
theorem dX8_rest_102 : decode cX8_rest 102 = .ok (.iload 7, 2) := by decide +kernel
theorem dX8_rest_104 : decode cX8_rest 104 = .ok (.iadd, 1) := by decide +kernel
theorem dX8_rest_105 : decode cX8_rest 105 = .ok (.laload, 1) := by decide +kernel
theorem dX8_rest_106 : decode cX8_rest 106 = .ok (.invokevirtual 81, 3) := by decide +kernel
theorem dX8_rest_109 : decode cX8_rest 109 = .ok (.lsub, 1) := by decide +kernel
theorem dX8_rest_110 : decode cX8_rest 110 = .ok (.lstore 8, 2) := by decide +kernel
theorem dX8_rest_112 : decode cX8_rest 112 = .ok (.aload_n 0, 1) := by decide +kernel
theorem dX8_rest_113 : decode cX8_rest 113 = .ok (.getfield 22, 3) := by decide +kernel
theorem dX8_rest_116 : decode cX8_rest 116 = .ok (.bipush 24, 2) := by decide +kernel
theorem dX8_rest_118 : decode cX8_rest 118 = .ok (.iload_n 1, 1) := by decide +kernel
theorem dX8_rest_119 : decode cX8_rest 119 = .ok (.imul, 1) := by decide +kernel
theorem dX8_rest_120 : decode cX8_rest 120 = .ok (.iload 4, 2) := by decide +kernel
theorem dX8_rest_122 : decode cX8_rest 122 = .ok (.iadd, 1) := by decide +kernel
theorem dX8_rest_123 : decode cX8_rest 123 = .ok (.iload 7, 2) := by decide +kernel
theorem dX8_rest_125 : decode cX8_rest 125 = .ok (.iadd, 1) := by decide +kernel
theorem dX8_rest_126 : decode cX8_rest 126 = .ok (.lload 8, 2) := by decide +kernel
theorem dX8_rest_128 : decode cX8_rest 128 = .ok (.lconst 0, 1) := by decide +kernel
theorem dX8_rest_129 : decode cX8_rest 129 = .ok (.lcmp, 1) := by decide +kernel
theorem dX8_rest_130 : decode cX8_rest 130 = .ok (.ifCond .ge 13, 3) := by decide +kernel
theorem dX8_rest_133 : decode cX8_rest 133 = .ok (.lload 8, 2) := by decide +kernel
theorem dX8_rest_135 : decode cX8_rest 135 = .ok (.aload_n 0, 1) := by decide +kernel
theorem dX8_rest_136 : decode cX8_rest 136 = .ok (.getfield 75, 3) := by decide +kernel
theorem dX8_rest_139 : decode cX8_rest 139 = .ok (.ladd, 1) := by decide +kernel
theorem dX8_rest_140 : decode cX8_rest 140 = .ok (.goto 5, 3) := by decide +kernel
theorem dX8_rest_143 : decode cX8_rest 143 = .ok (.lload 8, 2) := by decide +kernel
theorem dX8_rest_145 : decode cX8_rest 145 = .ok (.lastore, 1) := by decide +kernel
theorem dX8_rest_146 : decode cX8_rest 146 = .ok (.iinc 7 1, 3) := by decide +kernel
theorem dX8_rest_149 : decode cX8_rest 149 = .ok (.goto (-91), 3) := by decide +kernel
theorem dX8_rest_152 : decode cX8_rest 152 = .ok (.iinc 4 (-1), 3) := by decide +kernel
theorem dX8_rest_155 : decode cX8_rest 155 = .ok (.goto (-138), 3) := by decide +kernel
theorem dX8_rest_158 : decode cX8_rest 158 = .ok (.aload_n 0, 1) := by decide +kernel
theorem dX8_rest_159 : decode cX8_rest 159 = .ok (.iconst 3, 1) := by decide +kernel
theorem dX8_rest_160 : decode cX8_rest 160 = .ok (.iload_n 3, 1) := by decide +kernel
theorem dX8_rest_161 : decode cX8_rest 161 = .ok (.aload_n 0, 1) := by decide +kernel
theorem dX8_rest_162 : decode cX8_rest 162 = .ok (.getfield 26, 3) := by decide +kernel
theorem dX8_rest_165 : decode cX8_rest 165 = .ok (.iload_n 2, 1) := by decide +kernel
theorem dX8_rest_166 : decode cX8_rest 166 = .ok (.iaload, 1) := by decide +kernel
theorem dX8_rest_167 : decode cX8_rest 167 = .ok (.isub, 1) := by decide +kernel
theorem dX8_rest_168 : decode cX8_rest 168 = .ok (.invokevirtual 57, 3) := by decide +kernel
theorem dX8_rest_171 : decode cX8_rest 171 = .ok (.aload_n 0, 1) := by decide +kernel
theorem dX8_rest_172 : decode cX8_rest 172 = .ok (.iload_n 1, 1) := by decide +kernel
theorem dX8_rest_173 : decode cX8_rest 173 = .ok (.iload_n 3, 1) := by decide +kernel
theorem dX8_rest_174 : decode cX8_rest 174 = .ok (.aload_n 0, 1) := by decide +kernel
theorem dX8_rest_175 : decode cX8_rest 175 = .ok (.getfield 26, 3) := by decide +kernel
theorem dX8_rest_178 : decode cX8_rest 178 = .ok (.iload_n 2, 1) := by decide +kernel
theorem dX8_rest_179 : decode cX8_rest 179 = .ok (.iaload, 1) := by decide +kernel
theorem dX8_rest_180 : decode cX8_rest 180 = .ok (.if_icmp .ge 7, 3) := by decide +kernel
theorem dX8_rest_183 : decode cX8_rest 183 = .ok (.iload_n 3, 1) := by decide +kernel
theorem dX8_rest_184 : decode cX8_rest 184 = .ok (.goto 11, 3) := by decide +kernel
theorem dX8_rest_187 : decode cX8_rest 187 = .ok (.aload_n 0, 1) := by decide +kernel
theorem dX8_rest_188 : decode cX8_rest 188 = .ok (.getfield 26, 3) := by decide +kernel
theorem dX8_rest_191 : decode cX8_rest 191 = .ok (.iload_n 2, 1) := by decide +kernel
theorem dX8_rest_192 : decode cX8_rest 192 = .ok (.iaload, 1) := by decide +kernel
theorem dX8_rest_193 : decode cX8_rest 193 = .ok (.iconst 1, 1) := by decide +kernel
theorem dX8_rest_194 : decode cX8_rest 194 = .ok (.isub, 1) := by decide +kernel
theorem dX8_rest_195 : decode cX8_rest 195 = .ok (.invokevirtual 57, 3) := by decide +kernel
theorem dX8_rest_198 : decode cX8_rest 198 = .ok (.return_, 1) := by decide +kernel
theorem dX8_multiply_0 : decode cX8_multiply 0 = .ok (.aload_n 0, 1) := by decide +kernel
theorem dX8_multiply_1 : decode cX8_multiply 1 = .ok (.getfield 26, 3) := by decide +kernel
theorem dX8_multiply_4 : decode cX8_multiply 4 = .ok (.iload_n 1, 1) := by decide +kernel
theorem dX8_multiply_5 : decode cX8_multiply 5 = .ok (.iaload, 1) := by decide +kernel
theorem dX8_multiply_6 : decode cX8_multiply 6 = .ok (.ifCond .lt 12, 3) := by decide +kernel
theorem dX8_multiply_9 : decode cX8_multiply 9 = .ok (.aload_n 0, 1) := by decide +kernel
theorem dX8_multiply_10 : decode cX8_multiply 10 = .ok (.getfield 26, 3) := by decide +kernel
theorem dX8_multiply_13 : decode cX8_multiply 13 = .ok (.iload_n 2, 1) := by decide +kernel
theorem dX8_multiply_14 : decode cX8_multiply 14 = .ok (.iaload, 1) := by decide +kernel
theorem dX8_multiply_15 : decode cX8_multiply 15 = .ok (.ifCond .ge 7, 3) := by decide +kernel
theorem dX8_multiply_18 : decode cX8_multiply 18 = .ok (.iconst (-1), 1) := by decide +kernel
theorem dX8_multiply_19 : decode cX8_multiply 19 = .ok (.goto 16, 3) := by decide +kernel
theorem dX8_multiply_22 : decode cX8_multiply 22 = .ok (.aload_n 0, 1) := by decide +kernel
theorem dX8_multiply_23 : decode cX8_multiply 23 = .ok (.getfield 26, 3) := by decide +kernel
theorem dX8_multiply_26 : decode cX8_multiply 26 = .ok (.iload_n 1, 1) := by decide +kernel
theorem dX8_multiply_27 : decode cX8_multiply 27 = .ok (.iaload, 1) := by decide +kernel
theorem dX8_multiply_28 : decode cX8_multiply 28 = .ok (.aload_n 0, 1) := by decide +kernel
theorem dX8_multiply_29 : decode cX8_multiply 29 = .ok (.getfield 26, 3) := by decide +kernel
theorem dX8_multiply_32 : decode cX8_multiply 32 = .ok (.iload_n 2, 1) := by decide +kernel
theorem dX8_multiply_33 : decode cX8_multiply 33 = .ok (.iaload, 1) := by decide +kernel
theorem dX8_multiply_34 : decode cX8_multiply 34 = .ok (.iadd, 1) := by decide +kernel
theorem dX8_multiply_35 : decode cX8_multiply 35 = .ok (.istore 5, 2) := by decide +kernel
theorem dX8_multiply_37 : decode cX8_multiply 37 = .ok (.iconst 0, 1) := by decide +kernel
theorem dX8_multiply_38 : decode cX8_multiply 38 = .ok (.istore 6, 2) := by decide +kernel
theorem dX8_multiply_40 : decode cX8_multiply 40 = .ok (.iload 6, 2) := by decide +kernel
theorem dX8_multiply_42 : decode cX8_multiply 42 = .ok (.iload 5, 2) := by decide +kernel
theorem dX8_multiply_44 : decode cX8_multiply 44 = .ok (.if_icmp .gt 21, 3) := by decide +kernel
theorem dX8_multiply_47 : decode cX8_multiply 47 = .ok (.aload_n 0, 1) := by decide +kernel
theorem dX8_multiply_48 : decode cX8_multiply 48 = .ok (.getfield 22, 3) := by decide +kernel
theorem dX8_multiply_51 : decode cX8_multiply 51 = .ok (.sipush 192, 3) := by decide +kernel
theorem dX8_multiply_54 : decode cX8_multiply 54 = .ok (.iload 6, 2) := by decide +kernel
theorem dX8_multiply_56 : decode cX8_multiply 56 = .ok (.iadd, 1) := by decide +kernel
theorem dX8_multiply_57 : decode cX8_multiply 57 = .ok (.lconst 0, 1) := by decide +kernel
theorem dX8_multiply_58 : decode cX8_multiply 58 = .ok (.lastore, 1) := by decide +kernel
theorem dX8_multiply_59 : decode cX8_multiply 59 = .ok (.iinc 6 1, 3) := by decide +kernel
theorem dX8_multiply_62 : decode cX8_multiply 62 = .ok (.goto (-22), 3) := by decide +kernel
theorem dX8_multiply_65 : decode cX8_multiply 65 = .ok (.iconst 0, 1) := by decide +kernel
theorem dX8_multiply_66 : decode cX8_multiply 66 = .ok (.istore 6, 2) := by decide +kernel
theorem dX8_multiply_68 : decode cX8_multiply 68 = .ok (.iload 6, 2) := by decide +kernel
theorem dX8_multiply_70 : decode cX8_multiply 70 = .ok (.aload_n 0, 1) := by decide +kernel
theorem dX8_multiply_71 : decode cX8_multiply 71 = .ok (.getfield 26, 3) := by decide +kernel
theorem dX8_multiply_74 : decode cX8_multiply 74 = .ok (.iload_n 1, 1) := by decide +kernel
theorem dX8_multiply_75 : decode cX8_multiply 75 = .ok (.iaload, 1) := by decide +kernel
theorem dX8_multiply_76 : decode cX8_multiply 76 = .ok (.if_icmp .gt 115, 3) := by decide +kernel
theorem dX8_multiply_79 : decode cX8_multiply 79 = .ok (.iload 5, 2) := by decide +kernel
theorem dX8_multiply_81 : decode cX8_multiply 81 = .ok (.ifCond .lt 110, 3) := by decide +kernel
theorem dX8_multiply_84 : decode cX8_multiply 84 = .ok (.iconst 0, 1) := by decide +kernel
theorem dX8_multiply_85 : decode cX8_multiply 85 = .ok (.istore 7, 2) := by decide +kernel
theorem dX8_multiply_87 : decode cX8_multiply 87 = .ok (.iload 7, 2) := by decide +kernel
theorem dX8_multiply_89 : decode cX8_multiply 89 = .ok (.aload_n 0, 1) := by decide +kernel
theorem dX8_multiply_90 : decode cX8_multiply 90 = .ok (.getfield 26, 3) := by decide +kernel
theorem dX8_multiply_93 : decode cX8_multiply 93 = .ok (.iload_n 2, 1) := by decide +kernel
theorem dX8_multiply_94 : decode cX8_multiply 94 = .ok (.iaload, 1) := by decide +kernel
theorem dX8_multiply_95 : decode cX8_multiply 95 = .ok (.if_icmp .gt 90, 3) := by decide +kernel
theorem dX8_multiply_98 : decode cX8_multiply 98 = .ok (.aload_n 0, 1) := by decide +kernel
theorem dX8_multiply_99 : decode cX8_multiply 99 = .ok (.getfield 22, 3) := by decide +kernel
theorem dX8_multiply_102 : decode cX8_multiply 102 = .ok (.sipush 192, 3) := by decide +kernel
theorem dX8_multiply_105 : decode cX8_multiply 105 = .ok (.iload 6, 2) := by decide +kernel
theorem dX8_multiply_107 : decode cX8_multiply 107 = .ok (.iadd, 1) := by decide +kernel
theorem dX8_multiply_108 : decode cX8_multiply 108 = .ok (.iload 7, 2) := by decide +kernel
theorem dX8_multiply_110 : decode cX8_multiply 110 = .ok (.iadd, 1) := by decide +kernel
theorem dX8_multiply_111 : decode cX8_multiply 111 = .ok (.laload, 1) := by decide +kernel
theorem dX8_multiply_112 : decode cX8_multiply 112 = .ok (.aload_n 0, 1) := by decide +kernel
theorem dX8_multiply_113 : decode cX8_multiply 113 = .ok (.aload_n 0, 1) := by decide +kernel
theorem dX8_multiply_114 : decode cX8_multiply 114 = .ok (.getfield 22, 3) := by decide +kernel
theorem dX8_multiply_117 : decode cX8_multiply 117 = .ok (.bipush 24, 2) := by decide +kernel
theorem dX8_multiply_119 : decode cX8_multiply 119 = .ok (.iload_n 1, 1) := by decide +kernel
theorem dX8_multiply_120 : decode cX8_multiply 120 = .ok (.imul, 1) := by decide +kernel
theorem dX8_multiply_121 : decode cX8_multiply 121 = .ok (.iload 6, 2) := by decide +kernel
theorem dX8_multiply_123 : decode cX8_multiply 123 = .ok (.iadd, 1) := by decide +kernel
theorem dX8_multiply_124 : decode cX8_multiply 124 = .ok (.laload, 1) := by decide +kernel
theorem dX8_multiply_125 : decode cX8_multiply 125 = .ok (.aload_n 0, 1) := by decide +kernel
theorem dX8_multiply_126 : decode cX8_multiply 126 = .ok (.getfield 22, 3) := by decide +kernel
theorem dX8_multiply_129 : decode cX8_multiply 129 = .ok (.bipush 24, 2) := by decide +kernel
theorem dX8_multiply_131 : decode cX8_multiply 131 = .ok (.iload_n 2, 1) := by decide +kernel
theorem dX8_multiply_132 : decode cX8_multiply 132 = .ok (.imul, 1) := by decide +kernel
theorem dX8_multiply_133 : decode cX8_multiply 133 = .ok (.iload 7, 2) := by decide +kernel
theorem dX8_multiply_135 : decode cX8_multiply 135 = .ok (.iadd, 1) := by decide +kernel
theorem dX8_multiply_136 : decode cX8_multiply 136 = .ok (.laload, 1) := by decide +kernel
theorem dX8_multiply_137 : decode cX8_multiply 137 = .ok (.invokevirtual 81, 3) := by decide +kernel
theorem dX8_multiply_140 : decode cX8_multiply 140 = .ok (.ladd, 1) := by decide +kernel
theorem dX8_multiply_141 : decode cX8_multiply 141 = .ok (.lstore 8, 2) := by decide +kernel
theorem dX8_multiply_143 : decode cX8_multiply 143 = .ok (.aload_n 0, 1) := by decide +kernel
theorem dX8_multiply_144 : decode cX8_multiply 144 = .ok (.getfield 22, 3) := by decide +kernel
theorem dX8_multiply_147 : decode cX8_multiply 147 = .ok (.sipush 192, 3) := by decide +kernel
theorem dX8_multiply_150 : decode cX8_multiply 150 = .ok (.iload 6, 2) := by decide +kernel
theorem dX8_multiply_152 : decode cX8_multiply 152 = .ok (.iadd, 1) := by decide +kernel
theorem dX8_multiply_153 : decode cX8_multiply 153 = .ok (.iload 7, 2) := by decide +kernel
theorem dX8_multiply_155 : decode cX8_multiply 155 = .ok (.iadd, 1) := by decide +kernel
theorem dX8_multiply_156 : decode cX8_multiply 156 = .ok (.lload 8, 2) := by decide +kernel
theorem dX8_multiply_158 : decode cX8_multiply 158 = .ok (.aload_n 0, 1) := by decide +kernel
theorem dX8_multiply_159 : decode cX8_multiply 159 = .ok (.getfield 75, 3) := by decide +kernel
theorem dX8_multiply_162 : decode cX8_multiply 162 = .ok (.lcmp, 1) := by decide +kernel
theorem dX8_multiply_163 : decode cX8_multiply 163 = .ok (.ifCond .lt 13, 3) := by decide +kernel
theorem dX8_multiply_166 : decode cX8_multiply 166 = .ok (.lload 8, 2) := by decide +kernel
theorem dX8_multiply_168 : decode cX8_multiply 168 = .ok (.aload_n 0, 1) := by decide +kernel
theorem dX8_multiply_169 : decode cX8_multiply 169 = .ok (.getfield 75, 3) := by decide +kernel
theorem dX8_multiply_172 : decode cX8_multiply 172 = .ok (.lsub, 1) := by decide +kernel
theorem dX8_multiply_173 : decode cX8_multiply 173 = .ok (.goto 5, 3) := by decide +kernel
theorem dX8_multiply_176 : decode cX8_multiply 176 = .ok (.lload 8, 2) := by decide +kernel
theorem dX8_multiply_178 : decode cX8_multiply 178 = .ok (.lastore, 1) := by decide +kernel
theorem dX8_multiply_179 : decode cX8_multiply 179 = .ok (.iinc 7 1, 3) := by decide +kernel
theorem dX8_multiply_182 : decode cX8_multiply 182 = .ok (.goto (-95), 3) := by decide +kernel
theorem dX8_multiply_185 : decode cX8_multiply 185 = .ok (.iinc 6 1, 3) := by decide +kernel
theorem dX8_multiply_188 : decode cX8_multiply 188 = .ok (.goto (-120), 3) := by decide +kernel
theorem dX8_multiply_191 : decode cX8_multiply 191 = .ok (.aload_n 0, 1) := by decide +kernel
theorem dX8_multiply_192 : decode cX8_multiply 192 = .ok (.bipush 8, 2) := by decide +kernel
theorem dX8_multiply_194 : decode cX8_multiply 194 = .ok (.iload 5, 2) := by decide +kernel
theorem dX8_multiply_196 : decode cX8_multiply 196 = .ok (.invokevirtual 57, 3) := by decide +kernel
theorem dX8_multiply_199 : decode cX8_multiply 199 = .ok (.aload_n 0, 1) := by decide +kernel
theorem dX8_multiply_200 : decode cX8_multiply 200 = .ok (.bipush 8, 2) := by decide +kernel
theorem dX8_multiply_202 : decode cX8_multiply 202 = .ok (.iload_n 3, 1) := by decide +kernel
theorem dX8_multiply_203 : decode cX8_multiply 203 = .ok (.invokevirtual 89, 3) := by decide +kernel
theorem dX8_multiply_206 : decode cX8_multiply 206 = .ok (.aload_n 0, 1) := by decide +kernel
theorem dX8_multiply_207 : decode cX8_multiply 207 = .ok (.bipush 8, 2) := by decide +kernel
theorem dX8_multiply_209 : decode cX8_multiply 209 = .ok (.iload 4, 2) := by decide +kernel
theorem dX8_multiply_211 : decode cX8_multiply 211 = .ok (.invokevirtual 72, 3) := by decide +kernel
theorem dX8_multiply_214 : decode cX8_multiply 214 = .ok (.return_, 1) := by decide +kernel
theorem dX8_raise_0 : decode cX8_raise 0 = .ok (.aload_n 0, 1) := by decide +kernel
theorem dX8_raise_1 : decode cX8_raise 1 = .ok (.iload_n 1, 1) := by decide +kernel
theorem dX8_raise_2 : decode cX8_raise 2 = .ok (.bipush 9, 2) := by decide +kernel
theorem dX8_raise_4 : decode cX8_raise 4 = .ok (.invokevirtual 72, 3) := by decide +kernel
theorem dX8_raise_7 : decode cX8_raise 7 = .ok (.aload_n 0, 1) := by decide +kernel
theorem dX8_raise_8 : decode cX8_raise 8 = .ok (.bipush 9, 2) := by decide +kernel
theorem dX8_raise_10 : decode cX8_raise 10 = .ok (.iload 4, 2) := by decide +kernel
theorem dX8_raise_12 : decode cX8_raise 12 = .ok (.invokevirtual 89, 3) := by decide +kernel
theorem dX8_raise_15 : decode cX8_raise 15 = .ok (.aload_n 0, 1) := by decide +kernel
theorem dX8_raise_16 : decode cX8_raise 16 = .ok (.iload 5, 2) := by decide +kernel
theorem dX8_raise_18 : decode cX8_raise 18 = .ok (.aload_n 0, 1) := by decide +kernel
theorem dX8_raise_19 : decode cX8_raise 19 = .ok (.getfield 26, 3) := by decide +kernel
theorem dX8_raise_22 : decode cX8_raise 22 = .ok (.iload 4, 2) := by decide +kernel
theorem dX8_raise_24 : decode cX8_raise 24 = .ok (.iaload, 1) := by decide +kernel
theorem dX8_raise_25 : decode cX8_raise 25 = .ok (.ifCond .ne 7, 3) := by decide +kernel
theorem dX8_raise_28 : decode cX8_raise 28 = .ok (.lconst 0, 1) := by decide +kernel
theorem dX8_raise_29 : decode cX8_raise 29 = .ok (.goto 4, 3) := by decide +kernel
theorem dX8_raise_32 : decode cX8_raise 32 = .ok (.lconst 1, 1) := by decide +kernel
theorem dX8_raise_33 : decode cX8_raise 33 = .ok (.invokevirtual 92, 3) := by decide +kernel
theorem dX8_raise_36 : decode cX8_raise 36 = .ok (.lload_n 2, 1) := by decide +kernel
theorem dX8_raise_37 : decode cX8_raise 37 = .ok (.lstore 6, 2) := by decide +kernel
theorem dX8_raise_39 : decode cX8_raise 39 = .ok (.lload 6, 2) := by decide +kernel
theorem dX8_raise_41 : decode cX8_raise 41 = .ok (.lconst 0, 1) := by decide +kernel
theorem dX8_raise_42 : decode cX8_raise 42 = .ok (.lcmp, 1) := by decide +kernel
theorem dX8_raise_43 : decode cX8_raise 43 = .ok (.ifCond .le 52, 3) := by decide +kernel
theorem dX8_raise_46 : decode cX8_raise 46 = .ok (.lload 6, 2) := by decide +kernel
theorem dX8_raise_48 : decode cX8_raise 48 = .ok (.lconst 1, 1) := by decide +kernel
theorem dX8_raise_49 : decode cX8_raise 49 = .ok (.land, 1) := by decide +kernel
theorem dX8_raise_50 : decode cX8_raise 50 = .ok (.lconst 1, 1) := by decide +kernel
theorem dX8_raise_51 : decode cX8_raise 51 = .ok (.lcmp, 1) := by decide +kernel
theorem dX8_raise_52 : decode cX8_raise 52 = .ok (.ifCond .ne 15, 3) := by decide +kernel
theorem dX8_raise_55 : decode cX8_raise 55 = .ok (.aload_n 0, 1) := by decide +kernel
theorem dX8_raise_56 : decode cX8_raise 56 = .ok (.iload 5, 2) := by decide +kernel
theorem dX8_raise_58 : decode cX8_raise 58 = .ok (.bipush 9, 2) := by decide +kernel
theorem dX8_raise_60 : decode cX8_raise 60 = .ok (.iload 4, 2) := by decide +kernel
theorem dX8_raise_62 : decode cX8_raise 62 = .ok (.iload 5, 2) := by decide +kernel
theorem dX8_raise_64 : decode cX8_raise 64 = .ok (.invokevirtual 96, 3) := by decide +kernel
theorem dX8_raise_67 : decode cX8_raise 67 = .ok (.lload 6, 2) := by decide +kernel
theorem dX8_raise_69 : decode cX8_raise 69 = .ok (.lconst 1, 1) := by decide +kernel
theorem dX8_raise_70 : decode cX8_raise 70 = .ok (.lcmp, 1) := by decide +kernel
theorem dX8_raise_71 : decode cX8_raise 71 = .ok (.ifCond .le 15, 3) := by decide +kernel
theorem dX8_raise_74 : decode cX8_raise 74 = .ok (.aload_n 0, 1) := by decide +kernel
theorem dX8_raise_75 : decode cX8_raise 75 = .ok (.bipush 9, 2) := by decide +kernel
theorem dX8_raise_77 : decode cX8_raise 77 = .ok (.bipush 9, 2) := by decide +kernel
theorem dX8_raise_79 : decode cX8_raise 79 = .ok (.iload 4, 2) := by decide +kernel
theorem dX8_raise_81 : decode cX8_raise 81 = .ok (.bipush 9, 2) := by decide +kernel
theorem dX8_raise_83 : decode cX8_raise 83 = .ok (.invokevirtual 96, 3) := by decide +kernel
theorem dX8_raise_86 : decode cX8_raise 86 = .ok (.lload 6, 2) := by decide +kernel
theorem dX8_raise_88 : decode cX8_raise 88 = .ok (.iconst 1, 1) := by decide +kernel
theorem dX8_raise_89 : decode cX8_raise 89 = .ok (.lshr, 1) := by decide +kernel
theorem dX8_raise_90 : decode cX8_raise 90 = .ok (.lstore 6, 2) := by decide +kernel
theorem dX8_raise_92 : decode cX8_raise 92 = .ok (.goto (-53), 3) := by decide +kernel
theorem dX8_raise_95 : decode cX8_raise 95 = .ok (.return_, 1) := by decide +kernel
theorem dX8_commonRow_0 : decode cX8_commonRow 0 = .ok (.iload_n 1, 1) := by decide +kernel
theorem dX8_commonRow_1 : decode cX8_commonRow 1 = .ok (.istore 4, 2) := by decide +kernel
theorem dX8_commonRow_3 : decode cX8_commonRow 3 = .ok (.iload_n 2, 1) := by decide +kernel
theorem dX8_commonRow_4 : decode cX8_commonRow 4 = .ok (.istore 5, 2) := by decide +kernel
theorem dX8_commonRow_6 : decode cX8_commonRow 6 = .ok (.aload_n 0, 1) := by decide +kernel
theorem dX8_commonRow_7 : decode cX8_commonRow 7 = .ok (.getfield 26, 3) := by decide +kernel
theorem dX8_commonRow_10 : decode cX8_commonRow 10 = .ok (.iload 5, 2) := by decide +kernel
theorem dX8_commonRow_12 : decode cX8_commonRow 12 = .ok (.iaload, 1) := by decide +kernel
theorem dX8_commonRow_13 : decode cX8_commonRow 13 = .ok (.ifCond .lt 32, 3) := by decide +kernel
theorem dX8_commonRow_16 : decode cX8_commonRow 16 = .ok (.aload_n 0, 1) := by decide +kernel
theorem dX8_commonRow_17 : decode cX8_commonRow 17 = .ok (.iload 5, 2) := by decide +kernel
theorem dX8_commonRow_19 : decode cX8_commonRow 19 = .ok (.invokevirtual 100, 3) := by decide +kernel
theorem dX8_commonRow_22 : decode cX8_commonRow 22 = .ok (.aload_n 0, 1) := by decide +kernel
theorem dX8_commonRow_23 : decode cX8_commonRow 23 = .ok (.iload 4, 2) := by decide +kernel
theorem dX8_commonRow_25 : decode cX8_commonRow 25 = .ok (.iload 5, 2) := by decide +kernel
theorem dX8_commonRow_27 : decode cX8_commonRow 27 = .ok (.invokevirtual 89, 3) := by decide +kernel
theorem dX8_commonRow_30 : decode cX8_commonRow 30 = .ok (.iload 4, 2) := by decide +kernel
theorem dX8_commonRow_32 : decode cX8_commonRow 32 = .ok (.istore 6, 2) := by decide +kernel
theorem dX8_commonRow_34 : decode cX8_commonRow 34 = .ok (.iload 5, 2) := by decide +kernel
theorem dX8_commonRow_36 : decode cX8_commonRow 36 = .ok (.istore 4, 2) := by decide +kernel
theorem dX8_commonRow_38 : decode cX8_commonRow 38 = .ok (.iload 6, 2) := by decide +kernel
theorem dX8_commonRow_40 : decode cX8_commonRow 40 = .ok (.istore 5, 2) := by decide +kernel
theorem dX8_commonRow_42 : decode cX8_commonRow 42 = .ok (.goto (-36), 3) := by decide +kernel
theorem dX8_commonRow_45 : decode cX8_commonRow 45 = .ok (.aload_n 0, 1) := by decide +kernel
theorem dX8_commonRow_46 : decode cX8_commonRow 46 = .ok (.iload 4, 2) := by decide +kernel
theorem dX8_commonRow_48 : decode cX8_commonRow 48 = .ok (.invokevirtual 100, 3) := by decide +kernel
theorem dX8_commonRow_51 : decode cX8_commonRow 51 = .ok (.aload_n 0, 1) := by decide +kernel
theorem dX8_commonRow_52 : decode cX8_commonRow 52 = .ok (.iload 4, 2) := by decide +kernel
theorem dX8_commonRow_54 : decode cX8_commonRow 54 = .ok (.iload_n 3, 1) := by decide +kernel
theorem dX8_commonRow_55 : decode cX8_commonRow 55 = .ok (.invokevirtual 72, 3) := by decide +kernel
theorem dX8_commonRow_58 : decode cX8_commonRow 58 = .ok (.return_, 1) := by decide +kernel
theorem dX8_takePrime_0 : decode cX8_takePrime 0 = .ok (.aload_n 0, 1) := by decide +kernel
theorem dX8_takePrime_1 : decode cX8_takePrime 1 = .ok (.ldc2_w 104, 3) := by decide +kernel
theorem dX8_takePrime_4 : decode cX8_takePrime 4 = .ok (.aload_n 0, 1) := by decide +kernel
theorem dX8_takePrime_5 : decode cX8_takePrime 5 = .ok (.getfield 7, 3) := by decide +kernel
theorem dX8_takePrime_8 : decode cX8_takePrime 8 = .ok (.iload_n 1, 1) := by decide +kernel
theorem dX8_takePrime_9 : decode cX8_takePrime 9 = .ok (.iaload, 1) := by decide +kernel
theorem dX8_takePrime_10 : decode cX8_takePrime 10 = .ok (.i2l, 1) := by decide +kernel
theorem dX8_takePrime_11 : decode cX8_takePrime 11 = .ok (.lsub, 1) := by decide +kernel
theorem dX8_takePrime_12 : decode cX8_takePrime 12 = .ok (.putfield 75, 3) := by decide +kernel
theorem dX8_takePrime_15 : decode cX8_takePrime 15 = .ok (.return_, 1) := by decide +kernel
theorem dX8_center_0 : decode cX8_center 0 = .ok (.iconst 0, 1) := by decide +kernel
theorem dX8_center_1 : decode cX8_center 1 = .ok (.istore_n 2, 1) := by decide +kernel
theorem dX8_center_2 : decode cX8_center 2 = .ok (.iload_n 2, 1) := by decide +kernel
theorem dX8_center_3 : decode cX8_center 3 = .ok (.aload_n 0, 1) := by decide +kernel
theorem dX8_center_4 : decode cX8_center 4 = .ok (.getfield 26, 3) := by decide +kernel
theorem dX8_center_7 : decode cX8_center 7 = .ok (.iload_n 1, 1) := by decide +kernel
theorem dX8_center_8 : decode cX8_center 8 = .ok (.iaload, 1) := by decide +kernel
theorem dX8_center_9 : decode cX8_center 9 = .ok (.if_icmp .gt 50, 3) := by decide +kernel
theorem dX8_center_12 : decode cX8_center 12 = .ok (.aload_n 0, 1) := by decide +kernel
theorem dX8_center_13 : decode cX8_center 13 = .ok (.getfield 22, 3) := by decide +kernel
theorem dX8_center_16 : decode cX8_center 16 = .ok (.bipush 24, 2) := by decide +kernel
theorem dX8_center_18 : decode cX8_center 18 = .ok (.iload_n 1, 1) := by decide +kernel
theorem dX8_center_19 : decode cX8_center 19 = .ok (.imul, 1) := by decide +kernel
theorem dX8_center_20 : decode cX8_center 20 = .ok (.iload_n 2, 1) := by decide +kernel
theorem dX8_center_21 : decode cX8_center 21 = .ok (.iadd, 1) := by decide +kernel
theorem dX8_center_22 : decode cX8_center 22 = .ok (.laload, 1) := by decide +kernel
theorem dX8_center_23 : decode cX8_center 23 = .ok (.aload_n 0, 1) := by decide +kernel
theorem dX8_center_24 : decode cX8_center 24 = .ok (.getfield 75, 3) := by decide +kernel
theorem dX8_center_27 : decode cX8_center 27 = .ok (.ldc2_w 84, 3) := by decide +kernel
theorem dX8_center_30 : decode cX8_center 30 = .ok (.ldiv, 1) := by decide +kernel
theorem dX8_center_31 : decode cX8_center 31 = .ok (.lcmp, 1) := by decide +kernel
theorem dX8_center_32 : decode cX8_center 32 = .ok (.ifCond .le 21, 3) := by decide +kernel
theorem dX8_center_35 : decode cX8_center 35 = .ok (.aload_n 0, 1) := by decide +kernel
theorem dX8_center_36 : decode cX8_center 36 = .ok (.getfield 22, 3) := by decide +kernel
theorem dX8_center_39 : decode cX8_center 39 = .ok (.bipush 24, 2) := by decide +kernel
theorem dX8_center_41 : decode cX8_center 41 = .ok (.iload_n 1, 1) := by decide +kernel
theorem dX8_center_42 : decode cX8_center 42 = .ok (.imul, 1) := by decide +kernel
theorem dX8_center_43 : decode cX8_center 43 = .ok (.iload_n 2, 1) := by decide +kernel
theorem dX8_center_44 : decode cX8_center 44 = .ok (.iadd, 1) := by decide +kernel
theorem dX8_center_45 : decode cX8_center 45 = .ok (.dup2, 1) := by decide +kernel
theorem dX8_center_46 : decode cX8_center 46 = .ok (.laload, 1) := by decide +kernel
theorem dX8_center_47 : decode cX8_center 47 = .ok (.aload_n 0, 1) := by decide +kernel
theorem dX8_center_48 : decode cX8_center 48 = .ok (.getfield 75, 3) := by decide +kernel
theorem dX8_center_51 : decode cX8_center 51 = .ok (.lsub, 1) := by decide +kernel
theorem dX8_center_52 : decode cX8_center 52 = .ok (.lastore, 1) := by decide +kernel
theorem dX8_center_53 : decode cX8_center 53 = .ok (.iinc 2 1, 3) := by decide +kernel
theorem dX8_center_56 : decode cX8_center 56 = .ok (.goto (-54), 3) := by decide +kernel
theorem dX8_center_59 : decode cX8_center 59 = .ok (.return_, 1) := by decide +kernel
theorem dX8_commonWhole_0 : decode cX8_commonWhole 0 = .ok (.aload_n 0, 1) := by decide +kernel
theorem dX8_commonWhole_1 : decode cX8_commonWhole 1 = .ok (.getfield 26, 3) := by decide +kernel
theorem dX8_commonWhole_4 : decode cX8_commonWhole 4 = .ok (.iload_n 1, 1) := by decide +kernel
theorem dX8_commonWhole_5 : decode cX8_commonWhole 5 = .ok (.iaload, 1) := by decide +kernel
theorem dX8_commonWhole_6 : decode cX8_commonWhole 6 = .ok (.ifCond .lt 12, 3) := by decide +kernel
theorem dX8_commonWhole_9 : decode cX8_commonWhole 9 = .ok (.aload_n 0, 1) := by decide +kernel
theorem dX8_commonWhole_10 : decode cX8_commonWhole 10 = .ok (.getfield 26, 3) := by decide +kernel
theorem dX8_commonWhole_13 : decode cX8_commonWhole 13 = .ok (.iload_n 2, 1) := by decide +kernel
theorem dX8_commonWhole_14 : decode cX8_commonWhole 14 = .ok (.iaload, 1) := by decide +kernel
theorem dX8_commonWhole_15 : decode cX8_commonWhole 15 = .ok (.ifCond .ge 29, 3) := by decide +kernel
theorem dX8_commonWhole_18 : decode cX8_commonWhole 18 = .ok (.aload_n 0, 1) := by decide +kernel
theorem dX8_commonWhole_19 : decode cX8_commonWhole 19 = .ok (.aload_n 0, 1) := by decide +kernel
theorem dX8_commonWhole_20 : decode cX8_commonWhole 20 = .ok (.getfield 26, 3) := by decide +kernel
theorem dX8_commonWhole_23 : decode cX8_commonWhole 23 = .ok (.iload_n 1, 1) := by decide +kernel
theorem dX8_commonWhole_24 : decode cX8_commonWhole 24 = .ok (.iaload, 1) := by decide +kernel
theorem dX8_commonWhole_25 : decode cX8_commonWhole 25 = .ok (.ifCond .ge 7, 3) := by decide +kernel
theorem dX8_commonWhole_28 : decode cX8_commonWhole 28 = .ok (.iload_n 2, 1) := by decide +kernel
theorem dX8_commonWhole_29 : decode cX8_commonWhole 29 = .ok (.goto 4, 3) := by decide +kernel
theorem dX8_commonWhole_32 : decode cX8_commonWhole 32 = .ok (.iload_n 1, 1) := by decide +kernel
theorem dX8_commonWhole_33 : decode cX8_commonWhole 33 = .ok (.iload_n 3, 1) := by decide +kernel
theorem dX8_commonWhole_34 : decode cX8_commonWhole 34 = .ok (.invokevirtual 72, 3) := by decide +kernel
theorem dX8_commonWhole_37 : decode cX8_commonWhole 37 = .ok (.aload_n 0, 1) := by decide +kernel
theorem dX8_commonWhole_38 : decode cX8_commonWhole 38 = .ok (.iload_n 3, 1) := by decide +kernel
theorem dX8_commonWhole_39 : decode cX8_commonWhole 39 = .ok (.invokevirtual 106, 3) := by decide +kernel
theorem dX8_commonWhole_42 : decode cX8_commonWhole 42 = .ok (.pop2, 1) := by decide +kernel
theorem dX8_commonWhole_43 : decode cX8_commonWhole 43 = .ok (.return_, 1) := by decide +kernel
theorem dX8_commonWhole_44 : decode cX8_commonWhole 44 = .ok (.aload_n 0, 1) := by decide +kernel
theorem dX8_commonWhole_45 : decode cX8_commonWhole 45 = .ok (.getfield 22, 3) := by decide +kernel
theorem dX8_commonWhole_48 : decode cX8_commonWhole 48 = .ok (.bipush 24, 2) := by decide +kernel
theorem dX8_commonWhole_50 : decode cX8_commonWhole 50 = .ok (.iload_n 1, 1) := by decide +kernel
theorem dX8_commonWhole_51 : decode cX8_commonWhole 51 = .ok (.imul, 1) := by decide +kernel
theorem dX8_commonWhole_52 : decode cX8_commonWhole 52 = .ok (.aload_n 0, 1) := by decide +kernel
theorem dX8_commonWhole_53 : decode cX8_commonWhole 53 = .ok (.getfield 26, 3) := by decide +kernel
theorem dX8_commonWhole_56 : decode cX8_commonWhole 56 = .ok (.iload_n 1, 1) := by decide +kernel
theorem dX8_commonWhole_57 : decode cX8_commonWhole 57 = .ok (.iaload, 1) := by decide +kernel
theorem dX8_commonWhole_58 : decode cX8_commonWhole 58 = .ok (.iadd, 1) := by decide +kernel
theorem dX8_commonWhole_59 : decode cX8_commonWhole 59 = .ok (.laload, 1) := by decide +kernel
theorem dX8_commonWhole_60 : decode cX8_commonWhole 60 = .ok (.aload_n 0, 1) := by decide +kernel
theorem dX8_commonWhole_61 : decode cX8_commonWhole 61 = .ok (.getfield 22, 3) := by decide +kernel
theorem dX8_commonWhole_64 : decode cX8_commonWhole 64 = .ok (.bipush 24, 2) := by decide +kernel
theorem dX8_commonWhole_66 : decode cX8_commonWhole 66 = .ok (.iload_n 2, 1) := by decide +kernel
theorem dX8_commonWhole_67 : decode cX8_commonWhole 67 = .ok (.imul, 1) := by decide +kernel
theorem dX8_commonWhole_68 : decode cX8_commonWhole 68 = .ok (.aload_n 0, 1) := by decide +kernel
theorem dX8_commonWhole_69 : decode cX8_commonWhole 69 = .ok (.getfield 26, 3) := by decide +kernel
theorem dX8_commonWhole_72 : decode cX8_commonWhole 72 = .ok (.iload_n 2, 1) := by decide +kernel
theorem dX8_commonWhole_73 : decode cX8_commonWhole 73 = .ok (.iaload, 1) := by decide +kernel
theorem dX8_commonWhole_74 : decode cX8_commonWhole 74 = .ok (.iadd, 1) := by decide +kernel
theorem dX8_commonWhole_75 : decode cX8_commonWhole 75 = .ok (.laload, 1) := by decide +kernel
theorem dX8_commonWhole_76 : decode cX8_commonWhole 76 = .ok (.invokestatic 53, 3) := by decide +kernel
theorem dX8_commonWhole_79 : decode cX8_commonWhole 79 = .ok (.lstore 4, 2) := by decide +kernel
theorem dX8_commonWhole_81 : decode cX8_commonWhole 81 = .ok (.iconst 0, 1) := by decide +kernel
theorem dX8_commonWhole_82 : decode cX8_commonWhole 82 = .ok (.istore 6, 2) := by decide +kernel
theorem dX8_commonWhole_84 : decode cX8_commonWhole 84 = .ok (.iload 6, 2) := by decide +kernel
theorem dX8_commonWhole_86 : decode cX8_commonWhole 86 = .ok (.aload_n 0, 1) := by decide +kernel
theorem dX8_commonWhole_87 : decode cX8_commonWhole 87 = .ok (.getfield 7, 3) := by decide +kernel
theorem dX8_commonWhole_90 : decode cX8_commonWhole 90 = .ok (.arraylength, 1) := by decide +kernel
theorem dX8_commonWhole_91 : decode cX8_commonWhole 91 = .ok (.if_icmp .ge 144, 3) := by decide +kernel
theorem dX8_commonWhole_94 : decode cX8_commonWhole 94 = .ok (.aload_n 0, 1) := by decide +kernel
theorem dX8_commonWhole_95 : decode cX8_commonWhole 95 = .ok (.iload 6, 2) := by decide +kernel
theorem dX8_commonWhole_97 : decode cX8_commonWhole 97 = .ok (.invokevirtual 110, 3) := by decide +kernel
theorem dX8_commonWhole_100 : decode cX8_commonWhole 100 = .ok (.aload_n 0, 1) := by decide +kernel
theorem dX8_commonWhole_101 : decode cX8_commonWhole 101 = .ok (.iload_n 1, 1) := by decide +kernel
theorem dX8_commonWhole_102 : decode cX8_commonWhole 102 = .ok (.iconst 5, 1) := by decide +kernel
theorem dX8_commonWhole_103 : decode cX8_commonWhole 103 = .ok (.invokevirtual 72, 3) := by decide +kernel
theorem dX8_commonWhole_106 : decode cX8_commonWhole 106 = .ok (.aload_n 0, 1) := by decide +kernel
theorem dX8_commonWhole_107 : decode cX8_commonWhole 107 = .ok (.iload_n 2, 1) := by decide +kernel
theorem dX8_commonWhole_108 : decode cX8_commonWhole 108 = .ok (.bipush 6, 2) := by decide +kernel
theorem dX8_commonWhole_110 : decode cX8_commonWhole 110 = .ok (.invokevirtual 72, 3) := by decide +kernel
theorem dX8_commonWhole_113 : decode cX8_commonWhole 113 = .ok (.aload_n 0, 1) := by decide +kernel
theorem dX8_commonWhole_114 : decode cX8_commonWhole 114 = .ok (.iconst 5, 1) := by decide +kernel
theorem dX8_commonWhole_115 : decode cX8_commonWhole 115 = .ok (.invokevirtual 113, 3) := by decide +kernel
theorem dX8_commonWhole_118 : decode cX8_commonWhole 118 = .ok (.aload_n 0, 1) := by decide +kernel
theorem dX8_commonWhole_119 : decode cX8_commonWhole 119 = .ok (.bipush 6, 2) := by decide +kernel
theorem dX8_commonWhole_121 : decode cX8_commonWhole 121 = .ok (.invokevirtual 113, 3) := by decide +kernel
theorem dX8_commonWhole_124 : decode cX8_commonWhole 124 = .ok (.aload_n 0, 1) := by decide +kernel
theorem dX8_commonWhole_125 : decode cX8_commonWhole 125 = .ok (.iconst 5, 1) := by decide +kernel
theorem dX8_commonWhole_126 : decode cX8_commonWhole 126 = .ok (.bipush 6, 2) := by decide +kernel
theorem dX8_commonWhole_128 : decode cX8_commonWhole 128 = .ok (.bipush 7, 2) := by decide +kernel
theorem dX8_commonWhole_130 : decode cX8_commonWhole 130 = .ok (.invokevirtual 116, 3) := by decide +kernel
theorem dX8_commonWhole_133 : decode cX8_commonWhole 133 = .ok (.iconst 0, 1) := by decide +kernel
theorem dX8_commonWhole_134 : decode cX8_commonWhole 134 = .ok (.istore 7, 2) := by decide +kernel
theorem dX8_commonWhole_136 : decode cX8_commonWhole 136 = .ok (.iload 7, 2) := by decide +kernel
theorem dX8_commonWhole_138 : decode cX8_commonWhole 138 = .ok (.aload_n 0, 1) := by decide +kernel
theorem dX8_commonWhole_139 : decode cX8_commonWhole 139 = .ok (.getfield 26, 3) := by decide +kernel
theorem dX8_commonWhole_142 : decode cX8_commonWhole 142 = .ok (.bipush 7, 2) := by decide +kernel
theorem dX8_commonWhole_144 : decode cX8_commonWhole 144 = .ok (.iaload, 1) := by decide +kernel
theorem dX8_commonWhole_145 : decode cX8_commonWhole 145 = .ok (.if_icmp .gt 37, 3) := by decide +kernel
theorem dX8_commonWhole_148 : decode cX8_commonWhole 148 = .ok (.aload_n 0, 1) := by decide +kernel
theorem dX8_commonWhole_149 : decode cX8_commonWhole 149 = .ok (.getfield 22, 3) := by decide +kernel
theorem dX8_commonWhole_152 : decode cX8_commonWhole 152 = .ok (.sipush 168, 3) := by decide +kernel
theorem dX8_commonWhole_155 : decode cX8_commonWhole 155 = .ok (.iload 7, 2) := by decide +kernel
theorem dX8_commonWhole_157 : decode cX8_commonWhole 157 = .ok (.iadd, 1) := by decide +kernel
theorem dX8_commonWhole_158 : decode cX8_commonWhole 158 = .ok (.aload_n 0, 1) := by decide +kernel
theorem dX8_commonWhole_159 : decode cX8_commonWhole 159 = .ok (.aload_n 0, 1) := by decide +kernel
theorem dX8_commonWhole_160 : decode cX8_commonWhole 160 = .ok (.getfield 22, 3) := by decide +kernel
theorem dX8_commonWhole_163 : decode cX8_commonWhole 163 = .ok (.sipush 168, 3) := by decide +kernel
theorem dX8_commonWhole_166 : decode cX8_commonWhole 166 = .ok (.iload 7, 2) := by decide +kernel
theorem dX8_commonWhole_168 : decode cX8_commonWhole 168 = .ok (.iadd, 1) := by decide +kernel
theorem dX8_commonWhole_169 : decode cX8_commonWhole 169 = .ok (.laload, 1) := by decide +kernel
theorem dX8_commonWhole_170 : decode cX8_commonWhole 170 = .ok (.lload 4, 2) := by decide +kernel
theorem dX8_commonWhole_172 : decode cX8_commonWhole 172 = .ok (.invokevirtual 81, 3) := by decide +kernel
theorem dX8_commonWhole_175 : decode cX8_commonWhole 175 = .ok (.lastore, 1) := by decide +kernel
theorem dX8_commonWhole_176 : decode cX8_commonWhole 176 = .ok (.iinc 7 1, 3) := by decide +kernel
theorem dX8_commonWhole_179 : decode cX8_commonWhole 179 = .ok (.goto (-43), 3) := by decide +kernel
theorem dX8_commonWhole_182 : decode cX8_commonWhole 182 = .ok (.aload_n 0, 1) := by decide +kernel
theorem dX8_commonWhole_183 : decode cX8_commonWhole 183 = .ok (.bipush 7, 2) := by decide +kernel
theorem dX8_commonWhole_185 : decode cX8_commonWhole 185 = .ok (.invokevirtual 120, 3) := by decide +kernel
theorem dX8_commonWhole_188 : decode cX8_commonWhole 188 = .ok (.aload_n 0, 1) := by decide +kernel
theorem dX8_commonWhole_189 : decode cX8_commonWhole 189 = .ok (.bipush 7, 2) := by decide +kernel
theorem dX8_commonWhole_191 : decode cX8_commonWhole 191 = .ok (.invokevirtual 106, 3) := by decide +kernel
theorem dX8_commonWhole_194 : decode cX8_commonWhole 194 = .ok (.pop2, 1) := by decide +kernel
theorem dX8_commonWhole_195 : decode cX8_commonWhole 195 = .ok (.aload_n 0, 1) := by decide +kernel
theorem dX8_commonWhole_196 : decode cX8_commonWhole 196 = .ok (.bipush 7, 2) := by decide +kernel
theorem dX8_commonWhole_198 : decode cX8_commonWhole 198 = .ok (.iload_n 1, 1) := by decide +kernel
theorem dX8_commonWhole_199 : decode cX8_commonWhole 199 = .ok (.ldc2_w 123, 3) := by decide +kernel
theorem dX8_commonWhole_202 : decode cX8_commonWhole 202 = .ok (.invokevirtual 125, 3) := by decide +kernel
theorem dX8_commonWhole_205 : decode cX8_commonWhole 205 = .ok (.ifCond .eq 24, 3) := by decide +kernel
theorem dX8_commonWhole_208 : decode cX8_commonWhole 208 = .ok (.aload_n 0, 1) := by decide +kernel
theorem dX8_commonWhole_209 : decode cX8_commonWhole 209 = .ok (.bipush 7, 2) := by decide +kernel
theorem dX8_commonWhole_211 : decode cX8_commonWhole 211 = .ok (.iload_n 2, 1) := by decide +kernel
theorem dX8_commonWhole_212 : decode cX8_commonWhole 212 = .ok (.ldc2_w 123, 3) := by decide +kernel
theorem dX8_commonWhole_215 : decode cX8_commonWhole 215 = .ok (.invokevirtual 125, 3) := by decide +kernel
theorem dX8_commonWhole_218 : decode cX8_commonWhole 218 = .ok (.ifCond .eq 11, 3) := by decide +kernel
theorem dX8_commonWhole_221 : decode cX8_commonWhole 221 = .ok (.aload_n 0, 1) := by decide +kernel
theorem dX8_commonWhole_222 : decode cX8_commonWhole 222 = .ok (.bipush 7, 2) := by decide +kernel
theorem dX8_commonWhole_224 : decode cX8_commonWhole 224 = .ok (.iload_n 3, 1) := by decide +kernel
theorem dX8_commonWhole_225 : decode cX8_commonWhole 225 = .ok (.invokevirtual 72, 3) := by decide +kernel
theorem dX8_commonWhole_228 : decode cX8_commonWhole 228 = .ok (.return_, 1) := by decide +kernel
theorem dX8_commonWhole_229 : decode cX8_commonWhole 229 = .ok (.iinc 6 1, 3) := by decide +kernel
theorem dX8_commonWhole_232 : decode cX8_commonWhole 232 = .ok (.goto (-148), 3) := by decide +kernel
theorem dX8_commonWhole_235 : decode cX8_commonWhole 235 = .ok (.return_, 1) := by decide +kernel
theorem dX8_addPart_0 : decode cX8_addPart 0 = .ok (.aload_n 0, 1) := by decide +kernel
theorem dX8_addPart_1 : decode cX8_addPart 1 = .ok (.iload_n 1, 1) := by decide +kernel
theorem dX8_addPart_2 : decode cX8_addPart 2 = .ok (.bipush 24, 2) := by decide +kernel
theorem dX8_addPart_4 : decode cX8_addPart 4 = .ok (.aload_n 0, 1) := by decide +kernel
theorem dX8_addPart_5 : decode cX8_addPart 5 = .ok (.getfield 129, 3) := by decide +kernel
theorem dX8_addPart_8 : decode cX8_addPart 8 = .ok (.iadd, 1) := by decide +kernel
theorem dX8_addPart_9 : decode cX8_addPart 9 = .ok (.invokevirtual 72, 3) := by decide +kernel
theorem dX8_addPart_12 : decode cX8_addPart 12 = .ok (.aload_n 0, 1) := by decide +kernel
theorem dX8_addPart_13 : decode cX8_addPart 13 = .ok (.dup, 1) := by decide +kernel
theorem dX8_addPart_14 : decode cX8_addPart 14 = .ok (.getfield 129, 3) := by decide +kernel
theorem dX8_addPart_17 : decode cX8_addPart 17 = .ok (.iconst 1, 1) := by decide +kernel
theorem dX8_addPart_18 : decode cX8_addPart 18 = .ok (.iadd, 1) := by decide +kernel
theorem dX8_addPart_19 : decode cX8_addPart 19 = .ok (.putfield 129, 3) := by decide +kernel
theorem dX8_addPart_22 : decode cX8_addPart 22 = .ok (.return_, 1) := by decide +kernel
theorem dX8_letter_0 : decode cX8_letter 0 = .ok (.aload_n 0, 1) := by decide +kernel
theorem dX8_letter_1 : decode cX8_letter 1 = .ok (.getfield 22, 3) := by decide +kernel
theorem dX8_letter_4 : decode cX8_letter 4 = .ok (.bipush 24, 2) := by decide +kernel
theorem dX8_letter_6 : decode cX8_letter 6 = .ok (.iload_n 1, 1) := by decide +kernel
theorem dX8_letter_7 : decode cX8_letter 7 = .ok (.imul, 1) := by decide +kernel
theorem dX8_letter_8 : decode cX8_letter 8 = .ok (.lconst 0, 1) := by decide +kernel
theorem dX8_letter_9 : decode cX8_letter 9 = .ok (.lastore, 1) := by decide +kernel
theorem dX8_letter_10 : decode cX8_letter 10 = .ok (.aload_n 0, 1) := by decide +kernel
theorem dX8_letter_11 : decode cX8_letter 11 = .ok (.getfield 22, 3) := by decide +kernel
theorem dX8_letter_14 : decode cX8_letter 14 = .ok (.bipush 24, 2) := by decide +kernel
theorem dX8_letter_16 : decode cX8_letter 16 = .ok (.iload_n 1, 1) := by decide +kernel
theorem dX8_letter_17 : decode cX8_letter 17 = .ok (.imul, 1) := by decide +kernel
theorem dX8_letter_18 : decode cX8_letter 18 = .ok (.iconst 1, 1) := by decide +kernel
theorem dX8_letter_19 : decode cX8_letter 19 = .ok (.iadd, 1) := by decide +kernel
theorem dX8_letter_20 : decode cX8_letter 20 = .ok (.lconst 1, 1) := by decide +kernel
theorem dX8_letter_21 : decode cX8_letter 21 = .ok (.lastore, 1) := by decide +kernel
theorem dX8_letter_22 : decode cX8_letter 22 = .ok (.aload_n 0, 1) := by decide +kernel
theorem dX8_letter_23 : decode cX8_letter 23 = .ok (.getfield 26, 3) := by decide +kernel
theorem dX8_letter_26 : decode cX8_letter 26 = .ok (.iload_n 1, 1) := by decide +kernel
theorem dX8_letter_27 : decode cX8_letter 27 = .ok (.iconst 1, 1) := by decide +kernel
theorem dX8_letter_28 : decode cX8_letter 28 = .ok (.iastore, 1) := by decide +kernel
theorem dX8_letter_29 : decode cX8_letter 29 = .ok (.return_, 1) := by decide +kernel
theorem dX8_addConstant_0 : decode cX8_addConstant 0 = .ok (.aload_n 0, 1) := by decide +kernel
theorem dX8_addConstant_1 : decode cX8_addConstant 1 = .ok (.getfield 26, 3) := by decide +kernel
theorem dX8_addConstant_4 : decode cX8_addConstant 4 = .ok (.iload_n 1, 1) := by decide +kernel
theorem dX8_addConstant_5 : decode cX8_addConstant 5 = .ok (.iaload, 1) := by decide +kernel
theorem dX8_addConstant_6 : decode cX8_addConstant 6 = .ok (.ifCond .ge 15, 3) := by decide +kernel
theorem dX8_addConstant_9 : decode cX8_addConstant 9 = .ok (.aload_n 0, 1) := by decide +kernel
theorem dX8_addConstant_10 : decode cX8_addConstant 10 = .ok (.iload_n 1, 1) := by decide +kernel
theorem dX8_addConstant_11 : decode cX8_addConstant 11 = .ok (.lload_n 2, 1) := by decide +kernel
theorem dX8_addConstant_12 : decode cX8_addConstant 12 = .ok (.aload_n 0, 1) := by decide +kernel
theorem dX8_addConstant_13 : decode cX8_addConstant 13 = .ok (.getfield 75, 3) := by decide +kernel
theorem dX8_addConstant_16 : decode cX8_addConstant 16 = .ok (.lrem, 1) := by decide +kernel
theorem dX8_addConstant_17 : decode cX8_addConstant 17 = .ok (.invokevirtual 92, 3) := by decide +kernel
theorem dX8_addConstant_20 : decode cX8_addConstant 20 = .ok (.return_, 1) := by decide +kernel
theorem dX8_addConstant_21 : decode cX8_addConstant 21 = .ok (.aload_n 0, 1) := by decide +kernel
theorem dX8_addConstant_22 : decode cX8_addConstant 22 = .ok (.getfield 22, 3) := by decide +kernel
theorem dX8_addConstant_25 : decode cX8_addConstant 25 = .ok (.bipush 24, 2) := by decide +kernel
theorem dX8_addConstant_27 : decode cX8_addConstant 27 = .ok (.iload_n 1, 1) := by decide +kernel
theorem dX8_addConstant_28 : decode cX8_addConstant 28 = .ok (.imul, 1) := by decide +kernel
theorem dX8_addConstant_29 : decode cX8_addConstant 29 = .ok (.aload_n 0, 1) := by decide +kernel
theorem dX8_addConstant_30 : decode cX8_addConstant 30 = .ok (.getfield 22, 3) := by decide +kernel
theorem dX8_addConstant_33 : decode cX8_addConstant 33 = .ok (.bipush 24, 2) := by decide +kernel
theorem dX8_addConstant_35 : decode cX8_addConstant 35 = .ok (.iload_n 1, 1) := by decide +kernel
theorem dX8_addConstant_36 : decode cX8_addConstant 36 = .ok (.imul, 1) := by decide +kernel
theorem dX8_addConstant_37 : decode cX8_addConstant 37 = .ok (.laload, 1) := by decide +kernel
theorem dX8_addConstant_38 : decode cX8_addConstant 38 = .ok (.lload_n 2, 1) := by decide +kernel
theorem dX8_addConstant_39 : decode cX8_addConstant 39 = .ok (.ladd, 1) := by decide +kernel
theorem dX8_addConstant_40 : decode cX8_addConstant 40 = .ok (.aload_n 0, 1) := by decide +kernel
theorem dX8_addConstant_41 : decode cX8_addConstant 41 = .ok (.getfield 75, 3) := by decide +kernel
theorem dX8_addConstant_44 : decode cX8_addConstant 44 = .ok (.lrem, 1) := by decide +kernel
theorem dX8_addConstant_45 : decode cX8_addConstant 45 = .ok (.lastore, 1) := by decide +kernel
theorem dX8_addConstant_46 : decode cX8_addConstant 46 = .ok (.aload_n 0, 1) := by decide +kernel
theorem dX8_addConstant_47 : decode cX8_addConstant 47 = .ok (.iload_n 1, 1) := by decide +kernel
theorem dX8_addConstant_48 : decode cX8_addConstant 48 = .ok (.aload_n 0, 1) := by decide +kernel
theorem dX8_addConstant_49 : decode cX8_addConstant 49 = .ok (.getfield 26, 3) := by decide +kernel
theorem dX8_addConstant_52 : decode cX8_addConstant 52 = .ok (.iload_n 1, 1) := by decide +kernel
theorem dX8_addConstant_53 : decode cX8_addConstant 53 = .ok (.iaload, 1) := by decide +kernel
theorem dX8_addConstant_54 : decode cX8_addConstant 54 = .ok (.invokevirtual 57, 3) := by decide +kernel
theorem dX8_addConstant_57 : decode cX8_addConstant 57 = .ok (.return_, 1) := by decide +kernel
theorem dX8_lessLetter_0 : decode cX8_lessLetter 0 = .ok (.aload_n 0, 1) := by decide +kernel
theorem dX8_lessLetter_1 : decode cX8_lessLetter 1 = .ok (.getfield 26, 3) := by decide +kernel
theorem dX8_lessLetter_4 : decode cX8_lessLetter 4 = .ok (.iload_n 1, 1) := by decide +kernel
theorem dX8_lessLetter_5 : decode cX8_lessLetter 5 = .ok (.iaload, 1) := by decide +kernel
theorem dX8_lessLetter_6 : decode cX8_lessLetter 6 = .ok (.iconst 1, 1) := by decide +kernel
theorem dX8_lessLetter_7 : decode cX8_lessLetter 7 = .ok (.iadd, 1) := by decide +kernel
theorem dX8_lessLetter_8 : decode cX8_lessLetter 8 = .ok (.istore_n 2, 1) := by decide +kernel
theorem dX8_lessLetter_9 : decode cX8_lessLetter 9 = .ok (.iload_n 2, 1) := by decide +kernel
theorem dX8_lessLetter_10 : decode cX8_lessLetter 10 = .ok (.iconst 1, 1) := by decide +kernel
theorem dX8_lessLetter_11 : decode cX8_lessLetter 11 = .ok (.if_icmp .gt 21, 3) := by decide +kernel
theorem dX8_lessLetter_14 : decode cX8_lessLetter 14 = .ok (.aload_n 0, 1) := by decide +kernel
theorem dX8_lessLetter_15 : decode cX8_lessLetter 15 = .ok (.getfield 22, 3) := by decide +kernel
theorem dX8_lessLetter_18 : decode cX8_lessLetter 18 = .ok (.bipush 24, 2) := by decide +kernel
theorem dX8_lessLetter_20 : decode cX8_lessLetter 20 = .ok (.iload_n 1, 1) := by decide +kernel
theorem dX8_lessLetter_21 : decode cX8_lessLetter 21 = .ok (.imul, 1) := by decide +kernel
theorem dX8_lessLetter_22 : decode cX8_lessLetter 22 = .ok (.iload_n 2, 1) := by decide +kernel
theorem dX8_lessLetter_23 : decode cX8_lessLetter 23 = .ok (.iadd, 1) := by decide +kernel
theorem dX8_lessLetter_24 : decode cX8_lessLetter 24 = .ok (.lconst 0, 1) := by decide +kernel
theorem dX8_lessLetter_25 : decode cX8_lessLetter 25 = .ok (.lastore, 1) := by decide +kernel
theorem dX8_lessLetter_26 : decode cX8_lessLetter 26 = .ok (.iinc 2 1, 3) := by decide +kernel
theorem dX8_lessLetter_29 : decode cX8_lessLetter 29 = .ok (.goto (-20), 3) := by decide +kernel
theorem dX8_lessLetter_32 : decode cX8_lessLetter 32 = .ok (.aload_n 0, 1) := by decide +kernel
theorem dX8_lessLetter_33 : decode cX8_lessLetter 33 = .ok (.getfield 26, 3) := by decide +kernel
theorem dX8_lessLetter_36 : decode cX8_lessLetter 36 = .ok (.iload_n 1, 1) := by decide +kernel
theorem dX8_lessLetter_37 : decode cX8_lessLetter 37 = .ok (.iaload, 1) := by decide +kernel
theorem dX8_lessLetter_38 : decode cX8_lessLetter 38 = .ok (.iconst 1, 1) := by decide +kernel
theorem dX8_lessLetter_39 : decode cX8_lessLetter 39 = .ok (.if_icmp .le 12, 3) := by decide +kernel
theorem dX8_lessLetter_42 : decode cX8_lessLetter 42 = .ok (.aload_n 0, 1) := by decide +kernel
theorem dX8_lessLetter_43 : decode cX8_lessLetter 43 = .ok (.getfield 26, 3) := by decide +kernel
theorem dX8_lessLetter_46 : decode cX8_lessLetter 46 = .ok (.iload_n 1, 1) := by decide +kernel
theorem dX8_lessLetter_47 : decode cX8_lessLetter 47 = .ok (.iaload, 1) := by decide +kernel
theorem dX8_lessLetter_48 : decode cX8_lessLetter 48 = .ok (.goto 4, 3) := by decide +kernel
theorem dX8_lessLetter_51 : decode cX8_lessLetter 51 = .ok (.iconst 1, 1) := by decide +kernel
theorem dX8_lessLetter_52 : decode cX8_lessLetter 52 = .ok (.istore_n 2, 1) := by decide +kernel
theorem dX8_lessLetter_53 : decode cX8_lessLetter 53 = .ok (.aload_n 0, 1) := by decide +kernel
theorem dX8_lessLetter_54 : decode cX8_lessLetter 54 = .ok (.getfield 22, 3) := by decide +kernel
theorem dX8_lessLetter_57 : decode cX8_lessLetter 57 = .ok (.bipush 24, 2) := by decide +kernel
theorem dX8_lessLetter_59 : decode cX8_lessLetter 59 = .ok (.iload_n 1, 1) := by decide +kernel
theorem dX8_lessLetter_60 : decode cX8_lessLetter 60 = .ok (.imul, 1) := by decide +kernel
theorem dX8_lessLetter_61 : decode cX8_lessLetter 61 = .ok (.iconst 1, 1) := by decide +kernel
theorem dX8_lessLetter_62 : decode cX8_lessLetter 62 = .ok (.iadd, 1) := by decide +kernel
theorem dX8_lessLetter_63 : decode cX8_lessLetter 63 = .ok (.aload_n 0, 1) := by decide +kernel
theorem dX8_lessLetter_64 : decode cX8_lessLetter 64 = .ok (.getfield 22, 3) := by decide +kernel
theorem dX8_lessLetter_67 : decode cX8_lessLetter 67 = .ok (.bipush 24, 2) := by decide +kernel
theorem dX8_lessLetter_69 : decode cX8_lessLetter 69 = .ok (.iload_n 1, 1) := by decide +kernel
theorem dX8_lessLetter_70 : decode cX8_lessLetter 70 = .ok (.imul, 1) := by decide +kernel
theorem dX8_lessLetter_71 : decode cX8_lessLetter 71 = .ok (.iconst 1, 1) := by decide +kernel
theorem dX8_lessLetter_72 : decode cX8_lessLetter 72 = .ok (.iadd, 1) := by decide +kernel
theorem dX8_lessLetter_73 : decode cX8_lessLetter 73 = .ok (.laload, 1) := by decide +kernel
theorem dX8_lessLetter_74 : decode cX8_lessLetter 74 = .ok (.lconst 0, 1) := by decide +kernel
theorem dX8_lessLetter_75 : decode cX8_lessLetter 75 = .ok (.lcmp, 1) := by decide +kernel
theorem dX8_lessLetter_76 : decode cX8_lessLetter 76 = .ok (.ifCond .ne 12, 3) := by decide +kernel
theorem dX8_lessLetter_79 : decode cX8_lessLetter 79 = .ok (.aload_n 0, 1) := by decide +kernel
theorem dX8_lessLetter_80 : decode cX8_lessLetter 80 = .ok (.getfield 75, 3) := by decide +kernel
theorem dX8_lessLetter_83 : decode cX8_lessLetter 83 = .ok (.lconst 1, 1) := by decide +kernel
theorem dX8_lessLetter_84 : decode cX8_lessLetter 84 = .ok (.lsub, 1) := by decide +kernel
theorem dX8_lessLetter_85 : decode cX8_lessLetter 85 = .ok (.goto 16, 3) := by decide +kernel
theorem dX8_lessLetter_88 : decode cX8_lessLetter 88 = .ok (.aload_n 0, 1) := by decide +kernel
theorem dX8_lessLetter_89 : decode cX8_lessLetter 89 = .ok (.getfield 22, 3) := by decide +kernel
theorem dX8_lessLetter_92 : decode cX8_lessLetter 92 = .ok (.bipush 24, 2) := by decide +kernel
theorem dX8_lessLetter_94 : decode cX8_lessLetter 94 = .ok (.iload_n 1, 1) := by decide +kernel
theorem dX8_lessLetter_95 : decode cX8_lessLetter 95 = .ok (.imul, 1) := by decide +kernel
theorem dX8_lessLetter_96 : decode cX8_lessLetter 96 = .ok (.iconst 1, 1) := by decide +kernel
theorem dX8_lessLetter_97 : decode cX8_lessLetter 97 = .ok (.iadd, 1) := by decide +kernel
theorem dX8_lessLetter_98 : decode cX8_lessLetter 98 = .ok (.laload, 1) := by decide +kernel
theorem dX8_lessLetter_99 : decode cX8_lessLetter 99 = .ok (.lconst 1, 1) := by decide +kernel
theorem dX8_lessLetter_100 : decode cX8_lessLetter 100 = .ok (.lsub, 1) := by decide +kernel
theorem dX8_lessLetter_101 : decode cX8_lessLetter 101 = .ok (.lastore, 1) := by decide +kernel
theorem dX8_lessLetter_102 : decode cX8_lessLetter 102 = .ok (.aload_n 0, 1) := by decide +kernel
theorem dX8_lessLetter_103 : decode cX8_lessLetter 103 = .ok (.iload_n 1, 1) := by decide +kernel
theorem dX8_lessLetter_104 : decode cX8_lessLetter 104 = .ok (.iload_n 2, 1) := by decide +kernel
theorem dX8_lessLetter_105 : decode cX8_lessLetter 105 = .ok (.invokevirtual 57, 3) := by decide +kernel
theorem dX8_lessLetter_108 : decode cX8_lessLetter 108 = .ok (.return_, 1) := by decide +kernel
theorem dX8_splits_0 : decode cX8_splits 0 = .ok (.aload_n 0, 1) := by decide +kernel
theorem dX8_splits_1 : decode cX8_splits 1 = .ok (.bipush 15, 2) := by decide +kernel
theorem dX8_splits_3 : decode cX8_splits 3 = .ok (.lconst 1, 1) := by decide +kernel
theorem dX8_splits_4 : decode cX8_splits 4 = .ok (.invokevirtual 92, 3) := by decide +kernel
theorem dX8_splits_7 : decode cX8_splits 7 = .ok (.aload_n 0, 1) := by decide +kernel
theorem dX8_splits_8 : decode cX8_splits 8 = .ok (.bipush 14, 2) := by decide +kernel
theorem dX8_splits_10 : decode cX8_splits 10 = .ok (.invokevirtual 132, 3) := by decide +kernel
theorem dX8_splits_13 : decode cX8_splits 13 = .ok (.aload_n 0, 1) := by decide +kernel
theorem dX8_splits_14 : decode cX8_splits 14 = .ok (.bipush 14, 2) := by decide +kernel
theorem dX8_splits_16 : decode cX8_splits 16 = .ok (.iload_n 1, 1) := by decide +kernel
theorem dX8_splits_17 : decode cX8_splits 17 = .ok (.invokevirtual 89, 3) := by decide +kernel
theorem dX8_splits_20 : decode cX8_splits 20 = .ok (.iconst 0, 1) := by decide +kernel
theorem dX8_splits_21 : decode cX8_splits 21 = .ok (.istore 5, 2) := by decide +kernel
theorem dX8_splits_23 : decode cX8_splits 23 = .ok (.iload 5, 2) := by decide +kernel
theorem dX8_splits_25 : decode cX8_splits 25 = .ok (.iload_n 2, 1) := by decide +kernel
theorem dX8_splits_26 : decode cX8_splits 26 = .ok (.if_icmp .ge 64, 3) := by decide +kernel
theorem dX8_splits_29 : decode cX8_splits 29 = .ok (.aload_n 0, 1) := by decide +kernel
theorem dX8_splits_30 : decode cX8_splits 30 = .ok (.bipush 14, 2) := by decide +kernel
theorem dX8_splits_32 : decode cX8_splits 32 = .ok (.bipush 13, 2) := by decide +kernel
theorem dX8_splits_34 : decode cX8_splits 34 = .ok (.invokevirtual 72, 3) := by decide +kernel
theorem dX8_splits_37 : decode cX8_splits 37 = .ok (.aload_n 0, 1) := by decide +kernel
theorem dX8_splits_38 : decode cX8_splits 38 = .ok (.bipush 13, 2) := by decide +kernel
theorem dX8_splits_40 : decode cX8_splits 40 = .ok (.lload_n 3, 1) := by decide +kernel
theorem dX8_splits_41 : decode cX8_splits 41 = .ok (.invokevirtual 135, 3) := by decide +kernel
theorem dX8_splits_44 : decode cX8_splits 44 = .ok (.aload_n 0, 1) := by decide +kernel
theorem dX8_splits_45 : decode cX8_splits 45 = .ok (.bipush 15, 2) := by decide +kernel
theorem dX8_splits_47 : decode cX8_splits 47 = .ok (.bipush 13, 2) := by decide +kernel
theorem dX8_splits_49 : decode cX8_splits 49 = .ok (.iload_n 1, 1) := by decide +kernel
theorem dX8_splits_50 : decode cX8_splits 50 = .ok (.bipush 15, 2) := by decide +kernel
theorem dX8_splits_52 : decode cX8_splits 52 = .ok (.invokevirtual 96, 3) := by decide +kernel
theorem dX8_splits_55 : decode cX8_splits 55 = .ok (.aload_n 0, 1) := by decide +kernel
theorem dX8_splits_56 : decode cX8_splits 56 = .ok (.bipush 14, 2) := by decide +kernel
theorem dX8_splits_58 : decode cX8_splits 58 = .ok (.bipush 16, 2) := by decide +kernel
theorem dX8_splits_60 : decode cX8_splits 60 = .ok (.invokevirtual 72, 3) := by decide +kernel
theorem dX8_splits_63 : decode cX8_splits 63 = .ok (.iload 5, 2) := by decide +kernel
theorem dX8_splits_65 : decode cX8_splits 65 = .ok (.iconst 1, 1) := by decide +kernel
theorem dX8_splits_66 : decode cX8_splits 66 = .ok (.iadd, 1) := by decide +kernel
theorem dX8_splits_67 : decode cX8_splits 67 = .ok (.iload_n 2, 1) := by decide +kernel
theorem dX8_splits_68 : decode cX8_splits 68 = .ok (.if_icmp .ge 16, 3) := by decide +kernel
theorem dX8_splits_71 : decode cX8_splits 71 = .ok (.aload_n 0, 1) := by decide +kernel
theorem dX8_splits_72 : decode cX8_splits 72 = .ok (.bipush 16, 2) := by decide +kernel
theorem dX8_splits_74 : decode cX8_splits 74 = .ok (.aload_n 0, 1) := by decide +kernel
theorem dX8_splits_75 : decode cX8_splits 75 = .ok (.getfield 75, 3) := by decide +kernel
theorem dX8_splits_78 : decode cX8_splits 78 = .ok (.iload_n 1, 1) := by decide +kernel
theorem dX8_splits_79 : decode cX8_splits 79 = .ok (.bipush 14, 2) := by decide +kernel
theorem dX8_splits_81 : decode cX8_splits 81 = .ok (.invokevirtual 138, 3) := by decide +kernel
theorem dX8_splits_84 : decode cX8_splits 84 = .ok (.iinc 5 1, 3) := by decide +kernel
theorem dX8_splits_87 : decode cX8_splits 87 = .ok (.goto (-64), 3) := by decide +kernel
theorem dX8_splits_90 : decode cX8_splits 90 = .ok (.aload_n 0, 1) := by decide +kernel
theorem dX8_splits_91 : decode cX8_splits 91 = .ok (.bipush 15, 2) := by decide +kernel
theorem dX8_splits_93 : decode cX8_splits 93 = .ok (.aload_n 0, 1) := by decide +kernel
theorem dX8_splits_94 : decode cX8_splits 94 = .ok (.getfield 75, 3) := by decide +kernel
theorem dX8_splits_97 : decode cX8_splits 97 = .ok (.lconst 1, 1) := by decide +kernel
theorem dX8_splits_98 : decode cX8_splits 98 = .ok (.lsub, 1) := by decide +kernel
theorem dX8_splits_99 : decode cX8_splits 99 = .ok (.ldc2_w 84, 3) := by decide +kernel
theorem dX8_splits_102 : decode cX8_splits 102 = .ok (.ldiv, 1) := by decide +kernel
theorem dX8_splits_103 : decode cX8_splits 103 = .ok (.iload_n 1, 1) := by decide +kernel
theorem dX8_splits_104 : decode cX8_splits 104 = .ok (.bipush 16, 2) := by decide +kernel
theorem dX8_splits_106 : decode cX8_splits 106 = .ok (.invokevirtual 138, 3) := by decide +kernel
theorem dX8_splits_109 : decode cX8_splits 109 = .ok (.aload_n 0, 1) := by decide +kernel
theorem dX8_splits_110 : decode cX8_splits 110 = .ok (.bipush 16, 2) := by decide +kernel
theorem dX8_splits_112 : decode cX8_splits 112 = .ok (.aload_n 0, 1) := by decide +kernel
theorem dX8_splits_113 : decode cX8_splits 113 = .ok (.getfield 75, 3) := by decide +kernel
theorem dX8_splits_116 : decode cX8_splits 116 = .ok (.lconst 1, 1) := by decide +kernel
theorem dX8_splits_117 : decode cX8_splits 117 = .ok (.lsub, 1) := by decide +kernel
theorem dX8_splits_118 : decode cX8_splits 118 = .ok (.invokevirtual 135, 3) := by decide +kernel
theorem dX8_splits_121 : decode cX8_splits 121 = .ok (.aload_n 0, 1) := by decide +kernel
theorem dX8_splits_122 : decode cX8_splits 122 = .ok (.iload_n 1, 1) := by decide +kernel
theorem dX8_splits_123 : decode cX8_splits 123 = .ok (.bipush 20, 2) := by decide +kernel
theorem dX8_splits_125 : decode cX8_splits 125 = .ok (.invokevirtual 72, 3) := by decide +kernel
theorem dX8_splits_128 : decode cX8_splits 128 = .ok (.aload_n 0, 1) := by decide +kernel
theorem dX8_splits_129 : decode cX8_splits 129 = .ok (.getfield 26, 3) := by decide +kernel
theorem dX8_splits_132 : decode cX8_splits 132 = .ok (.bipush 16, 2) := by decide +kernel
theorem dX8_splits_134 : decode cX8_splits 134 = .ok (.iaload, 1) := by decide +kernel
theorem dX8_splits_135 : decode cX8_splits 135 = .ok (.ifCond .ge 5, 3) := by decide +kernel
theorem dX8_splits_138 : decode cX8_splits 138 = .ok (.iconst 0, 1) := by decide +kernel
theorem dX8_splits_139 : decode cX8_splits 139 = .ok (.ireturn, 1) := by decide +kernel
theorem dX8_splits_140 : decode cX8_splits 140 = .ok (.aload_n 0, 1) := by decide +kernel
theorem dX8_splits_141 : decode cX8_splits 141 = .ok (.bipush 20, 2) := by decide +kernel
theorem dX8_splits_143 : decode cX8_splits 143 = .ok (.bipush 16, 2) := by decide +kernel
theorem dX8_splits_145 : decode cX8_splits 145 = .ok (.bipush 13, 2) := by decide +kernel
theorem dX8_splits_147 : decode cX8_splits 147 = .ok (.invokevirtual 116, 3) := by decide +kernel
theorem dX8_splits_150 : decode cX8_splits 150 = .ok (.aload_n 0, 1) := by decide +kernel
theorem dX8_splits_151 : decode cX8_splits 151 = .ok (.getfield 26, 3) := by decide +kernel
theorem dX8_splits_154 : decode cX8_splits 154 = .ok (.bipush 13, 2) := by decide +kernel
theorem dX8_splits_156 : decode cX8_splits 156 = .ok (.iaload, 1) := by decide +kernel
theorem dX8_splits_157 : decode cX8_splits 157 = .ok (.ifCond .le 23, 3) := by decide +kernel
theorem dX8_splits_160 : decode cX8_splits 160 = .ok (.aload_n 0, 1) := by decide +kernel
theorem dX8_splits_161 : decode cX8_splits 161 = .ok (.getfield 26, 3) := by decide +kernel
theorem dX8_splits_164 : decode cX8_splits 164 = .ok (.bipush 13, 2) := by decide +kernel
theorem dX8_splits_166 : decode cX8_splits 166 = .ok (.iaload, 1) := by decide +kernel
theorem dX8_splits_167 : decode cX8_splits 167 = .ok (.aload_n 0, 1) := by decide +kernel
theorem dX8_splits_168 : decode cX8_splits 168 = .ok (.getfield 26, 3) := by decide +kernel
theorem dX8_splits_171 : decode cX8_splits 171 = .ok (.iload_n 1, 1) := by decide +kernel
theorem dX8_splits_172 : decode cX8_splits 172 = .ok (.iaload, 1) := by decide +kernel
theorem dX8_splits_173 : decode cX8_splits 173 = .ok (.if_icmp .ge 7, 3) := by decide +kernel
theorem dX8_splits_176 : decode cX8_splits 176 = .ok (.iconst 1, 1) := by decide +kernel
theorem dX8_splits_177 : decode cX8_splits 177 = .ok (.goto 4, 3) := by decide +kernel
theorem dX8_splits_180 : decode cX8_splits 180 = .ok (.iconst 0, 1) := by decide +kernel
theorem dX8_splits_181 : decode cX8_splits 181 = .ok (.ireturn, 1) := by decide +kernel
theorem dX8_splitAll_0 : decode cX8_splitAll 0 = .ok (.iload_n 1, 1) := by decide +kernel
theorem dX8_splitAll_1 : decode cX8_splitAll 1 = .ok (.istore_n 3, 1) := by decide +kernel
theorem dX8_splitAll_2 : decode cX8_splitAll 2 = .ok (.iload_n 3, 1) := by decide +kernel
theorem dX8_splitAll_3 : decode cX8_splitAll 3 = .ok (.aload_n 0, 1) := by decide +kernel
theorem dX8_splitAll_4 : decode cX8_splitAll 4 = .ok (.getfield 129, 3) := by decide +kernel
theorem dX8_splitAll_7 : decode cX8_splitAll 7 = .ok (.if_icmp .ge 81, 3) := by decide +kernel
theorem dX8_splitAll_10 : decode cX8_splitAll 10 = .ok (.lconst 0, 1) := by decide +kernel
theorem dX8_splitAll_11 : decode cX8_splitAll 11 = .ok (.lstore 4, 2) := by decide +kernel
theorem dX8_splitAll_13 : decode cX8_splitAll 13 = .ok (.aload_n 0, 1) := by decide +kernel
theorem dX8_splitAll_14 : decode cX8_splitAll 14 = .ok (.getfield 26, 3) := by decide +kernel
theorem dX8_splitAll_17 : decode cX8_splitAll 17 = .ok (.bipush 24, 2) := by decide +kernel
theorem dX8_splitAll_19 : decode cX8_splitAll 19 = .ok (.iload_n 3, 1) := by decide +kernel
theorem dX8_splitAll_20 : decode cX8_splitAll 20 = .ok (.iadd, 1) := by decide +kernel
theorem dX8_splitAll_21 : decode cX8_splitAll 21 = .ok (.iaload, 1) := by decide +kernel
theorem dX8_splitAll_22 : decode cX8_splitAll 22 = .ok (.iload_n 2, 1) := by decide +kernel
theorem dX8_splitAll_23 : decode cX8_splitAll 23 = .ok (.if_icmp .le 59, 3) := by decide +kernel
theorem dX8_splitAll_26 : decode cX8_splitAll 26 = .ok (.aload_n 0, 1) := by decide +kernel
theorem dX8_splitAll_27 : decode cX8_splitAll 27 = .ok (.bipush 24, 2) := by decide +kernel
theorem dX8_splitAll_29 : decode cX8_splitAll 29 = .ok (.iload_n 3, 1) := by decide +kernel
theorem dX8_splitAll_30 : decode cX8_splitAll 30 = .ok (.iadd, 1) := by decide +kernel
theorem dX8_splitAll_31 : decode cX8_splitAll 31 = .ok (.iload_n 2, 1) := by decide +kernel
theorem dX8_splitAll_32 : decode cX8_splitAll 32 = .ok (.lload 4, 2) := by decide +kernel
theorem dX8_splitAll_34 : decode cX8_splitAll 34 = .ok (.invokevirtual 142, 3) := by decide +kernel
theorem dX8_splitAll_37 : decode cX8_splitAll 37 = .ok (.ifCond .eq 36, 3) := by decide +kernel
theorem dX8_splitAll_40 : decode cX8_splitAll 40 = .ok (.aload_n 0, 1) := by decide +kernel
theorem dX8_splitAll_41 : decode cX8_splitAll 41 = .ok (.bipush 24, 2) := by decide +kernel
theorem dX8_splitAll_43 : decode cX8_splitAll 43 = .ok (.iload_n 3, 1) := by decide +kernel
theorem dX8_splitAll_44 : decode cX8_splitAll 44 = .ok (.iadd, 1) := by decide +kernel
theorem dX8_splitAll_45 : decode cX8_splitAll 45 = .ok (.bipush 20, 2) := by decide +kernel
theorem dX8_splitAll_47 : decode cX8_splitAll 47 = .ok (.invokevirtual 72, 3) := by decide +kernel
theorem dX8_splitAll_50 : decode cX8_splitAll 50 = .ok (.aload_n 0, 1) := by decide +kernel
theorem dX8_splitAll_51 : decode cX8_splitAll 51 = .ok (.bipush 20, 2) := by decide +kernel
theorem dX8_splitAll_53 : decode cX8_splitAll 53 = .ok (.bipush 13, 2) := by decide +kernel
theorem dX8_splitAll_55 : decode cX8_splitAll 55 = .ok (.invokevirtual 89, 3) := by decide +kernel
theorem dX8_splitAll_58 : decode cX8_splitAll 58 = .ok (.aload_n 0, 1) := by decide +kernel
theorem dX8_splitAll_59 : decode cX8_splitAll 59 = .ok (.iconst 3, 1) := by decide +kernel
theorem dX8_splitAll_60 : decode cX8_splitAll 60 = .ok (.bipush 24, 2) := by decide +kernel
theorem dX8_splitAll_62 : decode cX8_splitAll 62 = .ok (.iload_n 3, 1) := by decide +kernel
theorem dX8_splitAll_63 : decode cX8_splitAll 63 = .ok (.iadd, 1) := by decide +kernel
theorem dX8_splitAll_64 : decode cX8_splitAll 64 = .ok (.invokevirtual 72, 3) := by decide +kernel
theorem dX8_splitAll_67 : decode cX8_splitAll 67 = .ok (.aload_n 0, 1) := by decide +kernel
theorem dX8_splitAll_68 : decode cX8_splitAll 68 = .ok (.bipush 13, 2) := by decide +kernel
theorem dX8_splitAll_70 : decode cX8_splitAll 70 = .ok (.invokevirtual 145, 3) := by decide +kernel
theorem dX8_splitAll_73 : decode cX8_splitAll 73 = .ok (.lload 4, 2) := by decide +kernel
theorem dX8_splitAll_75 : decode cX8_splitAll 75 = .ok (.lconst 1, 1) := by decide +kernel
theorem dX8_splitAll_76 : decode cX8_splitAll 76 = .ok (.ladd, 1) := by decide +kernel
theorem dX8_splitAll_77 : decode cX8_splitAll 77 = .ok (.lstore 4, 2) := by decide +kernel
theorem dX8_splitAll_79 : decode cX8_splitAll 79 = .ok (.goto (-66), 3) := by decide +kernel
theorem dX8_splitAll_82 : decode cX8_splitAll 82 = .ok (.iinc 3 1, 3) := by decide +kernel
theorem dX8_splitAll_85 : decode cX8_splitAll 85 = .ok (.goto (-83), 3) := by decide +kernel
theorem dX8_splitAll_88 : decode cX8_splitAll 88 = .ok (.return_, 1) := by decide +kernel
theorem dX8_factorModulo_0 : decode cX8_factorModulo 0 = .ok (.aload_n 0, 1) := by decide +kernel
theorem dX8_factorModulo_1 : decode cX8_factorModulo 1 = .ok (.iconst 0, 1) := by decide +kernel
theorem dX8_factorModulo_2 : decode cX8_factorModulo 2 = .ok (.putfield 129, 3) := by decide +kernel
theorem dX8_factorModulo_5 : decode cX8_factorModulo 5 = .ok (.aload_n 0, 1) := by decide +kernel
theorem dX8_factorModulo_6 : decode cX8_factorModulo 6 = .ok (.bipush 10, 2) := by decide +kernel
theorem dX8_factorModulo_8 : decode cX8_factorModulo 8 = .ok (.invokevirtual 132, 3) := by decide +kernel
theorem dX8_factorModulo_11 : decode cX8_factorModulo 11 = .ok (.aload_n 0, 1) := by decide +kernel
theorem dX8_factorModulo_12 : decode cX8_factorModulo 12 = .ok (.bipush 10, 2) := by decide +kernel
theorem dX8_factorModulo_14 : decode cX8_factorModulo 14 = .ok (.bipush 12, 2) := by decide +kernel
theorem dX8_factorModulo_16 : decode cX8_factorModulo 16 = .ok (.invokevirtual 89, 3) := by decide +kernel
theorem dX8_factorModulo_19 : decode cX8_factorModulo 19 = .ok (.iconst 1, 1) := by decide +kernel
theorem dX8_factorModulo_20 : decode cX8_factorModulo 20 = .ok (.istore_n 1, 1) := by decide +kernel
theorem dX8_factorModulo_21 : decode cX8_factorModulo 21 = .ok (.aload_n 0, 1) := by decide +kernel
theorem dX8_factorModulo_22 : decode cX8_factorModulo 22 = .ok (.getfield 26, 3) := by decide +kernel
theorem dX8_factorModulo_25 : decode cX8_factorModulo 25 = .ok (.bipush 12, 2) := by decide +kernel
theorem dX8_factorModulo_27 : decode cX8_factorModulo 27 = .ok (.iaload, 1) := by decide +kernel
theorem dX8_factorModulo_28 : decode cX8_factorModulo 28 = .ok (.ifCond .le 151, 3) := by decide +kernel
theorem dX8_factorModulo_31 : decode cX8_factorModulo 31 = .ok (.iconst 2, 1) := by decide +kernel
theorem dX8_factorModulo_32 : decode cX8_factorModulo 32 = .ok (.iload_n 1, 1) := by decide +kernel
theorem dX8_factorModulo_33 : decode cX8_factorModulo 33 = .ok (.imul, 1) := by decide +kernel
theorem dX8_factorModulo_34 : decode cX8_factorModulo 34 = .ok (.aload_n 0, 1) := by decide +kernel
theorem dX8_factorModulo_35 : decode cX8_factorModulo 35 = .ok (.getfield 26, 3) := by decide +kernel
theorem dX8_factorModulo_38 : decode cX8_factorModulo 38 = .ok (.bipush 12, 2) := by decide +kernel
theorem dX8_factorModulo_40 : decode cX8_factorModulo 40 = .ok (.iaload, 1) := by decide +kernel
theorem dX8_factorModulo_41 : decode cX8_factorModulo 41 = .ok (.if_icmp .le 10, 3) := by decide +kernel
theorem dX8_factorModulo_44 : decode cX8_factorModulo 44 = .ok (.aload_n 0, 1) := by decide +kernel
theorem dX8_factorModulo_45 : decode cX8_factorModulo 45 = .ok (.bipush 12, 2) := by decide +kernel
theorem dX8_factorModulo_47 : decode cX8_factorModulo 47 = .ok (.invokevirtual 145, 3) := by decide +kernel
theorem dX8_factorModulo_50 : decode cX8_factorModulo 50 = .ok (.return_, 1) := by decide +kernel
theorem dX8_factorModulo_51 : decode cX8_factorModulo 51 = .ok (.aload_n 0, 1) := by decide +kernel
theorem dX8_factorModulo_52 : decode cX8_factorModulo 52 = .ok (.bipush 10, 2) := by decide +kernel
theorem dX8_factorModulo_54 : decode cX8_factorModulo 54 = .ok (.bipush 16, 2) := by decide +kernel
theorem dX8_factorModulo_56 : decode cX8_factorModulo 56 = .ok (.invokevirtual 72, 3) := by decide +kernel
theorem dX8_factorModulo_59 : decode cX8_factorModulo 59 = .ok (.aload_n 0, 1) := by decide +kernel
theorem dX8_factorModulo_60 : decode cX8_factorModulo 60 = .ok (.bipush 16, 2) := by decide +kernel
theorem dX8_factorModulo_62 : decode cX8_factorModulo 62 = .ok (.aload_n 0, 1) := by decide +kernel
theorem dX8_factorModulo_63 : decode cX8_factorModulo 63 = .ok (.getfield 75, 3) := by decide +kernel
theorem dX8_factorModulo_66 : decode cX8_factorModulo 66 = .ok (.bipush 12, 2) := by decide +kernel
theorem dX8_factorModulo_68 : decode cX8_factorModulo 68 = .ok (.bipush 10, 2) := by decide +kernel
theorem dX8_factorModulo_70 : decode cX8_factorModulo 70 = .ok (.invokevirtual 138, 3) := by decide +kernel
theorem dX8_factorModulo_73 : decode cX8_factorModulo 73 = .ok (.aload_n 0, 1) := by decide +kernel
theorem dX8_factorModulo_74 : decode cX8_factorModulo 74 = .ok (.bipush 10, 2) := by decide +kernel
theorem dX8_factorModulo_76 : decode cX8_factorModulo 76 = .ok (.bipush 11, 2) := by decide +kernel
theorem dX8_factorModulo_78 : decode cX8_factorModulo 78 = .ok (.invokevirtual 72, 3) := by decide +kernel
theorem dX8_factorModulo_81 : decode cX8_factorModulo 81 = .ok (.aload_n 0, 1) := by decide +kernel
theorem dX8_factorModulo_82 : decode cX8_factorModulo 82 = .ok (.bipush 11, 2) := by decide +kernel
theorem dX8_factorModulo_84 : decode cX8_factorModulo 84 = .ok (.invokevirtual 148, 3) := by decide +kernel
theorem dX8_factorModulo_87 : decode cX8_factorModulo 87 = .ok (.aload_n 0, 1) := by decide +kernel
theorem dX8_factorModulo_88 : decode cX8_factorModulo 88 = .ok (.bipush 12, 2) := by decide +kernel
theorem dX8_factorModulo_90 : decode cX8_factorModulo 90 = .ok (.bipush 17, 2) := by decide +kernel
theorem dX8_factorModulo_92 : decode cX8_factorModulo 92 = .ok (.invokevirtual 72, 3) := by decide +kernel
theorem dX8_factorModulo_95 : decode cX8_factorModulo 95 = .ok (.aload_n 0, 1) := by decide +kernel
theorem dX8_factorModulo_96 : decode cX8_factorModulo 96 = .ok (.bipush 17, 2) := by decide +kernel
theorem dX8_factorModulo_98 : decode cX8_factorModulo 98 = .ok (.bipush 11, 2) := by decide +kernel
theorem dX8_factorModulo_100 : decode cX8_factorModulo 100 = .ok (.bipush 18, 2) := by decide +kernel
theorem dX8_factorModulo_102 : decode cX8_factorModulo 102 = .ok (.invokevirtual 116, 3) := by decide +kernel
theorem dX8_factorModulo_105 : decode cX8_factorModulo 105 = .ok (.aload_n 0, 1) := by decide +kernel
theorem dX8_factorModulo_106 : decode cX8_factorModulo 106 = .ok (.getfield 26, 3) := by decide +kernel
theorem dX8_factorModulo_109 : decode cX8_factorModulo 109 = .ok (.bipush 18, 2) := by decide +kernel
theorem dX8_factorModulo_111 : decode cX8_factorModulo 111 = .ok (.iaload, 1) := by decide +kernel
theorem dX8_factorModulo_112 : decode cX8_factorModulo 112 = .ok (.ifCond .le 61, 3) := by decide +kernel
theorem dX8_factorModulo_115 : decode cX8_factorModulo 115 = .ok (.aload_n 0, 1) := by decide +kernel
theorem dX8_factorModulo_116 : decode cX8_factorModulo 116 = .ok (.getfield 129, 3) := by decide +kernel
theorem dX8_factorModulo_119 : decode cX8_factorModulo 119 = .ok (.istore_n 2, 1) := by decide +kernel
theorem dX8_factorModulo_120 : decode cX8_factorModulo 120 = .ok (.aload_n 0, 1) := by decide +kernel
theorem dX8_factorModulo_121 : decode cX8_factorModulo 121 = .ok (.bipush 18, 2) := by decide +kernel
theorem dX8_factorModulo_123 : decode cX8_factorModulo 123 = .ok (.invokevirtual 145, 3) := by decide +kernel
theorem dX8_factorModulo_126 : decode cX8_factorModulo 126 = .ok (.aload_n 0, 1) := by decide +kernel
theorem dX8_factorModulo_127 : decode cX8_factorModulo 127 = .ok (.bipush 12, 2) := by decide +kernel
theorem dX8_factorModulo_129 : decode cX8_factorModulo 129 = .ok (.bipush 17, 2) := by decide +kernel
theorem dX8_factorModulo_131 : decode cX8_factorModulo 131 = .ok (.invokevirtual 72, 3) := by decide +kernel
theorem dX8_factorModulo_134 : decode cX8_factorModulo 134 = .ok (.aload_n 0, 1) := by decide +kernel
theorem dX8_factorModulo_135 : decode cX8_factorModulo 135 = .ok (.bipush 17, 2) := by decide +kernel
theorem dX8_factorModulo_137 : decode cX8_factorModulo 137 = .ok (.bipush 18, 2) := by decide +kernel
theorem dX8_factorModulo_139 : decode cX8_factorModulo 139 = .ok (.invokevirtual 89, 3) := by decide +kernel
theorem dX8_factorModulo_142 : decode cX8_factorModulo 142 = .ok (.aload_n 0, 1) := by decide +kernel
theorem dX8_factorModulo_143 : decode cX8_factorModulo 143 = .ok (.iconst 3, 1) := by decide +kernel
theorem dX8_factorModulo_144 : decode cX8_factorModulo 144 = .ok (.bipush 12, 2) := by decide +kernel
theorem dX8_factorModulo_146 : decode cX8_factorModulo 146 = .ok (.invokevirtual 72, 3) := by decide +kernel
theorem dX8_factorModulo_149 : decode cX8_factorModulo 149 = .ok (.aload_n 0, 1) := by decide +kernel
theorem dX8_factorModulo_150 : decode cX8_factorModulo 150 = .ok (.iload_n 2, 1) := by decide +kernel
theorem dX8_factorModulo_151 : decode cX8_factorModulo 151 = .ok (.iload_n 1, 1) := by decide +kernel
theorem dX8_factorModulo_152 : decode cX8_factorModulo 152 = .ok (.invokevirtual 151, 3) := by decide +kernel
theorem dX8_factorModulo_155 : decode cX8_factorModulo 155 = .ok (.aload_n 0, 1) := by decide +kernel
theorem dX8_factorModulo_156 : decode cX8_factorModulo 156 = .ok (.getfield 26, 3) := by decide +kernel
theorem dX8_factorModulo_159 : decode cX8_factorModulo 159 = .ok (.bipush 12, 2) := by decide +kernel
theorem dX8_factorModulo_161 : decode cX8_factorModulo 161 = .ok (.iaload, 1) := by decide +kernel
theorem dX8_factorModulo_162 : decode cX8_factorModulo 162 = .ok (.ifCond .le 11, 3) := by decide +kernel
theorem dX8_factorModulo_165 : decode cX8_factorModulo 165 = .ok (.aload_n 0, 1) := by decide +kernel
theorem dX8_factorModulo_166 : decode cX8_factorModulo 166 = .ok (.bipush 10, 2) := by decide +kernel
theorem dX8_factorModulo_168 : decode cX8_factorModulo 168 = .ok (.bipush 12, 2) := by decide +kernel
theorem dX8_factorModulo_170 : decode cX8_factorModulo 170 = .ok (.invokevirtual 89, 3) := by decide +kernel
theorem dX8_factorModulo_173 : decode cX8_factorModulo 173 = .ok (.iinc 1 1, 3) := by decide +kernel
theorem dX8_factorModulo_176 : decode cX8_factorModulo 176 = .ok (.goto (-155), 3) := by decide +kernel
theorem dX8_factorModulo_179 : decode cX8_factorModulo 179 = .ok (.return_, 1) := by decide +kernel
theorem dX8_candidate_0 : decode cX8_candidate 0 = .ok (.aload_n 0, 1) := by decide +kernel
theorem dX8_candidate_1 : decode cX8_candidate 1 = .ok (.getfield 22, 3) := by decide +kernel
theorem dX8_candidate_4 : decode cX8_candidate 4 = .ok (.sipush 456, 3) := by decide +kernel
theorem dX8_candidate_7 : decode cX8_candidate 7 = .ok (.aload_n 0, 1) := by decide +kernel
theorem dX8_candidate_8 : decode cX8_candidate 8 = .ok (.getfield 26, 3) := by decide +kernel
theorem dX8_candidate_11 : decode cX8_candidate 11 = .ok (.bipush 19, 2) := by decide +kernel
theorem dX8_candidate_13 : decode cX8_candidate 13 = .ok (.iaload, 1) := by decide +kernel
theorem dX8_candidate_14 : decode cX8_candidate 14 = .ok (.iadd, 1) := by decide +kernel
theorem dX8_candidate_15 : decode cX8_candidate 15 = .ok (.laload, 1) := by decide +kernel
theorem dX8_candidate_16 : decode cX8_candidate 16 = .ok (.lstore_n 2, 1) := by decide +kernel
theorem dX8_candidate_17 : decode cX8_candidate 17 = .ok (.aload_n 0, 1) := by decide +kernel
theorem dX8_candidate_18 : decode cX8_candidate 18 = .ok (.bipush 7, 2) := by decide +kernel
theorem dX8_candidate_20 : decode cX8_candidate 20 = .ok (.lload_n 2, 1) := by decide +kernel
theorem dX8_candidate_21 : decode cX8_candidate 21 = .ok (.invokevirtual 92, 3) := by decide +kernel
theorem dX8_candidate_24 : decode cX8_candidate 24 = .ok (.iconst 0, 1) := by decide +kernel
theorem dX8_candidate_25 : decode cX8_candidate 25 = .ok (.istore 4, 2) := by decide +kernel
theorem dX8_candidate_27 : decode cX8_candidate 27 = .ok (.iload 4, 2) := by decide +kernel
theorem dX8_candidate_29 : decode cX8_candidate 29 = .ok (.aload_n 0, 1) := by decide +kernel
theorem dX8_candidate_30 : decode cX8_candidate 30 = .ok (.getfield 129, 3) := by decide +kernel
theorem dX8_candidate_33 : decode cX8_candidate 33 = .ok (.if_icmp .ge 193, 3) := by decide +kernel
theorem dX8_candidate_36 : decode cX8_candidate 36 = .ok (.iload_n 1, 1) := by decide +kernel
theorem dX8_candidate_37 : decode cX8_candidate 37 = .ok (.iload 4, 2) := by decide +kernel
theorem dX8_candidate_39 : decode cX8_candidate 39 = .ok (.ishr, 1) := by decide +kernel
theorem dX8_candidate_40 : decode cX8_candidate 40 = .ok (.iconst 1, 1) := by decide +kernel
theorem dX8_candidate_41 : decode cX8_candidate 41 = .ok (.iand, 1) := by decide +kernel
theorem dX8_candidate_42 : decode cX8_candidate 42 = .ok (.iconst 1, 1) := by decide +kernel
theorem dX8_candidate_43 : decode cX8_candidate 43 = .ok (.if_icmp .ne 177, 3) := by decide +kernel
theorem dX8_candidate_46 : decode cX8_candidate 46 = .ok (.aload_n 0, 1) := by decide +kernel
theorem dX8_candidate_47 : decode cX8_candidate 47 = .ok (.getfield 26, 3) := by decide +kernel
theorem dX8_candidate_50 : decode cX8_candidate 50 = .ok (.bipush 7, 2) := by decide +kernel
theorem dX8_candidate_52 : decode cX8_candidate 52 = .ok (.iaload, 1) := by decide +kernel
theorem dX8_candidate_53 : decode cX8_candidate 53 = .ok (.aload_n 0, 1) := by decide +kernel
theorem dX8_candidate_54 : decode cX8_candidate 54 = .ok (.getfield 26, 3) := by decide +kernel
theorem dX8_candidate_57 : decode cX8_candidate 57 = .ok (.bipush 24, 2) := by decide +kernel
theorem dX8_candidate_59 : decode cX8_candidate 59 = .ok (.iload 4, 2) := by decide +kernel
theorem dX8_candidate_61 : decode cX8_candidate 61 = .ok (.iadd, 1) := by decide +kernel
theorem dX8_candidate_62 : decode cX8_candidate 62 = .ok (.iaload, 1) := by decide +kernel
theorem dX8_candidate_63 : decode cX8_candidate 63 = .ok (.iadd, 1) := by decide +kernel
theorem dX8_candidate_64 : decode cX8_candidate 64 = .ok (.istore 5, 2) := by decide +kernel
theorem dX8_candidate_66 : decode cX8_candidate 66 = .ok (.iconst 0, 1) := by decide +kernel
theorem dX8_candidate_67 : decode cX8_candidate 67 = .ok (.istore 6, 2) := by decide +kernel
theorem dX8_candidate_69 : decode cX8_candidate 69 = .ok (.iload 6, 2) := by decide +kernel
theorem dX8_candidate_71 : decode cX8_candidate 71 = .ok (.iload 5, 2) := by decide +kernel
theorem dX8_candidate_73 : decode cX8_candidate 73 = .ok (.if_icmp .gt 21, 3) := by decide +kernel
theorem dX8_candidate_76 : decode cX8_candidate 76 = .ok (.aload_n 0, 1) := by decide +kernel
theorem dX8_candidate_77 : decode cX8_candidate 77 = .ok (.getfield 22, 3) := by decide +kernel
theorem dX8_candidate_80 : decode cX8_candidate 80 = .ok (.sipush 264, 3) := by decide +kernel
theorem dX8_candidate_83 : decode cX8_candidate 83 = .ok (.iload 6, 2) := by decide +kernel
theorem dX8_candidate_85 : decode cX8_candidate 85 = .ok (.iadd, 1) := by decide +kernel
theorem dX8_candidate_86 : decode cX8_candidate 86 = .ok (.lconst 0, 1) := by decide +kernel
theorem dX8_candidate_87 : decode cX8_candidate 87 = .ok (.lastore, 1) := by decide +kernel
theorem dX8_candidate_88 : decode cX8_candidate 88 = .ok (.iinc 6 1, 3) := by decide +kernel
theorem dX8_candidate_91 : decode cX8_candidate 91 = .ok (.goto (-22), 3) := by decide +kernel
theorem dX8_candidate_94 : decode cX8_candidate 94 = .ok (.iconst 0, 1) := by decide +kernel
theorem dX8_candidate_95 : decode cX8_candidate 95 = .ok (.istore 6, 2) := by decide +kernel
theorem dX8_candidate_97 : decode cX8_candidate 97 = .ok (.iload 6, 2) := by decide +kernel
theorem dX8_candidate_99 : decode cX8_candidate 99 = .ok (.aload_n 0, 1) := by decide +kernel
theorem dX8_candidate_100 : decode cX8_candidate 100 = .ok (.getfield 26, 3) := by decide +kernel
theorem dX8_candidate_103 : decode cX8_candidate 103 = .ok (.bipush 7, 2) := by decide +kernel
theorem dX8_candidate_105 : decode cX8_candidate 105 = .ok (.iaload, 1) := by decide +kernel
theorem dX8_candidate_106 : decode cX8_candidate 106 = .ok (.if_icmp .gt 98, 3) := by decide +kernel
theorem dX8_candidate_109 : decode cX8_candidate 109 = .ok (.iconst 0, 1) := by decide +kernel
theorem dX8_candidate_110 : decode cX8_candidate 110 = .ok (.istore 7, 2) := by decide +kernel
theorem dX8_candidate_112 : decode cX8_candidate 112 = .ok (.iload 7, 2) := by decide +kernel
theorem dX8_candidate_114 : decode cX8_candidate 114 = .ok (.aload_n 0, 1) := by decide +kernel
theorem dX8_candidate_115 : decode cX8_candidate 115 = .ok (.getfield 26, 3) := by decide +kernel
theorem dX8_candidate_118 : decode cX8_candidate 118 = .ok (.bipush 24, 2) := by decide +kernel
theorem dX8_candidate_120 : decode cX8_candidate 120 = .ok (.iload 4, 2) := by decide +kernel
theorem dX8_candidate_122 : decode cX8_candidate 122 = .ok (.iadd, 1) := by decide +kernel
theorem dX8_candidate_123 : decode cX8_candidate 123 = .ok (.iaload, 1) := by decide +kernel
theorem dX8_candidate_124 : decode cX8_candidate 124 = .ok (.if_icmp .gt 74, 3) := by decide +kernel
theorem dX8_candidate_127 : decode cX8_candidate 127 = .ok (.aload_n 0, 1) := by decide +kernel
theorem dX8_candidate_128 : decode cX8_candidate 128 = .ok (.getfield 22, 3) := by decide +kernel
theorem dX8_candidate_131 : decode cX8_candidate 131 = .ok (.sipush 264, 3) := by decide +kernel
theorem dX8_candidate_134 : decode cX8_candidate 134 = .ok (.iload 6, 2) := by decide +kernel
theorem dX8_candidate_136 : decode cX8_candidate 136 = .ok (.iadd, 1) := by decide +kernel
theorem dX8_candidate_137 : decode cX8_candidate 137 = .ok (.iload 7, 2) := by decide +kernel
theorem dX8_candidate_139 : decode cX8_candidate 139 = .ok (.iadd, 1) := by decide +kernel
theorem dX8_candidate_140 : decode cX8_candidate 140 = .ok (.aload_n 0, 1) := by decide +kernel
theorem dX8_candidate_141 : decode cX8_candidate 141 = .ok (.getfield 22, 3) := by decide +kernel
theorem dX8_candidate_144 : decode cX8_candidate 144 = .ok (.sipush 264, 3) := by decide +kernel
theorem dX8_candidate_147 : decode cX8_candidate 147 = .ok (.iload 6, 2) := by decide +kernel
theorem dX8_candidate_149 : decode cX8_candidate 149 = .ok (.iadd, 1) := by decide +kernel
theorem dX8_candidate_150 : decode cX8_candidate 150 = .ok (.iload 7, 2) := by decide +kernel
theorem dX8_candidate_152 : decode cX8_candidate 152 = .ok (.iadd, 1) := by decide +kernel
theorem dX8_candidate_153 : decode cX8_candidate 153 = .ok (.laload, 1) := by decide +kernel
theorem dX8_candidate_154 : decode cX8_candidate 154 = .ok (.aload_n 0, 1) := by decide +kernel
theorem dX8_candidate_155 : decode cX8_candidate 155 = .ok (.aload_n 0, 1) := by decide +kernel
theorem dX8_candidate_156 : decode cX8_candidate 156 = .ok (.getfield 22, 3) := by decide +kernel
theorem dX8_candidate_159 : decode cX8_candidate 159 = .ok (.sipush 168, 3) := by decide +kernel
theorem dX8_candidate_162 : decode cX8_candidate 162 = .ok (.iload 6, 2) := by decide +kernel
theorem dX8_candidate_164 : decode cX8_candidate 164 = .ok (.iadd, 1) := by decide +kernel
theorem dX8_candidate_165 : decode cX8_candidate 165 = .ok (.laload, 1) := by decide +kernel
theorem dX8_candidate_166 : decode cX8_candidate 166 = .ok (.aload_n 0, 1) := by decide +kernel
theorem dX8_candidate_167 : decode cX8_candidate 167 = .ok (.getfield 22, 3) := by decide +kernel
theorem dX8_candidate_170 : decode cX8_candidate 170 = .ok (.bipush 24, 2) := by decide +kernel
theorem dX8_candidate_172 : decode cX8_candidate 172 = .ok (.bipush 24, 2) := by decide +kernel
theorem dX8_candidate_174 : decode cX8_candidate 174 = .ok (.iload 4, 2) := by decide +kernel
theorem dX8_candidate_176 : decode cX8_candidate 176 = .ok (.iadd, 1) := by decide +kernel
theorem dX8_candidate_177 : decode cX8_candidate 177 = .ok (.imul, 1) := by decide +kernel
theorem dX8_candidate_178 : decode cX8_candidate 178 = .ok (.iload 7, 2) := by decide +kernel
theorem dX8_candidate_180 : decode cX8_candidate 180 = .ok (.iadd, 1) := by decide +kernel
theorem dX8_candidate_181 : decode cX8_candidate 181 = .ok (.laload, 1) := by decide +kernel
theorem dX8_candidate_182 : decode cX8_candidate 182 = .ok (.invokevirtual 81, 3) := by decide +kernel
theorem dX8_candidate_185 : decode cX8_candidate 185 = .ok (.ladd, 1) := by decide +kernel
theorem dX8_candidate_186 : decode cX8_candidate 186 = .ok (.aload_n 0, 1) := by decide +kernel
theorem dX8_candidate_187 : decode cX8_candidate 187 = .ok (.getfield 75, 3) := by decide +kernel
theorem dX8_candidate_190 : decode cX8_candidate 190 = .ok (.lrem, 1) := by decide +kernel
theorem dX8_candidate_191 : decode cX8_candidate 191 = .ok (.lastore, 1) := by decide +kernel
theorem dX8_candidate_192 : decode cX8_candidate 192 = .ok (.iinc 7 1, 3) := by decide +kernel
theorem dX8_candidate_195 : decode cX8_candidate 195 = .ok (.goto (-83), 3) := by decide +kernel
theorem dX8_candidate_198 : decode cX8_candidate 198 = .ok (.iinc 6 1, 3) := by decide +kernel
theorem dX8_candidate_201 : decode cX8_candidate 201 = .ok (.goto (-104), 3) := by decide +kernel
theorem dX8_candidate_204 : decode cX8_candidate 204 = .ok (.aload_n 0, 1) := by decide +kernel
theorem dX8_candidate_205 : decode cX8_candidate 205 = .ok (.bipush 11, 2) := by decide +kernel
theorem dX8_candidate_207 : decode cX8_candidate 207 = .ok (.iload 5, 2) := by decide +kernel
theorem dX8_candidate_209 : decode cX8_candidate 209 = .ok (.invokevirtual 57, 3) := by decide +kernel
theorem dX8_candidate_212 : decode cX8_candidate 212 = .ok (.aload_n 0, 1) := by decide +kernel
theorem dX8_candidate_213 : decode cX8_candidate 213 = .ok (.bipush 11, 2) := by decide +kernel
theorem dX8_candidate_215 : decode cX8_candidate 215 = .ok (.bipush 7, 2) := by decide +kernel
theorem dX8_candidate_217 : decode cX8_candidate 217 = .ok (.invokevirtual 72, 3) := by decide +kernel
theorem dX8_candidate_220 : decode cX8_candidate 220 = .ok (.iinc 4 1, 3) := by decide +kernel
theorem dX8_candidate_223 : decode cX8_candidate 223 = .ok (.goto (-196), 3) := by decide +kernel
theorem dX8_candidate_226 : decode cX8_candidate 226 = .ok (.aload_n 0, 1) := by decide +kernel
theorem dX8_candidate_227 : decode cX8_candidate 227 = .ok (.bipush 7, 2) := by decide +kernel
theorem dX8_candidate_229 : decode cX8_candidate 229 = .ok (.invokevirtual 120, 3) := by decide +kernel
theorem dX8_candidate_232 : decode cX8_candidate 232 = .ok (.aload_n 0, 1) := by decide +kernel
theorem dX8_candidate_233 : decode cX8_candidate 233 = .ok (.bipush 7, 2) := by decide +kernel
theorem dX8_candidate_235 : decode cX8_candidate 235 = .ok (.invokevirtual 106, 3) := by decide +kernel
theorem dX8_candidate_238 : decode cX8_candidate 238 = .ok (.pop2, 1) := by decide +kernel
theorem dX8_candidate_239 : decode cX8_candidate 239 = .ok (.return_, 1) := by decide +kernel
theorem dX8_bits_0 : decode cX8_bits 0 = .ok (.iconst 0, 1) := by decide +kernel
theorem dX8_bits_1 : decode cX8_bits 1 = .ok (.istore_n 1, 1) := by decide +kernel
theorem dX8_bits_2 : decode cX8_bits 2 = .ok (.iload_n 0, 1) := by decide +kernel
theorem dX8_bits_3 : decode cX8_bits 3 = .ok (.istore_n 2, 1) := by decide +kernel
theorem dX8_bits_4 : decode cX8_bits 4 = .ok (.iload_n 2, 1) := by decide +kernel
theorem dX8_bits_5 : decode cX8_bits 5 = .ok (.ifCond .eq 15, 3) := by decide +kernel
theorem dX8_bits_8 : decode cX8_bits 8 = .ok (.iinc 1 1, 3) := by decide +kernel
theorem dX8_bits_11 : decode cX8_bits 11 = .ok (.iload_n 2, 1) := by decide +kernel
theorem dX8_bits_12 : decode cX8_bits 12 = .ok (.iload_n 2, 1) := by decide +kernel
theorem dX8_bits_13 : decode cX8_bits 13 = .ok (.iconst 1, 1) := by decide +kernel
theorem dX8_bits_14 : decode cX8_bits 14 = .ok (.isub, 1) := by decide +kernel
theorem dX8_bits_15 : decode cX8_bits 15 = .ok (.iand, 1) := by decide +kernel
theorem dX8_bits_16 : decode cX8_bits 16 = .ok (.istore_n 2, 1) := by decide +kernel
theorem dX8_bits_17 : decode cX8_bits 17 = .ok (.goto (-13), 3) := by decide +kernel
theorem dX8_bits_20 : decode cX8_bits 20 = .ok (.iload_n 1, 1) := by decide +kernel
theorem dX8_bits_21 : decode cX8_bits 21 = .ok (.ireturn, 1) := by decide +kernel
theorem dX8_keep_0 : decode cX8_keep 0 = .ok (.aload_n 0, 1) := by decide +kernel
theorem dX8_keep_1 : decode cX8_keep 1 = .ok (.iload_n 1, 1) := by decide +kernel
theorem dX8_keep_2 : decode cX8_keep 2 = .ok (.bipush 40, 2) := by decide +kernel
theorem dX8_keep_4 : decode cX8_keep 4 = .ok (.aload_n 0, 1) := by decide +kernel
theorem dX8_keep_5 : decode cX8_keep 5 = .ok (.getfield 154, 3) := by decide +kernel
theorem dX8_keep_8 : decode cX8_keep 8 = .ok (.iadd, 1) := by decide +kernel
theorem dX8_keep_9 : decode cX8_keep 9 = .ok (.invokevirtual 72, 3) := by decide +kernel
theorem dX8_keep_12 : decode cX8_keep 12 = .ok (.aload_n 0, 1) := by decide +kernel
theorem dX8_keep_13 : decode cX8_keep 13 = .ok (.dup, 1) := by decide +kernel
theorem dX8_keep_14 : decode cX8_keep 14 = .ok (.getfield 154, 3) := by decide +kernel
theorem dX8_keep_17 : decode cX8_keep 17 = .ok (.iconst 1, 1) := by decide +kernel
theorem dX8_keep_18 : decode cX8_keep 18 = .ok (.iadd, 1) := by decide +kernel
theorem dX8_keep_19 : decode cX8_keep 19 = .ok (.putfield 154, 3) := by decide +kernel
theorem dX8_keep_22 : decode cX8_keep 22 = .ok (.return_, 1) := by decide +kernel
theorem dX8_factorWhole_0 : decode cX8_factorWhole 0 = .ok (.aload_n 0, 1) := by decide +kernel
theorem dX8_factorWhole_1 : decode cX8_factorWhole 1 = .ok (.iconst 0, 1) := by decide +kernel
theorem dX8_factorWhole_2 : decode cX8_factorWhole 2 = .ok (.putfield 154, 3) := by decide +kernel
theorem dX8_factorWhole_5 : decode cX8_factorWhole 5 = .ok (.iconst 0, 1) := by decide +kernel
theorem dX8_factorWhole_6 : decode cX8_factorWhole 6 = .ok (.istore_n 1, 1) := by decide +kernel
theorem dX8_factorWhole_7 : decode cX8_factorWhole 7 = .ok (.iconst 0, 1) := by decide +kernel
theorem dX8_factorWhole_8 : decode cX8_factorWhole 8 = .ok (.istore_n 2, 1) := by decide +kernel
theorem dX8_factorWhole_9 : decode cX8_factorWhole 9 = .ok (.iload_n 2, 1) := by decide +kernel
theorem dX8_factorWhole_10 : decode cX8_factorWhole 10 = .ok (.ifCond .ne 78, 3) := by decide +kernel
theorem dX8_factorWhole_13 : decode cX8_factorWhole 13 = .ok (.aload_n 0, 1) := by decide +kernel
theorem dX8_factorWhole_14 : decode cX8_factorWhole 14 = .ok (.iload_n 1, 1) := by decide +kernel
theorem dX8_factorWhole_15 : decode cX8_factorWhole 15 = .ok (.invokevirtual 110, 3) := by decide +kernel
theorem dX8_factorWhole_18 : decode cX8_factorWhole 18 = .ok (.aload_n 0, 1) := by decide +kernel
theorem dX8_factorWhole_19 : decode cX8_factorWhole 19 = .ok (.iconst 1, 1) := by decide +kernel
theorem dX8_factorWhole_20 : decode cX8_factorWhole 20 = .ok (.iconst 5, 1) := by decide +kernel
theorem dX8_factorWhole_21 : decode cX8_factorWhole 21 = .ok (.invokevirtual 72, 3) := by decide +kernel
theorem dX8_factorWhole_24 : decode cX8_factorWhole 24 = .ok (.aload_n 0, 1) := by decide +kernel
theorem dX8_factorWhole_25 : decode cX8_factorWhole 25 = .ok (.iconst 5, 1) := by decide +kernel
theorem dX8_factorWhole_26 : decode cX8_factorWhole 26 = .ok (.invokevirtual 113, 3) := by decide +kernel
theorem dX8_factorWhole_29 : decode cX8_factorWhole 29 = .ok (.aload_n 0, 1) := by decide +kernel
theorem dX8_factorWhole_30 : decode cX8_factorWhole 30 = .ok (.iconst 5, 1) := by decide +kernel
theorem dX8_factorWhole_31 : decode cX8_factorWhole 31 = .ok (.invokevirtual 100, 3) := by decide +kernel
theorem dX8_factorWhole_34 : decode cX8_factorWhole 34 = .ok (.aload_n 0, 1) := by decide +kernel
theorem dX8_factorWhole_35 : decode cX8_factorWhole 35 = .ok (.iconst 5, 1) := by decide +kernel
theorem dX8_factorWhole_36 : decode cX8_factorWhole 36 = .ok (.bipush 12, 2) := by decide +kernel
theorem dX8_factorWhole_38 : decode cX8_factorWhole 38 = .ok (.invokevirtual 72, 3) := by decide +kernel
theorem dX8_factorWhole_41 : decode cX8_factorWhole 41 = .ok (.aload_n 0, 1) := by decide +kernel
theorem dX8_factorWhole_42 : decode cX8_factorWhole 42 = .ok (.iconst 1, 1) := by decide +kernel
theorem dX8_factorWhole_43 : decode cX8_factorWhole 43 = .ok (.iconst 2, 1) := by decide +kernel
theorem dX8_factorWhole_44 : decode cX8_factorWhole 44 = .ok (.invokevirtual 72, 3) := by decide +kernel
theorem dX8_factorWhole_47 : decode cX8_factorWhole 47 = .ok (.aload_n 0, 1) := by decide +kernel
theorem dX8_factorWhole_48 : decode cX8_factorWhole 48 = .ok (.iconst 1, 1) := by decide +kernel
theorem dX8_factorWhole_49 : decode cX8_factorWhole 49 = .ok (.iconst 2, 1) := by decide +kernel
theorem dX8_factorWhole_50 : decode cX8_factorWhole 50 = .ok (.invokevirtual 157, 3) := by decide +kernel
theorem dX8_factorWhole_53 : decode cX8_factorWhole 53 = .ok (.aload_n 0, 1) := by decide +kernel
theorem dX8_factorWhole_54 : decode cX8_factorWhole 54 = .ok (.iconst 2, 1) := by decide +kernel
theorem dX8_factorWhole_55 : decode cX8_factorWhole 55 = .ok (.invokevirtual 113, 3) := by decide +kernel
theorem dX8_factorWhole_58 : decode cX8_factorWhole 58 = .ok (.aload_n 0, 1) := by decide +kernel
theorem dX8_factorWhole_59 : decode cX8_factorWhole 59 = .ok (.iconst 5, 1) := by decide +kernel
theorem dX8_factorWhole_60 : decode cX8_factorWhole 60 = .ok (.iconst 2, 1) := by decide +kernel
theorem dX8_factorWhole_61 : decode cX8_factorWhole 61 = .ok (.bipush 11, 2) := by decide +kernel
theorem dX8_factorWhole_63 : decode cX8_factorWhole 63 = .ok (.invokevirtual 116, 3) := by decide +kernel
theorem dX8_factorWhole_66 : decode cX8_factorWhole 66 = .ok (.aload_n 0, 1) := by decide +kernel
theorem dX8_factorWhole_67 : decode cX8_factorWhole 67 = .ok (.getfield 26, 3) := by decide +kernel
theorem dX8_factorWhole_70 : decode cX8_factorWhole 70 = .ok (.bipush 11, 2) := by decide +kernel
theorem dX8_factorWhole_72 : decode cX8_factorWhole 72 = .ok (.iaload, 1) := by decide +kernel
theorem dX8_factorWhole_73 : decode cX8_factorWhole 73 = .ok (.ifCond .ne 7, 3) := by decide +kernel
theorem dX8_factorWhole_76 : decode cX8_factorWhole 76 = .ok (.iconst 1, 1) := by decide +kernel
theorem dX8_factorWhole_77 : decode cX8_factorWhole 77 = .ok (.goto 4, 3) := by decide +kernel
theorem dX8_factorWhole_80 : decode cX8_factorWhole 80 = .ok (.iconst 0, 1) := by decide +kernel
theorem dX8_factorWhole_81 : decode cX8_factorWhole 81 = .ok (.istore_n 2, 1) := by decide +kernel
theorem dX8_factorWhole_82 : decode cX8_factorWhole 82 = .ok (.iinc 1 1, 3) := by decide +kernel
theorem dX8_factorWhole_85 : decode cX8_factorWhole 85 = .ok (.goto (-76), 3) := by decide +kernel
theorem dX8_factorWhole_88 : decode cX8_factorWhole 88 = .ok (.aload_n 0, 1) := by decide +kernel
theorem dX8_factorWhole_89 : decode cX8_factorWhole 89 = .ok (.invokevirtual 160, 3) := by decide +kernel
theorem dX8_factorWhole_92 : decode cX8_factorWhole 92 = .ok (.aload_n 0, 1) := by decide +kernel
theorem dX8_factorWhole_93 : decode cX8_factorWhole 93 = .ok (.iconst 1, 1) := by decide +kernel
theorem dX8_factorWhole_94 : decode cX8_factorWhole 94 = .ok (.bipush 19, 2) := by decide +kernel
theorem dX8_factorWhole_96 : decode cX8_factorWhole 96 = .ok (.invokevirtual 72, 3) := by decide +kernel
theorem dX8_factorWhole_99 : decode cX8_factorWhole 99 = .ok (.iconst 1, 1) := by decide +kernel
theorem dX8_factorWhole_100 : decode cX8_factorWhole 100 = .ok (.aload_n 0, 1) := by decide +kernel
theorem dX8_factorWhole_101 : decode cX8_factorWhole 101 = .ok (.getfield 129, 3) := by decide +kernel
theorem dX8_factorWhole_104 : decode cX8_factorWhole 104 = .ok (.ishl, 1) := by decide +kernel
theorem dX8_factorWhole_105 : decode cX8_factorWhole 105 = .ok (.iconst 1, 1) := by decide +kernel
theorem dX8_factorWhole_106 : decode cX8_factorWhole 106 = .ok (.isub, 1) := by decide +kernel
theorem dX8_factorWhole_107 : decode cX8_factorWhole 107 = .ok (.istore_n 3, 1) := by decide +kernel
theorem dX8_factorWhole_108 : decode cX8_factorWhole 108 = .ok (.iconst 1, 1) := by decide +kernel
theorem dX8_factorWhole_109 : decode cX8_factorWhole 109 = .ok (.istore 4, 2) := by decide +kernel
theorem dX8_factorWhole_111 : decode cX8_factorWhole 111 = .ok (.iconst 2, 1) := by decide +kernel
theorem dX8_factorWhole_112 : decode cX8_factorWhole 112 = .ok (.iload 4, 2) := by decide +kernel
theorem dX8_factorWhole_114 : decode cX8_factorWhole 114 = .ok (.imul, 1) := by decide +kernel
theorem dX8_factorWhole_115 : decode cX8_factorWhole 115 = .ok (.iload_n 3, 1) := by decide +kernel
theorem dX8_factorWhole_116 : decode cX8_factorWhole 116 = .ok (.invokestatic 163, 3) := by decide +kernel
theorem dX8_factorWhole_119 : decode cX8_factorWhole 119 = .ok (.if_icmp .gt 99, 3) := by decide +kernel
theorem dX8_factorWhole_122 : decode cX8_factorWhole 122 = .ok (.iconst 1, 1) := by decide +kernel
theorem dX8_factorWhole_123 : decode cX8_factorWhole 123 = .ok (.istore 5, 2) := by decide +kernel
theorem dX8_factorWhole_125 : decode cX8_factorWhole 125 = .ok (.iload 5, 2) := by decide +kernel
theorem dX8_factorWhole_127 : decode cX8_factorWhole 127 = .ok (.iconst 1, 1) := by decide +kernel
theorem dX8_factorWhole_128 : decode cX8_factorWhole 128 = .ok (.aload_n 0, 1) := by decide +kernel
theorem dX8_factorWhole_129 : decode cX8_factorWhole 129 = .ok (.getfield 129, 3) := by decide +kernel
theorem dX8_factorWhole_132 : decode cX8_factorWhole 132 = .ok (.ishl, 1) := by decide +kernel
theorem dX8_factorWhole_133 : decode cX8_factorWhole 133 = .ok (.if_icmp .ge 79, 3) := by decide +kernel
theorem dX8_factorWhole_136 : decode cX8_factorWhole 136 = .ok (.iload 5, 2) := by decide +kernel
theorem dX8_factorWhole_138 : decode cX8_factorWhole 138 = .ok (.iload_n 3, 1) := by decide +kernel
theorem dX8_factorWhole_139 : decode cX8_factorWhole 139 = .ok (.iconst (-1), 1) := by decide +kernel
theorem dX8_factorWhole_140 : decode cX8_factorWhole 140 = .ok (.ixor, 1) := by decide +kernel
theorem dX8_factorWhole_141 : decode cX8_factorWhole 141 = .ok (.iand, 1) := by decide +kernel
theorem dX8_factorWhole_142 : decode cX8_factorWhole 142 = .ok (.ifCond .ne 64, 3) := by decide +kernel
theorem dX8_factorWhole_145 : decode cX8_factorWhole 145 = .ok (.iload 5, 2) := by decide +kernel
theorem dX8_factorWhole_147 : decode cX8_factorWhole 147 = .ok (.invokestatic 163, 3) := by decide +kernel
theorem dX8_factorWhole_150 : decode cX8_factorWhole 150 = .ok (.iload 4, 2) := by decide +kernel
theorem dX8_factorWhole_152 : decode cX8_factorWhole 152 = .ok (.if_icmp .ne 54, 3) := by decide +kernel
theorem dX8_factorWhole_155 : decode cX8_factorWhole 155 = .ok (.iconst 2, 1) := by decide +kernel
theorem dX8_factorWhole_156 : decode cX8_factorWhole 156 = .ok (.iload 4, 2) := by decide +kernel
theorem dX8_factorWhole_158 : decode cX8_factorWhole 158 = .ok (.imul, 1) := by decide +kernel
theorem dX8_factorWhole_159 : decode cX8_factorWhole 159 = .ok (.iload_n 3, 1) := by decide +kernel
theorem dX8_factorWhole_160 : decode cX8_factorWhole 160 = .ok (.invokestatic 163, 3) := by decide +kernel
theorem dX8_factorWhole_163 : decode cX8_factorWhole 163 = .ok (.if_icmp .gt 43, 3) := by decide +kernel
theorem dX8_factorWhole_166 : decode cX8_factorWhole 166 = .ok (.aload_n 0, 1) := by decide +kernel
theorem dX8_factorWhole_167 : decode cX8_factorWhole 167 = .ok (.iload 5, 2) := by decide +kernel
theorem dX8_factorWhole_169 : decode cX8_factorWhole 169 = .ok (.invokevirtual 167, 3) := by decide +kernel
theorem dX8_factorWhole_172 : decode cX8_factorWhole 172 = .ok (.aload_n 0, 1) := by decide +kernel
theorem dX8_factorWhole_173 : decode cX8_factorWhole 173 = .ok (.bipush 7, 2) := by decide +kernel
theorem dX8_factorWhole_175 : decode cX8_factorWhole 175 = .ok (.bipush 19, 2) := by decide +kernel
theorem dX8_factorWhole_177 : decode cX8_factorWhole 177 = .ok (.ldc2_w 70, 3) := by decide +kernel
theorem dX8_factorWhole_180 : decode cX8_factorWhole 180 = .ok (.invokevirtual 125, 3) := by decide +kernel
theorem dX8_factorWhole_183 : decode cX8_factorWhole 183 = .ok (.ifCond .eq 23, 3) := by decide +kernel
theorem dX8_factorWhole_186 : decode cX8_factorWhole 186 = .ok (.aload_n 0, 1) := by decide +kernel
theorem dX8_factorWhole_187 : decode cX8_factorWhole 187 = .ok (.bipush 7, 2) := by decide +kernel
theorem dX8_factorWhole_189 : decode cX8_factorWhole 189 = .ok (.invokevirtual 170, 3) := by decide +kernel
theorem dX8_factorWhole_192 : decode cX8_factorWhole 192 = .ok (.aload_n 0, 1) := by decide +kernel
theorem dX8_factorWhole_193 : decode cX8_factorWhole 193 = .ok (.iconst 3, 1) := by decide +kernel
theorem dX8_factorWhole_194 : decode cX8_factorWhole 194 = .ok (.bipush 19, 2) := by decide +kernel
theorem dX8_factorWhole_196 : decode cX8_factorWhole 196 = .ok (.invokevirtual 72, 3) := by decide +kernel
theorem dX8_factorWhole_199 : decode cX8_factorWhole 199 = .ok (.iload_n 3, 1) := by decide +kernel
theorem dX8_factorWhole_200 : decode cX8_factorWhole 200 = .ok (.iload 5, 2) := by decide +kernel
theorem dX8_factorWhole_202 : decode cX8_factorWhole 202 = .ok (.iconst (-1), 1) := by decide +kernel
theorem dX8_factorWhole_203 : decode cX8_factorWhole 203 = .ok (.ixor, 1) := by decide +kernel
theorem dX8_factorWhole_204 : decode cX8_factorWhole 204 = .ok (.iand, 1) := by decide +kernel
theorem dX8_factorWhole_205 : decode cX8_factorWhole 205 = .ok (.istore_n 3, 1) := by decide +kernel
theorem dX8_factorWhole_206 : decode cX8_factorWhole 206 = .ok (.iinc 5 1, 3) := by decide +kernel
theorem dX8_factorWhole_209 : decode cX8_factorWhole 209 = .ok (.goto (-84), 3) := by decide +kernel
theorem dX8_factorWhole_212 : decode cX8_factorWhole 212 = .ok (.iinc 4 1, 3) := by decide +kernel
theorem dX8_factorWhole_215 : decode cX8_factorWhole 215 = .ok (.goto (-104), 3) := by decide +kernel
theorem dX8_factorWhole_218 : decode cX8_factorWhole 218 = .ok (.aload_n 0, 1) := by decide +kernel
theorem dX8_factorWhole_219 : decode cX8_factorWhole 219 = .ok (.getfield 26, 3) := by decide +kernel
theorem dX8_factorWhole_222 : decode cX8_factorWhole 222 = .ok (.bipush 19, 2) := by decide +kernel
theorem dX8_factorWhole_224 : decode cX8_factorWhole 224 = .ok (.iaload, 1) := by decide +kernel
theorem dX8_factorWhole_225 : decode cX8_factorWhole 225 = .ok (.ifCond .le 9, 3) := by decide +kernel
theorem dX8_factorWhole_228 : decode cX8_factorWhole 228 = .ok (.aload_n 0, 1) := by decide +kernel
theorem dX8_factorWhole_229 : decode cX8_factorWhole 229 = .ok (.bipush 19, 2) := by decide +kernel
theorem dX8_factorWhole_231 : decode cX8_factorWhole 231 = .ok (.invokevirtual 170, 3) := by decide +kernel
theorem dX8_factorWhole_234 : decode cX8_factorWhole 234 = .ok (.return_, 1) := by decide +kernel
theorem dX8_before_0 : decode cX8_before 0 = .ok (.aload_n 0, 1) := by decide +kernel
theorem dX8_before_1 : decode cX8_before 1 = .ok (.getfield 26, 3) := by decide +kernel
theorem dX8_before_4 : decode cX8_before 4 = .ok (.iload_n 1, 1) := by decide +kernel
theorem dX8_before_5 : decode cX8_before 5 = .ok (.iaload, 1) := by decide +kernel
theorem dX8_before_6 : decode cX8_before 6 = .ok (.aload_n 0, 1) := by decide +kernel
theorem dX8_before_7 : decode cX8_before 7 = .ok (.getfield 26, 3) := by decide +kernel
theorem dX8_before_10 : decode cX8_before 10 = .ok (.iload_n 2, 1) := by decide +kernel
theorem dX8_before_11 : decode cX8_before 11 = .ok (.iaload, 1) := by decide +kernel
theorem dX8_before_12 : decode cX8_before 12 = .ok (.if_icmp .eq 24, 3) := by decide +kernel
theorem dX8_before_15 : decode cX8_before 15 = .ok (.aload_n 0, 1) := by decide +kernel
theorem dX8_before_16 : decode cX8_before 16 = .ok (.getfield 26, 3) := by decide +kernel
theorem dX8_before_19 : decode cX8_before 19 = .ok (.iload_n 1, 1) := by decide +kernel
theorem dX8_before_20 : decode cX8_before 20 = .ok (.iaload, 1) := by decide +kernel
theorem dX8_before_21 : decode cX8_before 21 = .ok (.aload_n 0, 1) := by decide +kernel
theorem dX8_before_22 : decode cX8_before 22 = .ok (.getfield 26, 3) := by decide +kernel
theorem dX8_before_25 : decode cX8_before 25 = .ok (.iload_n 2, 1) := by decide +kernel
theorem dX8_before_26 : decode cX8_before 26 = .ok (.iaload, 1) := by decide +kernel
theorem dX8_before_27 : decode cX8_before 27 = .ok (.if_icmp .ge 7, 3) := by decide +kernel
theorem dX8_before_30 : decode cX8_before 30 = .ok (.iconst 1, 1) := by decide +kernel
theorem dX8_before_31 : decode cX8_before 31 = .ok (.goto 4, 3) := by decide +kernel
theorem dX8_before_34 : decode cX8_before 34 = .ok (.iconst 0, 1) := by decide +kernel
theorem dX8_before_35 : decode cX8_before 35 = .ok (.ireturn, 1) := by decide +kernel
theorem dX8_before_36 : decode cX8_before 36 = .ok (.aload_n 0, 1) := by decide +kernel
theorem dX8_before_37 : decode cX8_before 37 = .ok (.getfield 26, 3) := by decide +kernel
theorem dX8_before_40 : decode cX8_before 40 = .ok (.iload_n 1, 1) := by decide +kernel
theorem dX8_before_41 : decode cX8_before 41 = .ok (.iaload, 1) := by decide +kernel
theorem dX8_before_42 : decode cX8_before 42 = .ok (.istore_n 3, 1) := by decide +kernel
theorem dX8_before_43 : decode cX8_before 43 = .ok (.iload_n 3, 1) := by decide +kernel
theorem dX8_before_44 : decode cX8_before 44 = .ok (.ifCond .lt 67, 3) := by decide +kernel
theorem dX8_before_47 : decode cX8_before 47 = .ok (.aload_n 0, 1) := by decide +kernel
theorem dX8_before_48 : decode cX8_before 48 = .ok (.getfield 22, 3) := by decide +kernel
theorem dX8_before_51 : decode cX8_before 51 = .ok (.bipush 24, 2) := by decide +kernel
theorem dX8_before_53 : decode cX8_before 53 = .ok (.iload_n 1, 1) := by decide +kernel
theorem dX8_before_54 : decode cX8_before 54 = .ok (.imul, 1) := by decide +kernel
theorem dX8_before_55 : decode cX8_before 55 = .ok (.iload_n 3, 1) := by decide +kernel
theorem dX8_before_56 : decode cX8_before 56 = .ok (.iadd, 1) := by decide +kernel
theorem dX8_before_57 : decode cX8_before 57 = .ok (.laload, 1) := by decide +kernel
theorem dX8_before_58 : decode cX8_before 58 = .ok (.aload_n 0, 1) := by decide +kernel
theorem dX8_before_59 : decode cX8_before 59 = .ok (.getfield 22, 3) := by decide +kernel
theorem dX8_before_62 : decode cX8_before 62 = .ok (.bipush 24, 2) := by decide +kernel
theorem dX8_before_64 : decode cX8_before 64 = .ok (.iload_n 2, 1) := by decide +kernel
theorem dX8_before_65 : decode cX8_before 65 = .ok (.imul, 1) := by decide +kernel
theorem dX8_before_66 : decode cX8_before 66 = .ok (.iload_n 3, 1) := by decide +kernel
theorem dX8_before_67 : decode cX8_before 67 = .ok (.iadd, 1) := by decide +kernel
theorem dX8_before_68 : decode cX8_before 68 = .ok (.laload, 1) := by decide +kernel
theorem dX8_before_69 : decode cX8_before 69 = .ok (.lcmp, 1) := by decide +kernel
theorem dX8_before_70 : decode cX8_before 70 = .ok (.ifCond .eq 35, 3) := by decide +kernel
theorem dX8_before_73 : decode cX8_before 73 = .ok (.aload_n 0, 1) := by decide +kernel
theorem dX8_before_74 : decode cX8_before 74 = .ok (.getfield 22, 3) := by decide +kernel
theorem dX8_before_77 : decode cX8_before 77 = .ok (.bipush 24, 2) := by decide +kernel
theorem dX8_before_79 : decode cX8_before 79 = .ok (.iload_n 1, 1) := by decide +kernel
theorem dX8_before_80 : decode cX8_before 80 = .ok (.imul, 1) := by decide +kernel
theorem dX8_before_81 : decode cX8_before 81 = .ok (.iload_n 3, 1) := by decide +kernel
theorem dX8_before_82 : decode cX8_before 82 = .ok (.iadd, 1) := by decide +kernel
theorem dX8_before_83 : decode cX8_before 83 = .ok (.laload, 1) := by decide +kernel
theorem dX8_before_84 : decode cX8_before 84 = .ok (.aload_n 0, 1) := by decide +kernel
theorem dX8_before_85 : decode cX8_before 85 = .ok (.getfield 22, 3) := by decide +kernel
theorem dX8_before_88 : decode cX8_before 88 = .ok (.bipush 24, 2) := by decide +kernel
theorem dX8_before_90 : decode cX8_before 90 = .ok (.iload_n 2, 1) := by decide +kernel
theorem dX8_before_91 : decode cX8_before 91 = .ok (.imul, 1) := by decide +kernel
theorem dX8_before_92 : decode cX8_before 92 = .ok (.iload_n 3, 1) := by decide +kernel
theorem dX8_before_93 : decode cX8_before 93 = .ok (.iadd, 1) := by decide +kernel
theorem dX8_before_94 : decode cX8_before 94 = .ok (.laload, 1) := by decide +kernel
theorem dX8_before_95 : decode cX8_before 95 = .ok (.lcmp, 1) := by decide +kernel
theorem dX8_before_96 : decode cX8_before 96 = .ok (.ifCond .ge 7, 3) := by decide +kernel
theorem dX8_before_99 : decode cX8_before 99 = .ok (.iconst 1, 1) := by decide +kernel
theorem dX8_before_100 : decode cX8_before 100 = .ok (.goto 4, 3) := by decide +kernel
theorem dX8_before_103 : decode cX8_before 103 = .ok (.iconst 0, 1) := by decide +kernel
theorem dX8_before_104 : decode cX8_before 104 = .ok (.ireturn, 1) := by decide +kernel
theorem dX8_before_105 : decode cX8_before 105 = .ok (.iinc 3 (-1), 3) := by decide +kernel
theorem dX8_before_108 : decode cX8_before 108 = .ok (.goto (-65), 3) := by decide +kernel
theorem dX8_before_111 : decode cX8_before 111 = .ok (.iconst 0, 1) := by decide +kernel
theorem dX8_before_112 : decode cX8_before 112 = .ok (.ireturn, 1) := by decide +kernel
theorem dX8_sort_0 : decode cX8_sort 0 = .ok (.iconst 1, 1) := by decide +kernel
theorem dX8_sort_1 : decode cX8_sort 1 = .ok (.istore_n 1, 1) := by decide +kernel
theorem dX8_sort_2 : decode cX8_sort 2 = .ok (.iload_n 1, 1) := by decide +kernel
theorem dX8_sort_3 : decode cX8_sort 3 = .ok (.aload_n 0, 1) := by decide +kernel
theorem dX8_sort_4 : decode cX8_sort 4 = .ok (.getfield 154, 3) := by decide +kernel
theorem dX8_sort_7 : decode cX8_sort 7 = .ok (.if_icmp .ge 74, 3) := by decide +kernel
theorem dX8_sort_10 : decode cX8_sort 10 = .ok (.iload_n 1, 1) := by decide +kernel
theorem dX8_sort_11 : decode cX8_sort 11 = .ok (.istore_n 2, 1) := by decide +kernel
theorem dX8_sort_12 : decode cX8_sort 12 = .ok (.iload_n 2, 1) := by decide +kernel
theorem dX8_sort_13 : decode cX8_sort 13 = .ok (.ifCond .le 62, 3) := by decide +kernel
theorem dX8_sort_16 : decode cX8_sort 16 = .ok (.aload_n 0, 1) := by decide +kernel
theorem dX8_sort_17 : decode cX8_sort 17 = .ok (.bipush 40, 2) := by decide +kernel
theorem dX8_sort_19 : decode cX8_sort 19 = .ok (.iload_n 2, 1) := by decide +kernel
theorem dX8_sort_20 : decode cX8_sort 20 = .ok (.iadd, 1) := by decide +kernel
theorem dX8_sort_21 : decode cX8_sort 21 = .ok (.bipush 40, 2) := by decide +kernel
theorem dX8_sort_23 : decode cX8_sort 23 = .ok (.iload_n 2, 1) := by decide +kernel
theorem dX8_sort_24 : decode cX8_sort 24 = .ok (.iadd, 1) := by decide +kernel
theorem dX8_sort_25 : decode cX8_sort 25 = .ok (.iconst 1, 1) := by decide +kernel
theorem dX8_sort_26 : decode cX8_sort 26 = .ok (.isub, 1) := by decide +kernel
theorem dX8_sort_27 : decode cX8_sort 27 = .ok (.invokevirtual 173, 3) := by decide +kernel
theorem dX8_sort_30 : decode cX8_sort 30 = .ok (.ifCond .eq 45, 3) := by decide +kernel
theorem dX8_sort_33 : decode cX8_sort 33 = .ok (.aload_n 0, 1) := by decide +kernel
theorem dX8_sort_34 : decode cX8_sort 34 = .ok (.bipush 40, 2) := by decide +kernel
theorem dX8_sort_36 : decode cX8_sort 36 = .ok (.iload_n 2, 1) := by decide +kernel
theorem dX8_sort_37 : decode cX8_sort 37 = .ok (.iadd, 1) := by decide +kernel
theorem dX8_sort_38 : decode cX8_sort 38 = .ok (.bipush 11, 2) := by decide +kernel
theorem dX8_sort_40 : decode cX8_sort 40 = .ok (.invokevirtual 72, 3) := by decide +kernel
theorem dX8_sort_43 : decode cX8_sort 43 = .ok (.aload_n 0, 1) := by decide +kernel
theorem dX8_sort_44 : decode cX8_sort 44 = .ok (.bipush 40, 2) := by decide +kernel
theorem dX8_sort_46 : decode cX8_sort 46 = .ok (.iload_n 2, 1) := by decide +kernel
theorem dX8_sort_47 : decode cX8_sort 47 = .ok (.iadd, 1) := by decide +kernel
theorem dX8_sort_48 : decode cX8_sort 48 = .ok (.iconst 1, 1) := by decide +kernel
theorem dX8_sort_49 : decode cX8_sort 49 = .ok (.isub, 1) := by decide +kernel
theorem dX8_sort_50 : decode cX8_sort 50 = .ok (.bipush 40, 2) := by decide +kernel
theorem dX8_sort_52 : decode cX8_sort 52 = .ok (.iload_n 2, 1) := by decide +kernel
theorem dX8_sort_53 : decode cX8_sort 53 = .ok (.iadd, 1) := by decide +kernel
theorem dX8_sort_54 : decode cX8_sort 54 = .ok (.invokevirtual 72, 3) := by decide +kernel
theorem dX8_sort_57 : decode cX8_sort 57 = .ok (.aload_n 0, 1) := by decide +kernel
theorem dX8_sort_58 : decode cX8_sort 58 = .ok (.bipush 11, 2) := by decide +kernel
theorem dX8_sort_60 : decode cX8_sort 60 = .ok (.bipush 40, 2) := by decide +kernel
theorem dX8_sort_62 : decode cX8_sort 62 = .ok (.iload_n 2, 1) := by decide +kernel
theorem dX8_sort_63 : decode cX8_sort 63 = .ok (.iadd, 1) := by decide +kernel
theorem dX8_sort_64 : decode cX8_sort 64 = .ok (.iconst 1, 1) := by decide +kernel
theorem dX8_sort_65 : decode cX8_sort 65 = .ok (.isub, 1) := by decide +kernel
theorem dX8_sort_66 : decode cX8_sort 66 = .ok (.invokevirtual 72, 3) := by decide +kernel
theorem dX8_sort_69 : decode cX8_sort 69 = .ok (.iinc 2 (-1), 3) := by decide +kernel
theorem dX8_sort_72 : decode cX8_sort 72 = .ok (.goto (-60), 3) := by decide +kernel
theorem dX8_sort_75 : decode cX8_sort 75 = .ok (.iinc 1 1, 3) := by decide +kernel
theorem dX8_sort_78 : decode cX8_sort 78 = .ok (.goto (-76), 3) := by decide +kernel
theorem dX8_sort_81 : decode cX8_sort 81 = .ok (.return_, 1) := by decide +kernel
theorem dX8_squareFreePart_0 : decode cX8_squareFreePart 0 = .ok (.aload_n 0, 1) := by decide +kernel
theorem dX8_squareFreePart_1 : decode cX8_squareFreePart 1 = .ok (.iconst 0, 1) := by decide +kernel
theorem dX8_squareFreePart_2 : decode cX8_squareFreePart 2 = .ok (.iconst 2, 1) := by decide +kernel
theorem dX8_squareFreePart_3 : decode cX8_squareFreePart 3 = .ok (.invokevirtual 157, 3) := by decide +kernel
theorem dX8_squareFreePart_6 : decode cX8_squareFreePart 6 = .ok (.aload_n 0, 1) := by decide +kernel
theorem dX8_squareFreePart_7 : decode cX8_squareFreePart 7 = .ok (.iconst 0, 1) := by decide +kernel
theorem dX8_squareFreePart_8 : decode cX8_squareFreePart 8 = .ok (.iconst 2, 1) := by decide +kernel
theorem dX8_squareFreePart_9 : decode cX8_squareFreePart 9 = .ok (.bipush 11, 2) := by decide +kernel
theorem dX8_squareFreePart_11 : decode cX8_squareFreePart 11 = .ok (.invokevirtual 177, 3) := by decide +kernel
theorem dX8_squareFreePart_14 : decode cX8_squareFreePart 14 = .ok (.aload_n 0, 1) := by decide +kernel
theorem dX8_squareFreePart_15 : decode cX8_squareFreePart 15 = .ok (.bipush 11, 2) := by decide +kernel
theorem dX8_squareFreePart_17 : decode cX8_squareFreePart 17 = .ok (.iconst 0, 1) := by decide +kernel
theorem dX8_squareFreePart_18 : decode cX8_squareFreePart 18 = .ok (.ldc2_w 70, 3) := by decide +kernel
theorem dX8_squareFreePart_21 : decode cX8_squareFreePart 21 = .ok (.invokevirtual 125, 3) := by decide +kernel
theorem dX8_squareFreePart_24 : decode cX8_squareFreePart 24 = .ok (.pop, 1) := by decide +kernel
theorem dX8_squareFreePart_25 : decode cX8_squareFreePart 25 = .ok (.aload_n 0, 1) := by decide +kernel
theorem dX8_squareFreePart_26 : decode cX8_squareFreePart 26 = .ok (.iconst 3, 1) := by decide +kernel
theorem dX8_squareFreePart_27 : decode cX8_squareFreePart 27 = .ok (.iconst 1, 1) := by decide +kernel
theorem dX8_squareFreePart_28 : decode cX8_squareFreePart 28 = .ok (.invokevirtual 72, 3) := by decide +kernel
theorem dX8_squareFreePart_31 : decode cX8_squareFreePart 31 = .ok (.aload_n 0, 1) := by decide +kernel
theorem dX8_squareFreePart_32 : decode cX8_squareFreePart 32 = .ok (.iconst 1, 1) := by decide +kernel
theorem dX8_squareFreePart_33 : decode cX8_squareFreePart 33 = .ok (.invokevirtual 106, 3) := by decide +kernel
theorem dX8_squareFreePart_36 : decode cX8_squareFreePart 36 = .ok (.pop2, 1) := by decide +kernel
theorem dX8_squareFreePart_37 : decode cX8_squareFreePart 37 = .ok (.return_, 1) := by decide +kernel
theorem dX8_countOften_0 : decode cX8_countOften 0 = .ok (.iconst 0, 1) := by decide +kernel
theorem dX8_countOften_1 : decode cX8_countOften 1 = .ok (.istore_n 1, 1) := by decide +kernel
theorem dX8_countOften_2 : decode cX8_countOften 2 = .ok (.iload_n 1, 1) := by decide +kernel
theorem dX8_countOften_3 : decode cX8_countOften 3 = .ok (.aload_n 0, 1) := by decide +kernel
theorem dX8_countOften_4 : decode cX8_countOften 4 = .ok (.getfield 154, 3) := by decide +kernel
theorem dX8_countOften_7 : decode cX8_countOften 7 = .ok (.if_icmp .ge 50, 3) := by decide +kernel
theorem dX8_countOften_10 : decode cX8_countOften 10 = .ok (.aload_n 0, 1) := by decide +kernel
theorem dX8_countOften_11 : decode cX8_countOften 11 = .ok (.getfield 29, 3) := by decide +kernel
theorem dX8_countOften_14 : decode cX8_countOften 14 = .ok (.iload_n 1, 1) := by decide +kernel
theorem dX8_countOften_15 : decode cX8_countOften 15 = .ok (.iconst 0, 1) := by decide +kernel
theorem dX8_countOften_16 : decode cX8_countOften 16 = .ok (.iastore, 1) := by decide +kernel
theorem dX8_countOften_17 : decode cX8_countOften 17 = .ok (.aload_n 0, 1) := by decide +kernel
theorem dX8_countOften_18 : decode cX8_countOften 18 = .ok (.bipush 40, 2) := by decide +kernel
theorem dX8_countOften_20 : decode cX8_countOften 20 = .ok (.iload_n 1, 1) := by decide +kernel
theorem dX8_countOften_21 : decode cX8_countOften 21 = .ok (.iadd, 1) := by decide +kernel
theorem dX8_countOften_22 : decode cX8_countOften 22 = .ok (.iconst 0, 1) := by decide +kernel
theorem dX8_countOften_23 : decode cX8_countOften 23 = .ok (.ldc2_w 70, 3) := by decide +kernel
theorem dX8_countOften_26 : decode cX8_countOften 26 = .ok (.invokevirtual 125, 3) := by decide +kernel
theorem dX8_countOften_29 : decode cX8_countOften 29 = .ok (.ifCond .eq 22, 3) := by decide +kernel
theorem dX8_countOften_32 : decode cX8_countOften 32 = .ok (.aload_n 0, 1) := by decide +kernel
theorem dX8_countOften_33 : decode cX8_countOften 33 = .ok (.getfield 29, 3) := by decide +kernel
theorem dX8_countOften_36 : decode cX8_countOften 36 = .ok (.iload_n 1, 1) := by decide +kernel
theorem dX8_countOften_37 : decode cX8_countOften 37 = .ok (.dup2, 1) := by decide +kernel
theorem dX8_countOften_38 : decode cX8_countOften 38 = .ok (.iaload, 1) := by decide +kernel
theorem dX8_countOften_39 : decode cX8_countOften 39 = .ok (.iconst 1, 1) := by decide +kernel
theorem dX8_countOften_40 : decode cX8_countOften 40 = .ok (.iadd, 1) := by decide +kernel
theorem dX8_countOften_41 : decode cX8_countOften 41 = .ok (.iastore, 1) := by decide +kernel
theorem dX8_countOften_42 : decode cX8_countOften 42 = .ok (.aload_n 0, 1) := by decide +kernel
theorem dX8_countOften_43 : decode cX8_countOften 43 = .ok (.iconst 3, 1) := by decide +kernel
theorem dX8_countOften_44 : decode cX8_countOften 44 = .ok (.iconst 0, 1) := by decide +kernel
theorem dX8_countOften_45 : decode cX8_countOften 45 = .ok (.invokevirtual 72, 3) := by decide +kernel
theorem dX8_countOften_48 : decode cX8_countOften 48 = .ok (.goto (-31), 3) := by decide +kernel
theorem dX8_countOften_51 : decode cX8_countOften 51 = .ok (.iinc 1 1, 3) := by decide +kernel
theorem dX8_countOften_54 : decode cX8_countOften 54 = .ok (.goto (-52), 3) := by decide +kernel
theorem dX8_countOften_57 : decode cX8_countOften 57 = .ok (.return_, 1) := by decide +kernel
theorem dX8_run_0 : decode cX8_run 0 = .ok (.aload_n 0, 1) := by decide +kernel
theorem dX8_run_1 : decode cX8_run 1 = .ok (.iload_n 1, 1) := by decide +kernel
theorem dX8_run_2 : decode cX8_run 2 = .ok (.invokestatic 180, 3) := by decide +kernel
theorem dX8_run_5 : decode cX8_run 5 = .ok (.ifCond .eq 7, 3) := by decide +kernel
theorem dX8_run_8 : decode cX8_run 8 = .ok (.iconst 0, 1) := by decide +kernel
theorem dX8_run_9 : decode cX8_run 9 = .ok (.goto 4, 3) := by decide +kernel
theorem dX8_run_12 : decode cX8_run 12 = .ok (.iconst 1, 1) := by decide +kernel
theorem dX8_run_13 : decode cX8_run 13 = .ok (.putfield 45, 3) := by decide +kernel
theorem dX8_run_16 : decode cX8_run 16 = .ok (.aload_n 0, 1) := by decide +kernel
theorem dX8_run_17 : decode cX8_run 17 = .ok (.getfield 45, 3) := by decide +kernel
theorem dX8_run_20 : decode cX8_run 20 = .ok (.ifCond .eq 5, 3) := by decide +kernel
theorem dX8_run_23 : decode cX8_run 23 = .ok (.iconst 0, 1) := by decide +kernel
theorem dX8_run_24 : decode cX8_run 24 = .ok (.ireturn, 1) := by decide +kernel
theorem dX8_run_25 : decode cX8_run 25 = .ok (.aload_n 0, 1) := by decide +kernel
theorem dX8_run_26 : decode cX8_run 26 = .ok (.iload_n 1, 1) := by decide +kernel
theorem dX8_run_27 : decode cX8_run 27 = .ok (.iconst 0, 1) := by decide +kernel
theorem dX8_run_28 : decode cX8_run 28 = .ok (.invokevirtual 184, 3) := by decide +kernel
theorem dX8_run_31 : decode cX8_run 31 = .ok (.aload_n 0, 1) := by decide +kernel
theorem dX8_run_32 : decode cX8_run 32 = .ok (.getfield 26, 3) := by decide +kernel
theorem dX8_run_35 : decode cX8_run 35 = .ok (.iconst 0, 1) := by decide +kernel
theorem dX8_run_36 : decode cX8_run 36 = .ok (.iaload, 1) := by decide +kernel
theorem dX8_run_37 : decode cX8_run 37 = .ok (.istore_n 2, 1) := by decide +kernel
theorem dX8_run_38 : decode cX8_run 38 = .ok (.iload_n 2, 1) := by decide +kernel
theorem dX8_run_39 : decode cX8_run 39 = .ok (.ifCond .ge 5, 3) := by decide +kernel
theorem dX8_run_42 : decode cX8_run 42 = .ok (.iconst (-1), 1) := by decide +kernel
theorem dX8_run_43 : decode cX8_run 43 = .ok (.ireturn, 1) := by decide +kernel
theorem dX8_run_44 : decode cX8_run 44 = .ok (.aload_n 0, 1) := by decide +kernel
theorem dX8_run_45 : decode cX8_run 45 = .ok (.iload_n 2, 1) := by decide +kernel
theorem dX8_run_46 : decode cX8_run 46 = .ok (.ifCond .le 18, 3) := by decide +kernel
theorem dX8_run_49 : decode cX8_run 49 = .ok (.bipush 80, 2) := by decide +kernel
theorem dX8_run_51 : decode cX8_run 51 = .ok (.aload_n 0, 1) := by decide +kernel
theorem dX8_run_52 : decode cX8_run 52 = .ok (.getfield 61, 3) := by decide +kernel
theorem dX8_run_55 : decode cX8_run 55 = .ok (.isub, 1) := by decide +kernel
theorem dX8_run_56 : decode cX8_run 56 = .ok (.iload_n 2, 1) := by decide +kernel
theorem dX8_run_57 : decode cX8_run 57 = .ok (.if_icmp .ge 7, 3) := by decide +kernel
theorem dX8_run_60 : decode cX8_run 60 = .ok (.iconst 2, 1) := by decide +kernel
theorem dX8_run_61 : decode cX8_run 61 = .ok (.goto 4, 3) := by decide +kernel
theorem dX8_run_64 : decode cX8_run 64 = .ok (.iconst 0, 1) := by decide +kernel
theorem dX8_run_65 : decode cX8_run 65 = .ok (.putfield 45, 3) := by decide +kernel
theorem dX8_run_68 : decode cX8_run 68 = .ok (.aload_n 0, 1) := by decide +kernel
theorem dX8_run_69 : decode cX8_run 69 = .ok (.getfield 45, 3) := by decide +kernel
theorem dX8_run_72 : decode cX8_run 72 = .ok (.ifCond .eq 5, 3) := by decide +kernel
theorem dX8_run_75 : decode cX8_run 75 = .ok (.iconst 0, 1) := by decide +kernel
theorem dX8_run_76 : decode cX8_run 76 = .ok (.ireturn, 1) := by decide +kernel
theorem dX8_run_77 : decode cX8_run 77 = .ok (.aload_n 0, 1) := by decide +kernel
theorem dX8_run_78 : decode cX8_run 78 = .ok (.iconst 0, 1) := by decide +kernel
theorem dX8_run_79 : decode cX8_run 79 = .ok (.putfield 154, 3) := by decide +kernel
theorem dX8_run_82 : decode cX8_run 82 = .ok (.iload_n 2, 1) := by decide +kernel
theorem dX8_run_83 : decode cX8_run 83 = .ok (.ifCond .le 25, 3) := by decide +kernel
theorem dX8_run_86 : decode cX8_run 86 = .ok (.aload_n 0, 1) := by decide +kernel
theorem dX8_run_87 : decode cX8_run 87 = .ok (.iconst 0, 1) := by decide +kernel
theorem dX8_run_88 : decode cX8_run 88 = .ok (.invokevirtual 106, 3) := by decide +kernel
theorem dX8_run_91 : decode cX8_run 91 = .ok (.pop2, 1) := by decide +kernel
theorem dX8_run_92 : decode cX8_run 92 = .ok (.aload_n 0, 1) := by decide +kernel
theorem dX8_run_93 : decode cX8_run 93 = .ok (.invokevirtual 187, 3) := by decide +kernel
theorem dX8_run_96 : decode cX8_run 96 = .ok (.aload_n 0, 1) := by decide +kernel
theorem dX8_run_97 : decode cX8_run 97 = .ok (.invokevirtual 190, 3) := by decide +kernel
theorem dX8_run_100 : decode cX8_run 100 = .ok (.aload_n 0, 1) := by decide +kernel
theorem dX8_run_101 : decode cX8_run 101 = .ok (.invokevirtual 193, 3) := by decide +kernel
theorem dX8_run_104 : decode cX8_run 104 = .ok (.aload_n 0, 1) := by decide +kernel
theorem dX8_run_105 : decode cX8_run 105 = .ok (.invokevirtual 196, 3) := by decide +kernel
theorem dX8_run_108 : decode cX8_run 108 = .ok (.iconst 0, 1) := by decide +kernel
theorem dX8_run_109 : decode cX8_run 109 = .ok (.istore_n 3, 1) := by decide +kernel
theorem dX8_run_110 : decode cX8_run 110 = .ok (.iload_n 3, 1) := by decide +kernel
theorem dX8_run_111 : decode cX8_run 111 = .ok (.aload_n 0, 1) := by decide +kernel
theorem dX8_run_112 : decode cX8_run 112 = .ok (.getfield 154, 3) := by decide +kernel
theorem dX8_run_115 : decode cX8_run 115 = .ok (.if_icmp .ge 23, 3) := by decide +kernel
theorem dX8_run_118 : decode cX8_run 118 = .ok (.aload_n 0, 1) := by decide +kernel
theorem dX8_run_119 : decode cX8_run 119 = .ok (.bipush 40, 2) := by decide +kernel
theorem dX8_run_121 : decode cX8_run 121 = .ok (.iload_n 3, 1) := by decide +kernel
theorem dX8_run_122 : decode cX8_run 122 = .ok (.iadd, 1) := by decide +kernel
theorem dX8_run_123 : decode cX8_run 123 = .ok (.invokevirtual 199, 3) := by decide +kernel
theorem dX8_run_126 : decode cX8_run 126 = .ok (.ifCond .eq 6, 3) := by decide +kernel
theorem dX8_run_129 : decode cX8_run 129 = .ok (.bipush (-2), 2) := by decide +kernel
theorem dX8_run_131 : decode cX8_run 131 = .ok (.ireturn, 1) := by decide +kernel
theorem dX8_run_132 : decode cX8_run 132 = .ok (.iinc 3 1, 3) := by decide +kernel
theorem dX8_run_135 : decode cX8_run 135 = .ok (.goto (-25), 3) := by decide +kernel
theorem dX8_run_138 : decode cX8_run 138 = .ok (.aload_n 0, 1) := by decide +kernel
theorem dX8_run_139 : decode cX8_run 139 = .ok (.aload_n 0, 1) := by decide +kernel
theorem dX8_run_140 : decode cX8_run 140 = .ok (.getfield 154, 3) := by decide +kernel
theorem dX8_run_143 : decode cX8_run 143 = .ok (.putfield 202, 3) := by decide +kernel
theorem dX8_run_146 : decode cX8_run 146 = .ok (.iconst 0, 1) := by decide +kernel
theorem dX8_run_147 : decode cX8_run 147 = .ok (.istore_n 3, 1) := by decide +kernel
theorem dX8_run_148 : decode cX8_run 148 = .ok (.iload_n 3, 1) := by decide +kernel
theorem dX8_run_149 : decode cX8_run 149 = .ok (.aload_n 0, 1) := by decide +kernel
theorem dX8_run_150 : decode cX8_run 150 = .ok (.getfield 154, 3) := by decide +kernel
theorem dX8_run_153 : decode cX8_run 153 = .ok (.if_icmp .ge 35, 3) := by decide +kernel
theorem dX8_run_156 : decode cX8_run 156 = .ok (.aload_n 0, 1) := by decide +kernel
theorem dX8_run_157 : decode cX8_run 157 = .ok (.getfield 16, 3) := by decide +kernel
theorem dX8_run_160 : decode cX8_run 160 = .ok (.iload_n 3, 1) := by decide +kernel
theorem dX8_run_161 : decode cX8_run 161 = .ok (.aload_n 0, 1) := by decide +kernel
theorem dX8_run_162 : decode cX8_run 162 = .ok (.bipush 40, 2) := by decide +kernel
theorem dX8_run_164 : decode cX8_run 164 = .ok (.iload_n 3, 1) := by decide +kernel
theorem dX8_run_165 : decode cX8_run 165 = .ok (.iadd, 1) := by decide +kernel
theorem dX8_run_166 : decode cX8_run 166 = .ok (.invokevirtual 205, 3) := by decide +kernel
theorem dX8_run_169 : decode cX8_run 169 = .ok (.iastore, 1) := by decide +kernel
theorem dX8_run_170 : decode cX8_run 170 = .ok (.aload_n 0, 1) := by decide +kernel
theorem dX8_run_171 : decode cX8_run 171 = .ok (.getfield 19, 3) := by decide +kernel
theorem dX8_run_174 : decode cX8_run 174 = .ok (.iload_n 3, 1) := by decide +kernel
theorem dX8_run_175 : decode cX8_run 175 = .ok (.aload_n 0, 1) := by decide +kernel
theorem dX8_run_176 : decode cX8_run 176 = .ok (.getfield 29, 3) := by decide +kernel
theorem dX8_run_179 : decode cX8_run 179 = .ok (.iload_n 3, 1) := by decide +kernel
theorem dX8_run_180 : decode cX8_run 180 = .ok (.iaload, 1) := by decide +kernel
theorem dX8_run_181 : decode cX8_run 181 = .ok (.iastore, 1) := by decide +kernel
theorem dX8_run_182 : decode cX8_run 182 = .ok (.iinc 3 1, 3) := by decide +kernel
theorem dX8_run_185 : decode cX8_run 185 = .ok (.goto (-37), 3) := by decide +kernel
theorem dX8_run_188 : decode cX8_run 188 = .ok (.aload_n 0, 1) := by decide +kernel
theorem dX8_run_189 : decode cX8_run 189 = .ok (.getfield 154, 3) := by decide +kernel
theorem dX8_run_192 : decode cX8_run 192 = .ok (.ireturn, 1) := by decide +kernel
theorem dX8_factor_0 : decode cX8_factor 0 = .ok (.aload_n 0, 1) := by decide +kernel
theorem dX8_factor_1 : decode cX8_factor 1 = .ok (.iload_n 1, 1) := by decide +kernel
theorem dX8_factor_2 : decode cX8_factor 2 = .ok (.ifCond .lt 11, 3) := by decide +kernel
theorem dX8_factor_5 : decode cX8_factor 5 = .ok (.iload_n 1, 1) := by decide +kernel
theorem dX8_factor_6 : decode cX8_factor 6 = .ok (.aload_n 0, 1) := by decide +kernel
theorem dX8_factor_7 : decode cX8_factor 7 = .ok (.getfield 202, 3) := by decide +kernel
theorem dX8_factor_10 : decode cX8_factor 10 = .ok (.if_icmp .lt 7, 3) := by decide +kernel
theorem dX8_factor_13 : decode cX8_factor 13 = .ok (.iconst 1, 1) := by decide +kernel
theorem dX8_factor_14 : decode cX8_factor 14 = .ok (.goto 4, 3) := by decide +kernel
theorem dX8_factor_17 : decode cX8_factor 17 = .ok (.iconst 0, 1) := by decide +kernel
theorem dX8_factor_18 : decode cX8_factor 18 = .ok (.putfield 45, 3) := by decide +kernel
theorem dX8_factor_21 : decode cX8_factor 21 = .ok (.aload_n 0, 1) := by decide +kernel
theorem dX8_factor_22 : decode cX8_factor 22 = .ok (.getfield 45, 3) := by decide +kernel
theorem dX8_factor_25 : decode cX8_factor 25 = .ok (.ifCond .eq 7, 3) := by decide +kernel
theorem dX8_factor_28 : decode cX8_factor 28 = .ok (.iconst 0, 1) := by decide +kernel
theorem dX8_factor_29 : decode cX8_factor 29 = .ok (.goto 9, 3) := by decide +kernel
theorem dX8_factor_32 : decode cX8_factor 32 = .ok (.aload_n 0, 1) := by decide +kernel
theorem dX8_factor_33 : decode cX8_factor 33 = .ok (.getfield 16, 3) := by decide +kernel
theorem dX8_factor_36 : decode cX8_factor 36 = .ok (.iload_n 1, 1) := by decide +kernel
theorem dX8_factor_37 : decode cX8_factor 37 = .ok (.iaload, 1) := by decide +kernel
theorem dX8_factor_38 : decode cX8_factor 38 = .ok (.ireturn, 1) := by decide +kernel
theorem dX8_multiplicity_0 : decode cX8_multiplicity 0 = .ok (.aload_n 0, 1) := by decide +kernel
theorem dX8_multiplicity_1 : decode cX8_multiplicity 1 = .ok (.iload_n 1, 1) := by decide +kernel
theorem dX8_multiplicity_2 : decode cX8_multiplicity 2 = .ok (.ifCond .lt 11, 3) := by decide +kernel
theorem dX8_multiplicity_5 : decode cX8_multiplicity 5 = .ok (.iload_n 1, 1) := by decide +kernel
theorem dX8_multiplicity_6 : decode cX8_multiplicity 6 = .ok (.aload_n 0, 1) := by decide +kernel
theorem dX8_multiplicity_7 : decode cX8_multiplicity 7 = .ok (.getfield 202, 3) := by decide +kernel
theorem dX8_multiplicity_10 : decode cX8_multiplicity 10 = .ok (.if_icmp .lt 7, 3) := by decide +kernel
theorem dX8_multiplicity_13 : decode cX8_multiplicity 13 = .ok (.iconst 1, 1) := by decide +kernel
theorem dX8_multiplicity_14 : decode cX8_multiplicity 14 = .ok (.goto 4, 3) := by decide +kernel
theorem dX8_multiplicity_17 : decode cX8_multiplicity 17 = .ok (.iconst 0, 1) := by decide +kernel
theorem dX8_multiplicity_18 : decode cX8_multiplicity 18 = .ok (.putfield 45, 3) := by decide +kernel
theorem dX8_multiplicity_21 : decode cX8_multiplicity 21 = .ok (.aload_n 0, 1) := by decide +kernel
theorem dX8_multiplicity_22 : decode cX8_multiplicity 22 = .ok (.getfield 45, 3) := by decide +kernel
theorem dX8_multiplicity_25 : decode cX8_multiplicity 25 = .ok (.ifCond .eq 7, 3) := by decide +kernel
theorem dX8_multiplicity_28 : decode cX8_multiplicity 28 = .ok (.iconst 0, 1) := by decide +kernel
theorem dX8_multiplicity_29 : decode cX8_multiplicity 29 = .ok (.goto 9, 3) := by decide +kernel
theorem dX8_multiplicity_32 : decode cX8_multiplicity 32 = .ok (.aload_n 0, 1) := by decide +kernel
theorem dX8_multiplicity_33 : decode cX8_multiplicity 33 = .ok (.getfield 19, 3) := by decide +kernel
theorem dX8_multiplicity_36 : decode cX8_multiplicity 36 = .ok (.iload_n 1, 1) := by decide +kernel
theorem dX8_multiplicity_37 : decode cX8_multiplicity 37 = .ok (.iaload, 1) := by decide +kernel
theorem dX8_multiplicity_38 : decode cX8_multiplicity 38 = .ok (.ireturn, 1) := by decide +kernel
theorem dX8_poly_0 : decode cX8_poly 0 = .ok (.aload_n 0, 1) := by decide +kernel
theorem dX8_poly_1 : decode cX8_poly 1 = .ok (.aload_n 0, 1) := by decide +kernel
theorem dX8_poly_2 : decode cX8_poly 2 = .ok (.getfield 61, 3) := by decide +kernel
theorem dX8_poly_5 : decode cX8_poly 5 = .ok (.bipush 80, 2) := by decide +kernel
theorem dX8_poly_7 : decode cX8_poly 7 = .ok (.if_icmp .ne 7, 3) := by decide +kernel
theorem dX8_poly_10 : decode cX8_poly 10 = .ok (.iconst 1, 1) := by decide +kernel
theorem dX8_poly_11 : decode cX8_poly 11 = .ok (.goto 4, 3) := by decide +kernel
theorem dX8_poly_14 : decode cX8_poly 14 = .ok (.iconst 0, 1) := by decide +kernel
theorem dX8_poly_15 : decode cX8_poly 15 = .ok (.putfield 45, 3) := by decide +kernel
theorem dX8_poly_18 : decode cX8_poly 18 = .ok (.aload_n 0, 1) := by decide +kernel
theorem dX8_poly_19 : decode cX8_poly 19 = .ok (.getfield 45, 3) := by decide +kernel
theorem dX8_poly_22 : decode cX8_poly 22 = .ok (.ifCond .eq 5, 3) := by decide +kernel
theorem dX8_poly_25 : decode cX8_poly 25 = .ok (.iconst 0, 1) := by decide +kernel
theorem dX8_poly_26 : decode cX8_poly 26 = .ok (.ireturn, 1) := by decide +kernel
theorem dX8_poly_27 : decode cX8_poly 27 = .ok (.aload_n 0, 1) := by decide +kernel
theorem dX8_poly_28 : decode cX8_poly 28 = .ok (.bipush 11, 2) := by decide +kernel
theorem dX8_poly_30 : decode cX8_poly 30 = .ok (.lconst 0, 1) := by decide +kernel
theorem dX8_poly_31 : decode cX8_poly 31 = .ok (.invokevirtual 92, 3) := by decide +kernel
theorem dX8_poly_34 : decode cX8_poly 34 = .ok (.aload_n 0, 1) := by decide +kernel
theorem dX8_poly_35 : decode cX8_poly 35 = .ok (.bipush 11, 2) := by decide +kernel
theorem dX8_poly_37 : decode cX8_poly 37 = .ok (.invokevirtual 205, 3) := by decide +kernel
theorem dX8_poly_40 : decode cX8_poly 40 = .ok (.ireturn, 1) := by decide +kernel
theorem dX8_set_0 : decode cX8_set 0 = .ok (.aload_n 0, 1) := by decide +kernel
theorem dX8_set_1 : decode cX8_set 1 = .ok (.iload_n 1, 1) := by decide +kernel
theorem dX8_set_2 : decode cX8_set 2 = .ok (.invokestatic 180, 3) := by decide +kernel
theorem dX8_set_5 : decode cX8_set 5 = .ok (.ifCond .eq 10, 3) := by decide +kernel
theorem dX8_set_8 : decode cX8_set 8 = .ok (.iload_n 2, 1) := by decide +kernel
theorem dX8_set_9 : decode cX8_set 9 = .ok (.invokestatic 208, 3) := by decide +kernel
theorem dX8_set_12 : decode cX8_set 12 = .ok (.ifCond .ne 7, 3) := by decide +kernel
theorem dX8_set_15 : decode cX8_set 15 = .ok (.iconst 1, 1) := by decide +kernel
theorem dX8_set_16 : decode cX8_set 16 = .ok (.goto 22, 3) := by decide +kernel
theorem dX8_set_19 : decode cX8_set 19 = .ok (.iload_n 3, 1) := by decide +kernel
theorem dX8_set_20 : decode cX8_set 20 = .ok (.sipush (-9999), 3) := by decide +kernel
theorem dX8_set_23 : decode cX8_set 23 = .ok (.if_icmp .lt 10, 3) := by decide +kernel
theorem dX8_set_26 : decode cX8_set 26 = .ok (.iload_n 3, 1) := by decide +kernel
theorem dX8_set_27 : decode cX8_set 27 = .ok (.sipush 9999, 3) := by decide +kernel
theorem dX8_set_30 : decode cX8_set 30 = .ok (.if_icmp .le 7, 3) := by decide +kernel
theorem dX8_set_33 : decode cX8_set 33 = .ok (.iconst 2, 1) := by decide +kernel
theorem dX8_set_34 : decode cX8_set 34 = .ok (.goto 4, 3) := by decide +kernel
theorem dX8_set_37 : decode cX8_set 37 = .ok (.iconst 0, 1) := by decide +kernel
theorem dX8_set_38 : decode cX8_set 38 = .ok (.putfield 45, 3) := by decide +kernel
theorem dX8_set_41 : decode cX8_set 41 = .ok (.aload_n 0, 1) := by decide +kernel
theorem dX8_set_42 : decode cX8_set 42 = .ok (.getfield 45, 3) := by decide +kernel
theorem dX8_set_45 : decode cX8_set 45 = .ok (.ifCond .eq 5, 3) := by decide +kernel
theorem dX8_set_48 : decode cX8_set 48 = .ok (.iconst 0, 1) := by decide +kernel
theorem dX8_set_49 : decode cX8_set 49 = .ok (.ireturn, 1) := by decide +kernel
theorem dX8_set_50 : decode cX8_set 50 = .ok (.aload_n 0, 1) := by decide +kernel
theorem dX8_set_51 : decode cX8_set 51 = .ok (.getfield 13, 3) := by decide +kernel
theorem dX8_set_54 : decode cX8_set 54 = .ok (.bipush 11, 2) := by decide +kernel
theorem dX8_set_56 : decode cX8_set 56 = .ok (.iload_n 1, 1) := by decide +kernel
theorem dX8_set_57 : decode cX8_set 57 = .ok (.imul, 1) := by decide +kernel
theorem dX8_set_58 : decode cX8_set 58 = .ok (.iload_n 2, 1) := by decide +kernel
theorem dX8_set_59 : decode cX8_set 59 = .ok (.iadd, 1) := by decide +kernel
theorem dX8_set_60 : decode cX8_set 60 = .ok (.iaload, 1) := by decide +kernel
theorem dX8_set_61 : decode cX8_set 61 = .ok (.iload_n 3, 1) := by decide +kernel
theorem dX8_set_62 : decode cX8_set 62 = .ok (.if_icmp .eq 7, 3) := by decide +kernel
theorem dX8_set_65 : decode cX8_set 65 = .ok (.iconst 1, 1) := by decide +kernel
theorem dX8_set_66 : decode cX8_set 66 = .ok (.goto 4, 3) := by decide +kernel
theorem dX8_set_69 : decode cX8_set 69 = .ok (.iconst 0, 1) := by decide +kernel
theorem dX8_set_70 : decode cX8_set 70 = .ok (.istore 4, 2) := by decide +kernel
theorem dX8_set_72 : decode cX8_set 72 = .ok (.aload_n 0, 1) := by decide +kernel
theorem dX8_set_73 : decode cX8_set 73 = .ok (.getfield 13, 3) := by decide +kernel
theorem dX8_set_76 : decode cX8_set 76 = .ok (.bipush 11, 2) := by decide +kernel
theorem dX8_set_78 : decode cX8_set 78 = .ok (.iload_n 1, 1) := by decide +kernel
theorem dX8_set_79 : decode cX8_set 79 = .ok (.imul, 1) := by decide +kernel
theorem dX8_set_80 : decode cX8_set 80 = .ok (.iload_n 2, 1) := by decide +kernel
theorem dX8_set_81 : decode cX8_set 81 = .ok (.iadd, 1) := by decide +kernel
theorem dX8_set_82 : decode cX8_set 82 = .ok (.iload_n 3, 1) := by decide +kernel
theorem dX8_set_83 : decode cX8_set 83 = .ok (.iastore, 1) := by decide +kernel
theorem dX8_set_84 : decode cX8_set 84 = .ok (.iload 4, 2) := by decide +kernel
theorem dX8_set_86 : decode cX8_set 86 = .ok (.ireturn, 1) := by decide +kernel
theorem dX8_at_0 : decode cX8_at 0 = .ok (.aload_n 0, 1) := by decide +kernel
theorem dX8_at_1 : decode cX8_at 1 = .ok (.iload_n 1, 1) := by decide +kernel
theorem dX8_at_2 : decode cX8_at 2 = .ok (.invokestatic 180, 3) := by decide +kernel
theorem dX8_at_5 : decode cX8_at 5 = .ok (.ifCond .eq 14, 3) := by decide +kernel
theorem dX8_at_8 : decode cX8_at 8 = .ok (.iload_n 2, 1) := by decide +kernel
theorem dX8_at_9 : decode cX8_at 9 = .ok (.invokestatic 208, 3) := by decide +kernel
theorem dX8_at_12 : decode cX8_at 12 = .ok (.ifCond .eq 7, 3) := by decide +kernel
theorem dX8_at_15 : decode cX8_at 15 = .ok (.iconst 0, 1) := by decide +kernel
theorem dX8_at_16 : decode cX8_at 16 = .ok (.goto 4, 3) := by decide +kernel
theorem dX8_at_19 : decode cX8_at 19 = .ok (.iconst 1, 1) := by decide +kernel
theorem dX8_at_20 : decode cX8_at 20 = .ok (.putfield 45, 3) := by decide +kernel
theorem dX8_at_23 : decode cX8_at 23 = .ok (.aload_n 0, 1) := by decide +kernel
theorem dX8_at_24 : decode cX8_at 24 = .ok (.getfield 45, 3) := by decide +kernel
theorem dX8_at_27 : decode cX8_at 27 = .ok (.ifCond .eq 7, 3) := by decide +kernel
theorem dX8_at_30 : decode cX8_at 30 = .ok (.iconst 0, 1) := by decide +kernel
theorem dX8_at_31 : decode cX8_at 31 = .ok (.goto 14, 3) := by decide +kernel
theorem dX8_at_34 : decode cX8_at 34 = .ok (.aload_n 0, 1) := by decide +kernel
theorem dX8_at_35 : decode cX8_at 35 = .ok (.getfield 13, 3) := by decide +kernel
theorem dX8_at_38 : decode cX8_at 38 = .ok (.bipush 11, 2) := by decide +kernel
theorem dX8_at_40 : decode cX8_at 40 = .ok (.iload_n 1, 1) := by decide +kernel
theorem dX8_at_41 : decode cX8_at 41 = .ok (.imul, 1) := by decide +kernel
theorem dX8_at_42 : decode cX8_at 42 = .ok (.iload_n 2, 1) := by decide +kernel
theorem dX8_at_43 : decode cX8_at 43 = .ok (.iadd, 1) := by decide +kernel
theorem dX8_at_44 : decode cX8_at 44 = .ok (.iaload, 1) := by decide +kernel
theorem dX8_at_45 : decode cX8_at 45 = .ok (.ireturn, 1) := by decide +kernel
theorem dX8_refuses_0 : decode cX8_refuses 0 = .ok (.aload_n 0, 1) := by decide +kernel
theorem dX8_refuses_1 : decode cX8_refuses 1 = .ok (.iload_n 1, 1) := by decide +kernel
theorem dX8_refuses_2 : decode cX8_refuses 2 = .ok (.invokestatic 180, 3) := by decide +kernel
theorem dX8_refuses_5 : decode cX8_refuses 5 = .ok (.ifCond .eq 10, 3) := by decide +kernel
theorem dX8_refuses_8 : decode cX8_refuses 8 = .ok (.iload_n 2, 1) := by decide +kernel
theorem dX8_refuses_9 : decode cX8_refuses 9 = .ok (.invokestatic 180, 3) := by decide +kernel
theorem dX8_refuses_12 : decode cX8_refuses 12 = .ok (.ifCond .ne 7, 3) := by decide +kernel
theorem dX8_refuses_15 : decode cX8_refuses 15 = .ok (.iconst 1, 1) := by decide +kernel
theorem dX8_refuses_16 : decode cX8_refuses 16 = .ok (.goto 17, 3) := by decide +kernel
theorem dX8_refuses_19 : decode cX8_refuses 19 = .ok (.aload_n 0, 1) := by decide +kernel
theorem dX8_refuses_20 : decode cX8_refuses 20 = .ok (.getfield 61, 3) := by decide +kernel
theorem dX8_refuses_23 : decode cX8_refuses 23 = .ok (.bipush 80, 2) := by decide +kernel
theorem dX8_refuses_25 : decode cX8_refuses 25 = .ok (.if_icmp .ne 7, 3) := by decide +kernel
theorem dX8_refuses_28 : decode cX8_refuses 28 = .ok (.iconst 2, 1) := by decide +kernel
theorem dX8_refuses_29 : decode cX8_refuses 29 = .ok (.goto 4, 3) := by decide +kernel
theorem dX8_refuses_32 : decode cX8_refuses 32 = .ok (.iconst 0, 1) := by decide +kernel
theorem dX8_refuses_33 : decode cX8_refuses 33 = .ok (.putfield 45, 3) := by decide +kernel
theorem dX8_refuses_36 : decode cX8_refuses 36 = .ok (.aload_n 0, 1) := by decide +kernel
theorem dX8_refuses_37 : decode cX8_refuses 37 = .ok (.getfield 45, 3) := by decide +kernel
theorem dX8_refuses_40 : decode cX8_refuses 40 = .ok (.ifCond .eq 5, 3) := by decide +kernel
theorem dX8_refuses_43 : decode cX8_refuses 43 = .ok (.iconst 1, 1) := by decide +kernel
theorem dX8_refuses_44 : decode cX8_refuses 44 = .ok (.ireturn, 1) := by decide +kernel
theorem dX8_refuses_45 : decode cX8_refuses 45 = .ok (.aload_n 0, 1) := by decide +kernel
theorem dX8_refuses_46 : decode cX8_refuses 46 = .ok (.iload_n 1, 1) := by decide +kernel
theorem dX8_refuses_47 : decode cX8_refuses 47 = .ok (.iconst 0, 1) := by decide +kernel
theorem dX8_refuses_48 : decode cX8_refuses 48 = .ok (.invokevirtual 184, 3) := by decide +kernel
theorem dX8_refuses_51 : decode cX8_refuses 51 = .ok (.aload_n 0, 1) := by decide +kernel
theorem dX8_refuses_52 : decode cX8_refuses 52 = .ok (.iload_n 2, 1) := by decide +kernel
theorem dX8_refuses_53 : decode cX8_refuses 53 = .ok (.iconst 1, 1) := by decide +kernel
theorem dX8_refuses_54 : decode cX8_refuses 54 = .ok (.invokevirtual 184, 3) := by decide +kernel
theorem dX8_refuses_57 : decode cX8_refuses 57 = .ok (.iconst 0, 1) := by decide +kernel
theorem dX8_refuses_58 : decode cX8_refuses 58 = .ok (.ireturn, 1) := by decide +kernel
theorem dX8_times_0 : decode cX8_times 0 = .ok (.aload_n 0, 1) := by decide +kernel
theorem dX8_times_1 : decode cX8_times 1 = .ok (.iload_n 1, 1) := by decide +kernel
theorem dX8_times_2 : decode cX8_times 2 = .ok (.iload_n 2, 1) := by decide +kernel
theorem dX8_times_3 : decode cX8_times 3 = .ok (.invokevirtual 211, 3) := by decide +kernel
theorem dX8_times_6 : decode cX8_times 6 = .ok (.ifCond .eq 5, 3) := by decide +kernel
theorem dX8_times_9 : decode cX8_times 9 = .ok (.iconst 0, 1) := by decide +kernel
theorem dX8_times_10 : decode cX8_times 10 = .ok (.ireturn, 1) := by decide +kernel
theorem dX8_times_11 : decode cX8_times 11 = .ok (.aload_n 0, 1) := by decide +kernel
theorem dX8_times_12 : decode cX8_times 12 = .ok (.getfield 26, 3) := by decide +kernel
theorem dX8_times_15 : decode cX8_times 15 = .ok (.iconst 0, 1) := by decide +kernel
theorem dX8_times_16 : decode cX8_times 16 = .ok (.iaload, 1) := by decide +kernel
theorem dX8_times_17 : decode cX8_times 17 = .ok (.ifCond .lt 12, 3) := by decide +kernel
theorem dX8_times_20 : decode cX8_times 20 = .ok (.aload_n 0, 1) := by decide +kernel
theorem dX8_times_21 : decode cX8_times 21 = .ok (.getfield 26, 3) := by decide +kernel
theorem dX8_times_24 : decode cX8_times 24 = .ok (.iconst 1, 1) := by decide +kernel
theorem dX8_times_25 : decode cX8_times 25 = .ok (.iaload, 1) := by decide +kernel
theorem dX8_times_26 : decode cX8_times 26 = .ok (.ifCond .ge 7, 3) := by decide +kernel
theorem dX8_times_29 : decode cX8_times 29 = .ok (.iconst (-1), 1) := by decide +kernel
theorem dX8_times_30 : decode cX8_times 30 = .ok (.goto 16, 3) := by decide +kernel
theorem dX8_times_33 : decode cX8_times 33 = .ok (.aload_n 0, 1) := by decide +kernel
theorem dX8_times_34 : decode cX8_times 34 = .ok (.getfield 26, 3) := by decide +kernel
theorem dX8_times_37 : decode cX8_times 37 = .ok (.iconst 0, 1) := by decide +kernel
theorem dX8_times_38 : decode cX8_times 38 = .ok (.iaload, 1) := by decide +kernel
theorem dX8_times_39 : decode cX8_times 39 = .ok (.aload_n 0, 1) := by decide +kernel
theorem dX8_times_40 : decode cX8_times 40 = .ok (.getfield 26, 3) := by decide +kernel
theorem dX8_times_43 : decode cX8_times 43 = .ok (.iconst 1, 1) := by decide +kernel
theorem dX8_times_44 : decode cX8_times 44 = .ok (.iaload, 1) := by decide +kernel
theorem dX8_times_45 : decode cX8_times 45 = .ok (.iadd, 1) := by decide +kernel
theorem dX8_times_46 : decode cX8_times 46 = .ok (.istore_n 3, 1) := by decide +kernel
theorem dX8_times_47 : decode cX8_times 47 = .ok (.iconst 0, 1) := by decide +kernel
theorem dX8_times_48 : decode cX8_times 48 = .ok (.istore 4, 2) := by decide +kernel
theorem dX8_times_50 : decode cX8_times 50 = .ok (.iload 4, 2) := by decide +kernel
theorem dX8_times_52 : decode cX8_times 52 = .ok (.iload_n 3, 1) := by decide +kernel
theorem dX8_times_53 : decode cX8_times 53 = .ok (.if_icmp .gt 21, 3) := by decide +kernel
theorem dX8_times_56 : decode cX8_times 56 = .ok (.aload_n 0, 1) := by decide +kernel
theorem dX8_times_57 : decode cX8_times 57 = .ok (.getfield 22, 3) := by decide +kernel
theorem dX8_times_60 : decode cX8_times 60 = .ok (.sipush 264, 3) := by decide +kernel
theorem dX8_times_63 : decode cX8_times 63 = .ok (.iload 4, 2) := by decide +kernel
theorem dX8_times_65 : decode cX8_times 65 = .ok (.iadd, 1) := by decide +kernel
theorem dX8_times_66 : decode cX8_times 66 = .ok (.lconst 0, 1) := by decide +kernel
theorem dX8_times_67 : decode cX8_times 67 = .ok (.lastore, 1) := by decide +kernel
theorem dX8_times_68 : decode cX8_times 68 = .ok (.iinc 4 1, 3) := by decide +kernel
theorem dX8_times_71 : decode cX8_times 71 = .ok (.goto (-21), 3) := by decide +kernel
theorem dX8_times_74 : decode cX8_times 74 = .ok (.iconst 0, 1) := by decide +kernel
theorem dX8_times_75 : decode cX8_times 75 = .ok (.istore 4, 2) := by decide +kernel
theorem dX8_times_77 : decode cX8_times 77 = .ok (.iload 4, 2) := by decide +kernel
theorem dX8_times_79 : decode cX8_times 79 = .ok (.aload_n 0, 1) := by decide +kernel
theorem dX8_times_80 : decode cX8_times 80 = .ok (.getfield 26, 3) := by decide +kernel
theorem dX8_times_83 : decode cX8_times 83 = .ok (.iconst 0, 1) := by decide +kernel
theorem dX8_times_84 : decode cX8_times 84 = .ok (.iaload, 1) := by decide +kernel
theorem dX8_times_85 : decode cX8_times 85 = .ok (.if_icmp .gt 70, 3) := by decide +kernel
theorem dX8_times_88 : decode cX8_times 88 = .ok (.iload_n 3, 1) := by decide +kernel
theorem dX8_times_89 : decode cX8_times 89 = .ok (.ifCond .lt 66, 3) := by decide +kernel
theorem dX8_times_92 : decode cX8_times 92 = .ok (.iconst 0, 1) := by decide +kernel
theorem dX8_times_93 : decode cX8_times 93 = .ok (.istore 5, 2) := by decide +kernel
theorem dX8_times_95 : decode cX8_times 95 = .ok (.iload 5, 2) := by decide +kernel
theorem dX8_times_97 : decode cX8_times 97 = .ok (.aload_n 0, 1) := by decide +kernel
theorem dX8_times_98 : decode cX8_times 98 = .ok (.getfield 26, 3) := by decide +kernel
theorem dX8_times_101 : decode cX8_times 101 = .ok (.iconst 1, 1) := by decide +kernel
theorem dX8_times_102 : decode cX8_times 102 = .ok (.iaload, 1) := by decide +kernel
theorem dX8_times_103 : decode cX8_times 103 = .ok (.if_icmp .gt 46, 3) := by decide +kernel
theorem dX8_times_106 : decode cX8_times 106 = .ok (.aload_n 0, 1) := by decide +kernel
theorem dX8_times_107 : decode cX8_times 107 = .ok (.getfield 22, 3) := by decide +kernel
theorem dX8_times_110 : decode cX8_times 110 = .ok (.sipush 264, 3) := by decide +kernel
theorem dX8_times_113 : decode cX8_times 113 = .ok (.iload 4, 2) := by decide +kernel
theorem dX8_times_115 : decode cX8_times 115 = .ok (.iadd, 1) := by decide +kernel
theorem dX8_times_116 : decode cX8_times 116 = .ok (.iload 5, 2) := by decide +kernel
theorem dX8_times_118 : decode cX8_times 118 = .ok (.iadd, 1) := by decide +kernel
theorem dX8_times_119 : decode cX8_times 119 = .ok (.dup2, 1) := by decide +kernel
theorem dX8_times_120 : decode cX8_times 120 = .ok (.laload, 1) := by decide +kernel
theorem dX8_times_121 : decode cX8_times 121 = .ok (.aload_n 0, 1) := by decide +kernel
theorem dX8_times_122 : decode cX8_times 122 = .ok (.getfield 22, 3) := by decide +kernel
theorem dX8_times_125 : decode cX8_times 125 = .ok (.iconst 0, 1) := by decide +kernel
theorem dX8_times_126 : decode cX8_times 126 = .ok (.iload 4, 2) := by decide +kernel
theorem dX8_times_128 : decode cX8_times 128 = .ok (.iadd, 1) := by decide +kernel
theorem dX8_times_129 : decode cX8_times 129 = .ok (.laload, 1) := by decide +kernel
theorem dX8_times_130 : decode cX8_times 130 = .ok (.aload_n 0, 1) := by decide +kernel
theorem dX8_times_131 : decode cX8_times 131 = .ok (.getfield 22, 3) := by decide +kernel
theorem dX8_times_134 : decode cX8_times 134 = .ok (.bipush 24, 2) := by decide +kernel
theorem dX8_times_136 : decode cX8_times 136 = .ok (.iload 5, 2) := by decide +kernel
theorem dX8_times_138 : decode cX8_times 138 = .ok (.iadd, 1) := by decide +kernel
theorem dX8_times_139 : decode cX8_times 139 = .ok (.laload, 1) := by decide +kernel
theorem dX8_times_140 : decode cX8_times 140 = .ok (.lmul, 1) := by decide +kernel
theorem dX8_times_141 : decode cX8_times 141 = .ok (.ladd, 1) := by decide +kernel
theorem dX8_times_142 : decode cX8_times 142 = .ok (.lastore, 1) := by decide +kernel
theorem dX8_times_143 : decode cX8_times 143 = .ok (.iinc 5 1, 3) := by decide +kernel
theorem dX8_times_146 : decode cX8_times 146 = .ok (.goto (-51), 3) := by decide +kernel
theorem dX8_times_149 : decode cX8_times 149 = .ok (.iinc 4 1, 3) := by decide +kernel
theorem dX8_times_152 : decode cX8_times 152 = .ok (.goto (-75), 3) := by decide +kernel
theorem dX8_times_155 : decode cX8_times 155 = .ok (.aload_n 0, 1) := by decide +kernel
theorem dX8_times_156 : decode cX8_times 156 = .ok (.bipush 11, 2) := by decide +kernel
theorem dX8_times_158 : decode cX8_times 158 = .ok (.iload_n 3, 1) := by decide +kernel
theorem dX8_times_159 : decode cX8_times 159 = .ok (.invokevirtual 57, 3) := by decide +kernel
theorem dX8_times_162 : decode cX8_times 162 = .ok (.aload_n 0, 1) := by decide +kernel
theorem dX8_times_163 : decode cX8_times 163 = .ok (.aload_n 0, 1) := by decide +kernel
theorem dX8_times_164 : decode cX8_times 164 = .ok (.bipush 11, 2) := by decide +kernel
theorem dX8_times_166 : decode cX8_times 166 = .ok (.invokevirtual 199, 3) := by decide +kernel
theorem dX8_times_169 : decode cX8_times 169 = .ok (.ifCond .eq 7, 3) := by decide +kernel
theorem dX8_times_172 : decode cX8_times 172 = .ok (.iconst 3, 1) := by decide +kernel
theorem dX8_times_173 : decode cX8_times 173 = .ok (.goto 4, 3) := by decide +kernel
theorem dX8_times_176 : decode cX8_times 176 = .ok (.iconst 0, 1) := by decide +kernel
theorem dX8_times_177 : decode cX8_times 177 = .ok (.putfield 45, 3) := by decide +kernel
theorem dX8_times_180 : decode cX8_times 180 = .ok (.aload_n 0, 1) := by decide +kernel
theorem dX8_times_181 : decode cX8_times 181 = .ok (.getfield 45, 3) := by decide +kernel
theorem dX8_times_184 : decode cX8_times 184 = .ok (.ifCond .eq 7, 3) := by decide +kernel
theorem dX8_times_187 : decode cX8_times 187 = .ok (.iconst 0, 1) := by decide +kernel
theorem dX8_times_188 : decode cX8_times 188 = .ok (.goto 9, 3) := by decide +kernel
theorem dX8_times_191 : decode cX8_times 191 = .ok (.aload_n 0, 1) := by decide +kernel
theorem dX8_times_192 : decode cX8_times 192 = .ok (.bipush 11, 2) := by decide +kernel
theorem dX8_times_194 : decode cX8_times 194 = .ok (.invokevirtual 205, 3) := by decide +kernel
theorem dX8_times_197 : decode cX8_times 197 = .ok (.ireturn, 1) := by decide +kernel
theorem dX8_over_0 : decode cX8_over 0 = .ok (.aload_n 0, 1) := by decide +kernel
theorem dX8_over_1 : decode cX8_over 1 = .ok (.iload_n 1, 1) := by decide +kernel
theorem dX8_over_2 : decode cX8_over 2 = .ok (.iload_n 2, 1) := by decide +kernel
theorem dX8_over_3 : decode cX8_over 3 = .ok (.invokevirtual 211, 3) := by decide +kernel
theorem dX8_over_6 : decode cX8_over 6 = .ok (.ifCond .eq 5, 3) := by decide +kernel
theorem dX8_over_9 : decode cX8_over 9 = .ok (.iconst 0, 1) := by decide +kernel
theorem dX8_over_10 : decode cX8_over 10 = .ok (.ireturn, 1) := by decide +kernel
theorem dX8_over_11 : decode cX8_over 11 = .ok (.aload_n 0, 1) := by decide +kernel
theorem dX8_over_12 : decode cX8_over 12 = .ok (.aload_n 0, 1) := by decide +kernel
theorem dX8_over_13 : decode cX8_over 13 = .ok (.getfield 26, 3) := by decide +kernel
theorem dX8_over_16 : decode cX8_over 16 = .ok (.iconst 1, 1) := by decide +kernel
theorem dX8_over_17 : decode cX8_over 17 = .ok (.iaload, 1) := by decide +kernel
theorem dX8_over_18 : decode cX8_over 18 = .ok (.ifCond .ge 7, 3) := by decide +kernel
theorem dX8_over_21 : decode cX8_over 21 = .ok (.iconst 3, 1) := by decide +kernel
theorem dX8_over_22 : decode cX8_over 22 = .ok (.goto 4, 3) := by decide +kernel
theorem dX8_over_25 : decode cX8_over 25 = .ok (.iconst 0, 1) := by decide +kernel
theorem dX8_over_26 : decode cX8_over 26 = .ok (.putfield 45, 3) := by decide +kernel
theorem dX8_over_29 : decode cX8_over 29 = .ok (.aload_n 0, 1) := by decide +kernel
theorem dX8_over_30 : decode cX8_over 30 = .ok (.getfield 45, 3) := by decide +kernel
theorem dX8_over_33 : decode cX8_over 33 = .ok (.ifCond .eq 5, 3) := by decide +kernel
theorem dX8_over_36 : decode cX8_over 36 = .ok (.iconst 0, 1) := by decide +kernel
theorem dX8_over_37 : decode cX8_over 37 = .ok (.ireturn, 1) := by decide +kernel
theorem dX8_over_38 : decode cX8_over 38 = .ok (.aload_n 0, 1) := by decide +kernel
theorem dX8_over_39 : decode cX8_over 39 = .ok (.iconst 1, 1) := by decide +kernel
theorem dX8_over_40 : decode cX8_over 40 = .ok (.iconst 0, 1) := by decide +kernel
theorem dX8_over_41 : decode cX8_over 41 = .ok (.ldc2_w 68, 3) := by decide +kernel
theorem dX8_over_44 : decode cX8_over 44 = .ok (.invokevirtual 125, 3) := by decide +kernel
theorem dX8_over_47 : decode cX8_over 47 = .ok (.ifCond .eq 11, 3) := by decide +kernel
theorem dX8_over_50 : decode cX8_over 50 = .ok (.aload_n 0, 1) := by decide +kernel
theorem dX8_over_51 : decode cX8_over 51 = .ok (.iconst 3, 1) := by decide +kernel
theorem dX8_over_52 : decode cX8_over 52 = .ok (.invokevirtual 205, 3) := by decide +kernel
theorem dX8_over_55 : decode cX8_over 55 = .ok (.goto 4, 3) := by decide +kernel
theorem dX8_over_58 : decode cX8_over 58 = .ok (.iconst (-1), 1) := by decide +kernel
theorem dX8_over_59 : decode cX8_over 59 = .ok (.ireturn, 1) := by decide +kernel
theorem dX8_gcd_0 : decode cX8_gcd 0 = .ok (.aload_n 0, 1) := by decide +kernel
theorem dX8_gcd_1 : decode cX8_gcd 1 = .ok (.iload_n 1, 1) := by decide +kernel
theorem dX8_gcd_2 : decode cX8_gcd 2 = .ok (.iload_n 2, 1) := by decide +kernel
theorem dX8_gcd_3 : decode cX8_gcd 3 = .ok (.invokevirtual 211, 3) := by decide +kernel
theorem dX8_gcd_6 : decode cX8_gcd 6 = .ok (.ifCond .eq 5, 3) := by decide +kernel
theorem dX8_gcd_9 : decode cX8_gcd 9 = .ok (.iconst 0, 1) := by decide +kernel
theorem dX8_gcd_10 : decode cX8_gcd 10 = .ok (.ireturn, 1) := by decide +kernel
theorem dX8_gcd_11 : decode cX8_gcd 11 = .ok (.aload_n 0, 1) := by decide +kernel
theorem dX8_gcd_12 : decode cX8_gcd 12 = .ok (.iconst 0, 1) := by decide +kernel
theorem dX8_gcd_13 : decode cX8_gcd 13 = .ok (.invokevirtual 106, 3) := by decide +kernel
theorem dX8_gcd_16 : decode cX8_gcd 16 = .ok (.pop2, 1) := by decide +kernel
theorem dX8_gcd_17 : decode cX8_gcd 17 = .ok (.aload_n 0, 1) := by decide +kernel
theorem dX8_gcd_18 : decode cX8_gcd 18 = .ok (.iconst 1, 1) := by decide +kernel
theorem dX8_gcd_19 : decode cX8_gcd 19 = .ok (.invokevirtual 106, 3) := by decide +kernel
theorem dX8_gcd_22 : decode cX8_gcd 22 = .ok (.pop2, 1) := by decide +kernel
theorem dX8_gcd_23 : decode cX8_gcd 23 = .ok (.aload_n 0, 1) := by decide +kernel
theorem dX8_gcd_24 : decode cX8_gcd 24 = .ok (.getfield 26, 3) := by decide +kernel
theorem dX8_gcd_27 : decode cX8_gcd 27 = .ok (.iconst 0, 1) := by decide +kernel
theorem dX8_gcd_28 : decode cX8_gcd 28 = .ok (.iaload, 1) := by decide +kernel
theorem dX8_gcd_29 : decode cX8_gcd 29 = .ok (.ifCond .ge 22, 3) := by decide +kernel
theorem dX8_gcd_32 : decode cX8_gcd 32 = .ok (.aload_n 0, 1) := by decide +kernel
theorem dX8_gcd_33 : decode cX8_gcd 33 = .ok (.getfield 26, 3) := by decide +kernel
theorem dX8_gcd_36 : decode cX8_gcd 36 = .ok (.iconst 1, 1) := by decide +kernel
theorem dX8_gcd_37 : decode cX8_gcd 37 = .ok (.iaload, 1) := by decide +kernel
theorem dX8_gcd_38 : decode cX8_gcd 38 = .ok (.ifCond .ge 13, 3) := by decide +kernel
theorem dX8_gcd_41 : decode cX8_gcd 41 = .ok (.aload_n 0, 1) := by decide +kernel
theorem dX8_gcd_42 : decode cX8_gcd 42 = .ok (.iconst 0, 1) := by decide +kernel
theorem dX8_gcd_43 : decode cX8_gcd 43 = .ok (.bipush 11, 2) := by decide +kernel
theorem dX8_gcd_45 : decode cX8_gcd 45 = .ok (.invokevirtual 72, 3) := by decide +kernel
theorem dX8_gcd_48 : decode cX8_gcd 48 = .ok (.goto 11, 3) := by decide +kernel
theorem dX8_gcd_51 : decode cX8_gcd 51 = .ok (.aload_n 0, 1) := by decide +kernel
theorem dX8_gcd_52 : decode cX8_gcd 52 = .ok (.iconst 0, 1) := by decide +kernel
theorem dX8_gcd_53 : decode cX8_gcd 53 = .ok (.iconst 1, 1) := by decide +kernel
theorem dX8_gcd_54 : decode cX8_gcd 54 = .ok (.bipush 11, 2) := by decide +kernel
theorem dX8_gcd_56 : decode cX8_gcd 56 = .ok (.invokevirtual 177, 3) := by decide +kernel
theorem dX8_gcd_59 : decode cX8_gcd 59 = .ok (.aload_n 0, 1) := by decide +kernel
theorem dX8_gcd_60 : decode cX8_gcd 60 = .ok (.bipush 11, 2) := by decide +kernel
theorem dX8_gcd_62 : decode cX8_gcd 62 = .ok (.invokevirtual 199, 3) := by decide +kernel
theorem dX8_gcd_65 : decode cX8_gcd 65 = .ok (.ifCond .eq 7, 3) := by decide +kernel
theorem dX8_gcd_68 : decode cX8_gcd 68 = .ok (.iconst (-1), 1) := by decide +kernel
theorem dX8_gcd_69 : decode cX8_gcd 69 = .ok (.goto 9, 3) := by decide +kernel
theorem dX8_gcd_72 : decode cX8_gcd 72 = .ok (.aload_n 0, 1) := by decide +kernel
theorem dX8_gcd_73 : decode cX8_gcd 73 = .ok (.bipush 11, 2) := by decide +kernel
theorem dX8_gcd_75 : decode cX8_gcd 75 = .ok (.invokevirtual 205, 3) := by decide +kernel
theorem dX8_gcd_78 : decode cX8_gcd 78 = .ok (.ireturn, 1) := by decide +kernel
theorem dX8_content_0 : decode cX8_content 0 = .ok (.aload_n 0, 1) := by decide +kernel
theorem dX8_content_1 : decode cX8_content 1 = .ok (.iload_n 1, 1) := by decide +kernel
theorem dX8_content_2 : decode cX8_content 2 = .ok (.invokestatic 180, 3) := by decide +kernel
theorem dX8_content_5 : decode cX8_content 5 = .ok (.ifCond .eq 7, 3) := by decide +kernel
theorem dX8_content_8 : decode cX8_content 8 = .ok (.iconst 0, 1) := by decide +kernel
theorem dX8_content_9 : decode cX8_content 9 = .ok (.goto 4, 3) := by decide +kernel
theorem dX8_content_12 : decode cX8_content 12 = .ok (.iconst 1, 1) := by decide +kernel
theorem dX8_content_13 : decode cX8_content 13 = .ok (.putfield 45, 3) := by decide +kernel
theorem dX8_content_16 : decode cX8_content 16 = .ok (.aload_n 0, 1) := by decide +kernel
theorem dX8_content_17 : decode cX8_content 17 = .ok (.getfield 45, 3) := by decide +kernel
theorem dX8_content_20 : decode cX8_content 20 = .ok (.ifCond .eq 5, 3) := by decide +kernel
theorem dX8_content_23 : decode cX8_content 23 = .ok (.iconst 0, 1) := by decide +kernel
theorem dX8_content_24 : decode cX8_content 24 = .ok (.ireturn, 1) := by decide +kernel
theorem dX8_content_25 : decode cX8_content 25 = .ok (.aload_n 0, 1) := by decide +kernel
theorem dX8_content_26 : decode cX8_content 26 = .ok (.iload_n 1, 1) := by decide +kernel
theorem dX8_content_27 : decode cX8_content 27 = .ok (.iconst 0, 1) := by decide +kernel
theorem dX8_content_28 : decode cX8_content 28 = .ok (.invokevirtual 184, 3) := by decide +kernel
theorem dX8_content_31 : decode cX8_content 31 = .ok (.aload_n 0, 1) := by decide +kernel
theorem dX8_content_32 : decode cX8_content 32 = .ok (.iconst 0, 1) := by decide +kernel
theorem dX8_content_33 : decode cX8_content 33 = .ok (.invokevirtual 106, 3) := by decide +kernel
theorem dX8_content_36 : decode cX8_content 36 = .ok (.l2i, 1) := by decide +kernel
theorem dX8_content_37 : decode cX8_content 37 = .ok (.ireturn, 1) := by decide +kernel
theorem dX8_addRoot_0 : decode cX8_addRoot 0 = .ok (.aload_n 0, 1) := by decide +kernel
theorem dX8_addRoot_1 : decode cX8_addRoot 1 = .ok (.getfield 22, 3) := by decide +kernel
theorem dX8_addRoot_4 : decode cX8_addRoot 4 = .ok (.bipush 24, 2) := by decide +kernel
theorem dX8_addRoot_6 : decode cX8_addRoot 6 = .ok (.iload_n 1, 1) := by decide +kernel
theorem dX8_addRoot_7 : decode cX8_addRoot 7 = .ok (.ineg, 1) := by decide +kernel
theorem dX8_addRoot_8 : decode cX8_addRoot 8 = .ok (.i2l, 1) := by decide +kernel
theorem dX8_addRoot_9 : decode cX8_addRoot 9 = .ok (.lastore, 1) := by decide +kernel
theorem dX8_addRoot_10 : decode cX8_addRoot 10 = .ok (.aload_n 0, 1) := by decide +kernel
theorem dX8_addRoot_11 : decode cX8_addRoot 11 = .ok (.getfield 22, 3) := by decide +kernel
theorem dX8_addRoot_14 : decode cX8_addRoot 14 = .ok (.bipush 25, 2) := by decide +kernel
theorem dX8_addRoot_16 : decode cX8_addRoot 16 = .ok (.iload_n 2, 1) := by decide +kernel
theorem dX8_addRoot_17 : decode cX8_addRoot 17 = .ok (.i2l, 1) := by decide +kernel
theorem dX8_addRoot_18 : decode cX8_addRoot 18 = .ok (.lastore, 1) := by decide +kernel
theorem dX8_addRoot_19 : decode cX8_addRoot 19 = .ok (.aload_n 0, 1) := by decide +kernel
theorem dX8_addRoot_20 : decode cX8_addRoot 20 = .ok (.getfield 26, 3) := by decide +kernel
theorem dX8_addRoot_23 : decode cX8_addRoot 23 = .ok (.iconst 1, 1) := by decide +kernel
theorem dX8_addRoot_24 : decode cX8_addRoot 24 = .ok (.iconst 1, 1) := by decide +kernel
theorem dX8_addRoot_25 : decode cX8_addRoot 25 = .ok (.iastore, 1) := by decide +kernel
theorem dX8_addRoot_26 : decode cX8_addRoot 26 = .ok (.aload_n 0, 1) := by decide +kernel
theorem dX8_addRoot_27 : decode cX8_addRoot 27 = .ok (.iconst 1, 1) := by decide +kernel
theorem dX8_addRoot_28 : decode cX8_addRoot 28 = .ok (.iconst 0, 1) := by decide +kernel
theorem dX8_addRoot_29 : decode cX8_addRoot 29 = .ok (.ldc2_w 70, 3) := by decide +kernel
theorem dX8_addRoot_32 : decode cX8_addRoot 32 = .ok (.invokevirtual 125, 3) := by decide +kernel
theorem dX8_addRoot_35 : decode cX8_addRoot 35 = .ok (.ifCond .ne 4, 3) := by decide +kernel
theorem dX8_addRoot_38 : decode cX8_addRoot 38 = .ok (.return_, 1) := by decide +kernel
theorem dX8_addRoot_39 : decode cX8_addRoot 39 = .ok (.aload_n 0, 1) := by decide +kernel
theorem dX8_addRoot_40 : decode cX8_addRoot 40 = .ok (.getfield 214, 3) := by decide +kernel
theorem dX8_addRoot_43 : decode cX8_addRoot 43 = .ok (.istore_n 3, 1) := by decide +kernel
theorem dX8_addRoot_44 : decode cX8_addRoot 44 = .ok (.iload_n 3, 1) := by decide +kernel
theorem dX8_addRoot_45 : decode cX8_addRoot 45 = .ok (.ifCond .le 65, 3) := by decide +kernel
theorem dX8_addRoot_48 : decode cX8_addRoot 48 = .ok (.aload_n 0, 1) := by decide +kernel
theorem dX8_addRoot_49 : decode cX8_addRoot 49 = .ok (.getfield 39, 3) := by decide +kernel
theorem dX8_addRoot_52 : decode cX8_addRoot 52 = .ok (.iload_n 3, 1) := by decide +kernel
theorem dX8_addRoot_53 : decode cX8_addRoot 53 = .ok (.iconst 1, 1) := by decide +kernel
theorem dX8_addRoot_54 : decode cX8_addRoot 54 = .ok (.isub, 1) := by decide +kernel
theorem dX8_addRoot_55 : decode cX8_addRoot 55 = .ok (.iaload, 1) := by decide +kernel
theorem dX8_addRoot_56 : decode cX8_addRoot 56 = .ok (.i2l, 1) := by decide +kernel
theorem dX8_addRoot_57 : decode cX8_addRoot 57 = .ok (.iload_n 2, 1) := by decide +kernel
theorem dX8_addRoot_58 : decode cX8_addRoot 58 = .ok (.i2l, 1) := by decide +kernel
theorem dX8_addRoot_59 : decode cX8_addRoot 59 = .ok (.lmul, 1) := by decide +kernel
theorem dX8_addRoot_60 : decode cX8_addRoot 60 = .ok (.iload_n 1, 1) := by decide +kernel
theorem dX8_addRoot_61 : decode cX8_addRoot 61 = .ok (.i2l, 1) := by decide +kernel
theorem dX8_addRoot_62 : decode cX8_addRoot 62 = .ok (.aload_n 0, 1) := by decide +kernel
theorem dX8_addRoot_63 : decode cX8_addRoot 63 = .ok (.getfield 42, 3) := by decide +kernel
theorem dX8_addRoot_66 : decode cX8_addRoot 66 = .ok (.iload_n 3, 1) := by decide +kernel
theorem dX8_addRoot_67 : decode cX8_addRoot 67 = .ok (.iconst 1, 1) := by decide +kernel
theorem dX8_addRoot_68 : decode cX8_addRoot 68 = .ok (.isub, 1) := by decide +kernel
theorem dX8_addRoot_69 : decode cX8_addRoot 69 = .ok (.iaload, 1) := by decide +kernel
theorem dX8_addRoot_70 : decode cX8_addRoot 70 = .ok (.i2l, 1) := by decide +kernel
theorem dX8_addRoot_71 : decode cX8_addRoot 71 = .ok (.lmul, 1) := by decide +kernel
theorem dX8_addRoot_72 : decode cX8_addRoot 72 = .ok (.lcmp, 1) := by decide +kernel
theorem dX8_addRoot_73 : decode cX8_addRoot 73 = .ok (.ifCond .le 37, 3) := by decide +kernel
theorem dX8_addRoot_76 : decode cX8_addRoot 76 = .ok (.aload_n 0, 1) := by decide +kernel
theorem dX8_addRoot_77 : decode cX8_addRoot 77 = .ok (.getfield 39, 3) := by decide +kernel
theorem dX8_addRoot_80 : decode cX8_addRoot 80 = .ok (.iload_n 3, 1) := by decide +kernel
theorem dX8_addRoot_81 : decode cX8_addRoot 81 = .ok (.aload_n 0, 1) := by decide +kernel
theorem dX8_addRoot_82 : decode cX8_addRoot 82 = .ok (.getfield 39, 3) := by decide +kernel
theorem dX8_addRoot_85 : decode cX8_addRoot 85 = .ok (.iload_n 3, 1) := by decide +kernel
theorem dX8_addRoot_86 : decode cX8_addRoot 86 = .ok (.iconst 1, 1) := by decide +kernel
theorem dX8_addRoot_87 : decode cX8_addRoot 87 = .ok (.isub, 1) := by decide +kernel
theorem dX8_addRoot_88 : decode cX8_addRoot 88 = .ok (.iaload, 1) := by decide +kernel
theorem dX8_addRoot_89 : decode cX8_addRoot 89 = .ok (.iastore, 1) := by decide +kernel
theorem dX8_addRoot_90 : decode cX8_addRoot 90 = .ok (.aload_n 0, 1) := by decide +kernel
theorem dX8_addRoot_91 : decode cX8_addRoot 91 = .ok (.getfield 42, 3) := by decide +kernel
theorem dX8_addRoot_94 : decode cX8_addRoot 94 = .ok (.iload_n 3, 1) := by decide +kernel
theorem dX8_addRoot_95 : decode cX8_addRoot 95 = .ok (.aload_n 0, 1) := by decide +kernel
theorem dX8_addRoot_96 : decode cX8_addRoot 96 = .ok (.getfield 42, 3) := by decide +kernel
theorem dX8_addRoot_99 : decode cX8_addRoot 99 = .ok (.iload_n 3, 1) := by decide +kernel
theorem dX8_addRoot_100 : decode cX8_addRoot 100 = .ok (.iconst 1, 1) := by decide +kernel
theorem dX8_addRoot_101 : decode cX8_addRoot 101 = .ok (.isub, 1) := by decide +kernel
theorem dX8_addRoot_102 : decode cX8_addRoot 102 = .ok (.iaload, 1) := by decide +kernel
theorem dX8_addRoot_103 : decode cX8_addRoot 103 = .ok (.iastore, 1) := by decide +kernel
theorem dX8_addRoot_104 : decode cX8_addRoot 104 = .ok (.iinc 3 (-1), 3) := by decide +kernel
theorem dX8_addRoot_107 : decode cX8_addRoot 107 = .ok (.goto (-63), 3) := by decide +kernel
theorem dX8_addRoot_110 : decode cX8_addRoot 110 = .ok (.aload_n 0, 1) := by decide +kernel
theorem dX8_addRoot_111 : decode cX8_addRoot 111 = .ok (.getfield 39, 3) := by decide +kernel
theorem dX8_addRoot_114 : decode cX8_addRoot 114 = .ok (.iload_n 3, 1) := by decide +kernel
theorem dX8_addRoot_115 : decode cX8_addRoot 115 = .ok (.iload_n 1, 1) := by decide +kernel
theorem dX8_addRoot_116 : decode cX8_addRoot 116 = .ok (.iastore, 1) := by decide +kernel
theorem dX8_addRoot_117 : decode cX8_addRoot 117 = .ok (.aload_n 0, 1) := by decide +kernel
theorem dX8_addRoot_118 : decode cX8_addRoot 118 = .ok (.getfield 42, 3) := by decide +kernel
theorem dX8_addRoot_121 : decode cX8_addRoot 121 = .ok (.iload_n 3, 1) := by decide +kernel
theorem dX8_addRoot_122 : decode cX8_addRoot 122 = .ok (.iload_n 2, 1) := by decide +kernel
theorem dX8_addRoot_123 : decode cX8_addRoot 123 = .ok (.iastore, 1) := by decide +kernel
theorem dX8_addRoot_124 : decode cX8_addRoot 124 = .ok (.aload_n 0, 1) := by decide +kernel
theorem dX8_addRoot_125 : decode cX8_addRoot 125 = .ok (.dup, 1) := by decide +kernel
theorem dX8_addRoot_126 : decode cX8_addRoot 126 = .ok (.getfield 214, 3) := by decide +kernel
theorem dX8_addRoot_129 : decode cX8_addRoot 129 = .ok (.iconst 1, 1) := by decide +kernel
theorem dX8_addRoot_130 : decode cX8_addRoot 130 = .ok (.iadd, 1) := by decide +kernel
theorem dX8_addRoot_131 : decode cX8_addRoot 131 = .ok (.putfield 214, 3) := by decide +kernel
theorem dX8_addRoot_134 : decode cX8_addRoot 134 = .ok (.return_, 1) := by decide +kernel
theorem dX8_findRoots_0 : decode cX8_findRoots 0 = .ok (.aload_n 0, 1) := by decide +kernel
theorem dX8_findRoots_1 : decode cX8_findRoots 1 = .ok (.iconst 0, 1) := by decide +kernel
theorem dX8_findRoots_2 : decode cX8_findRoots 2 = .ok (.putfield 214, 3) := by decide +kernel
theorem dX8_findRoots_5 : decode cX8_findRoots 5 = .ok (.aload_n 0, 1) := by decide +kernel
theorem dX8_findRoots_6 : decode cX8_findRoots 6 = .ok (.iconst 0, 1) := by decide +kernel
theorem dX8_findRoots_7 : decode cX8_findRoots 7 = .ok (.invokevirtual 106, 3) := by decide +kernel
theorem dX8_findRoots_10 : decode cX8_findRoots 10 = .ok (.pop2, 1) := by decide +kernel
theorem dX8_findRoots_11 : decode cX8_findRoots 11 = .ok (.aload_n 0, 1) := by decide +kernel
theorem dX8_findRoots_12 : decode cX8_findRoots 12 = .ok (.getfield 26, 3) := by decide +kernel
theorem dX8_findRoots_15 : decode cX8_findRoots 15 = .ok (.iconst 0, 1) := by decide +kernel
theorem dX8_findRoots_16 : decode cX8_findRoots 16 = .ok (.iaload, 1) := by decide +kernel
theorem dX8_findRoots_17 : decode cX8_findRoots 17 = .ok (.iconst 1, 1) := by decide +kernel
theorem dX8_findRoots_18 : decode cX8_findRoots 18 = .ok (.if_icmp .ge 4, 3) := by decide +kernel
theorem dX8_findRoots_21 : decode cX8_findRoots 21 = .ok (.return_, 1) := by decide +kernel
theorem dX8_findRoots_22 : decode cX8_findRoots 22 = .ok (.iconst 0, 1) := by decide +kernel
theorem dX8_findRoots_23 : decode cX8_findRoots 23 = .ok (.istore_n 1, 1) := by decide +kernel
theorem dX8_findRoots_24 : decode cX8_findRoots 24 = .ok (.aload_n 0, 1) := by decide +kernel
theorem dX8_findRoots_25 : decode cX8_findRoots 25 = .ok (.getfield 22, 3) := by decide +kernel
theorem dX8_findRoots_28 : decode cX8_findRoots 28 = .ok (.iconst 0, 1) := by decide +kernel
theorem dX8_findRoots_29 : decode cX8_findRoots 29 = .ok (.iload_n 1, 1) := by decide +kernel
theorem dX8_findRoots_30 : decode cX8_findRoots 30 = .ok (.iadd, 1) := by decide +kernel
theorem dX8_findRoots_31 : decode cX8_findRoots 31 = .ok (.laload, 1) := by decide +kernel
theorem dX8_findRoots_32 : decode cX8_findRoots 32 = .ok (.lconst 0, 1) := by decide +kernel
theorem dX8_findRoots_33 : decode cX8_findRoots 33 = .ok (.lcmp, 1) := by decide +kernel
theorem dX8_findRoots_34 : decode cX8_findRoots 34 = .ok (.ifCond .ne 9, 3) := by decide +kernel
theorem dX8_findRoots_37 : decode cX8_findRoots 37 = .ok (.iinc 1 1, 3) := by decide +kernel
theorem dX8_findRoots_40 : decode cX8_findRoots 40 = .ok (.goto (-16), 3) := by decide +kernel
theorem dX8_findRoots_43 : decode cX8_findRoots 43 = .ok (.iload_n 1, 1) := by decide +kernel
theorem dX8_findRoots_44 : decode cX8_findRoots 44 = .ok (.ifCond .le 9, 3) := by decide +kernel
theorem dX8_findRoots_47 : decode cX8_findRoots 47 = .ok (.aload_n 0, 1) := by decide +kernel
theorem dX8_findRoots_48 : decode cX8_findRoots 48 = .ok (.iconst 0, 1) := by decide +kernel
theorem dX8_findRoots_49 : decode cX8_findRoots 49 = .ok (.iconst 1, 1) := by decide +kernel
theorem dX8_findRoots_50 : decode cX8_findRoots 50 = .ok (.invokevirtual 217, 3) := by decide +kernel
theorem dX8_findRoots_53 : decode cX8_findRoots 53 = .ok (.aload_n 0, 1) := by decide +kernel
theorem dX8_findRoots_54 : decode cX8_findRoots 54 = .ok (.getfield 22, 3) := by decide +kernel
theorem dX8_findRoots_57 : decode cX8_findRoots 57 = .ok (.iconst 0, 1) := by decide +kernel
theorem dX8_findRoots_58 : decode cX8_findRoots 58 = .ok (.iload_n 1, 1) := by decide +kernel
theorem dX8_findRoots_59 : decode cX8_findRoots 59 = .ok (.iadd, 1) := by decide +kernel
theorem dX8_findRoots_60 : decode cX8_findRoots 60 = .ok (.laload, 1) := by decide +kernel
theorem dX8_findRoots_61 : decode cX8_findRoots 61 = .ok (.invokestatic 49, 3) := by decide +kernel
theorem dX8_findRoots_64 : decode cX8_findRoots 64 = .ok (.l2i, 1) := by decide +kernel
theorem dX8_findRoots_65 : decode cX8_findRoots 65 = .ok (.istore_n 2, 1) := by decide +kernel
theorem dX8_findRoots_66 : decode cX8_findRoots 66 = .ok (.aload_n 0, 1) := by decide +kernel
theorem dX8_findRoots_67 : decode cX8_findRoots 67 = .ok (.getfield 22, 3) := by decide +kernel
theorem dX8_findRoots_70 : decode cX8_findRoots 70 = .ok (.iconst 0, 1) := by decide +kernel
theorem dX8_findRoots_71 : decode cX8_findRoots 71 = .ok (.aload_n 0, 1) := by decide +kernel
theorem dX8_findRoots_72 : decode cX8_findRoots 72 = .ok (.getfield 26, 3) := by decide +kernel
theorem dX8_findRoots_75 : decode cX8_findRoots 75 = .ok (.iconst 0, 1) := by decide +kernel
theorem dX8_findRoots_76 : decode cX8_findRoots 76 = .ok (.iaload, 1) := by decide +kernel
theorem dX8_findRoots_77 : decode cX8_findRoots 77 = .ok (.iadd, 1) := by decide +kernel
theorem dX8_findRoots_78 : decode cX8_findRoots 78 = .ok (.laload, 1) := by decide +kernel
theorem dX8_findRoots_79 : decode cX8_findRoots 79 = .ok (.l2i, 1) := by decide +kernel
theorem dX8_findRoots_80 : decode cX8_findRoots 80 = .ok (.istore_n 3, 1) := by decide +kernel
theorem dX8_findRoots_81 : decode cX8_findRoots 81 = .ok (.iconst 1, 1) := by decide +kernel
theorem dX8_findRoots_82 : decode cX8_findRoots 82 = .ok (.istore 4, 2) := by decide +kernel
theorem dX8_findRoots_84 : decode cX8_findRoots 84 = .ok (.iload 4, 2) := by decide +kernel
theorem dX8_findRoots_86 : decode cX8_findRoots 86 = .ok (.iload_n 3, 1) := by decide +kernel
theorem dX8_findRoots_87 : decode cX8_findRoots 87 = .ok (.if_icmp .gt 69, 3) := by decide +kernel
theorem dX8_findRoots_90 : decode cX8_findRoots 90 = .ok (.iconst 1, 1) := by decide +kernel
theorem dX8_findRoots_91 : decode cX8_findRoots 91 = .ok (.istore 5, 2) := by decide +kernel
theorem dX8_findRoots_93 : decode cX8_findRoots 93 = .ok (.iload 5, 2) := by decide +kernel
theorem dX8_findRoots_95 : decode cX8_findRoots 95 = .ok (.iload_n 2, 1) := by decide +kernel
theorem dX8_findRoots_96 : decode cX8_findRoots 96 = .ok (.if_icmp .gt 54, 3) := by decide +kernel
theorem dX8_findRoots_99 : decode cX8_findRoots 99 = .ok (.iload_n 3, 1) := by decide +kernel
theorem dX8_findRoots_100 : decode cX8_findRoots 100 = .ok (.iload 4, 2) := by decide +kernel
theorem dX8_findRoots_102 : decode cX8_findRoots 102 = .ok (.irem, 1) := by decide +kernel
theorem dX8_findRoots_103 : decode cX8_findRoots 103 = .ok (.ifCond .ne 47, 3) := by decide +kernel
theorem dX8_findRoots_106 : decode cX8_findRoots 106 = .ok (.iload_n 2, 1) := by decide +kernel
theorem dX8_findRoots_107 : decode cX8_findRoots 107 = .ok (.iload 5, 2) := by decide +kernel
theorem dX8_findRoots_109 : decode cX8_findRoots 109 = .ok (.irem, 1) := by decide +kernel
theorem dX8_findRoots_110 : decode cX8_findRoots 110 = .ok (.ifCond .ne 34, 3) := by decide +kernel
theorem dX8_findRoots_113 : decode cX8_findRoots 113 = .ok (.iload 5, 2) := by decide +kernel
theorem dX8_findRoots_115 : decode cX8_findRoots 115 = .ok (.i2l, 1) := by decide +kernel
theorem dX8_findRoots_116 : decode cX8_findRoots 116 = .ok (.iload 4, 2) := by decide +kernel
theorem dX8_findRoots_118 : decode cX8_findRoots 118 = .ok (.i2l, 1) := by decide +kernel
theorem dX8_findRoots_119 : decode cX8_findRoots 119 = .ok (.invokestatic 53, 3) := by decide +kernel
theorem dX8_findRoots_122 : decode cX8_findRoots 122 = .ok (.lconst 1, 1) := by decide +kernel
theorem dX8_findRoots_123 : decode cX8_findRoots 123 = .ok (.lcmp, 1) := by decide +kernel
theorem dX8_findRoots_124 : decode cX8_findRoots 124 = .ok (.ifCond .ne 20, 3) := by decide +kernel
theorem dX8_findRoots_127 : decode cX8_findRoots 127 = .ok (.aload_n 0, 1) := by decide +kernel
theorem dX8_findRoots_128 : decode cX8_findRoots 128 = .ok (.iload 5, 2) := by decide +kernel
theorem dX8_findRoots_130 : decode cX8_findRoots 130 = .ok (.iload 4, 2) := by decide +kernel
theorem dX8_findRoots_132 : decode cX8_findRoots 132 = .ok (.invokevirtual 217, 3) := by decide +kernel
theorem dX8_findRoots_135 : decode cX8_findRoots 135 = .ok (.aload_n 0, 1) := by decide +kernel
theorem dX8_findRoots_136 : decode cX8_findRoots 136 = .ok (.iload 5, 2) := by decide +kernel
theorem dX8_findRoots_138 : decode cX8_findRoots 138 = .ok (.ineg, 1) := by decide +kernel
theorem dX8_findRoots_139 : decode cX8_findRoots 139 = .ok (.iload 4, 2) := by decide +kernel
theorem dX8_findRoots_141 : decode cX8_findRoots 141 = .ok (.invokevirtual 217, 3) := by decide +kernel
theorem dX8_findRoots_144 : decode cX8_findRoots 144 = .ok (.iinc 5 1, 3) := by decide +kernel
theorem dX8_findRoots_147 : decode cX8_findRoots 147 = .ok (.goto (-54), 3) := by decide +kernel
theorem dX8_findRoots_150 : decode cX8_findRoots 150 = .ok (.iinc 4 1, 3) := by decide +kernel
theorem dX8_findRoots_153 : decode cX8_findRoots 153 = .ok (.goto (-69), 3) := by decide +kernel
theorem dX8_findRoots_156 : decode cX8_findRoots 156 = .ok (.return_, 1) := by decide +kernel
theorem dX8_root_0 : decode cX8_root 0 = .ok (.aload_n 0, 1) := by decide +kernel
theorem dX8_root_1 : decode cX8_root 1 = .ok (.iload_n 1, 1) := by decide +kernel
theorem dX8_root_2 : decode cX8_root 2 = .ok (.invokestatic 180, 3) := by decide +kernel
theorem dX8_root_5 : decode cX8_root 5 = .ok (.ifCond .eq 7, 3) := by decide +kernel
theorem dX8_root_8 : decode cX8_root 8 = .ok (.iconst 0, 1) := by decide +kernel
theorem dX8_root_9 : decode cX8_root 9 = .ok (.goto 4, 3) := by decide +kernel
theorem dX8_root_12 : decode cX8_root 12 = .ok (.iconst 1, 1) := by decide +kernel
theorem dX8_root_13 : decode cX8_root 13 = .ok (.putfield 45, 3) := by decide +kernel
theorem dX8_root_16 : decode cX8_root 16 = .ok (.aload_n 0, 1) := by decide +kernel
theorem dX8_root_17 : decode cX8_root 17 = .ok (.getfield 45, 3) := by decide +kernel
theorem dX8_root_20 : decode cX8_root 20 = .ok (.ifCond .eq 5, 3) := by decide +kernel
theorem dX8_root_23 : decode cX8_root 23 = .ok (.iconst 0, 1) := by decide +kernel
theorem dX8_root_24 : decode cX8_root 24 = .ok (.ireturn, 1) := by decide +kernel
theorem dX8_root_25 : decode cX8_root 25 = .ok (.aload_n 0, 1) := by decide +kernel
theorem dX8_root_26 : decode cX8_root 26 = .ok (.iload_n 1, 1) := by decide +kernel
theorem dX8_root_27 : decode cX8_root 27 = .ok (.iconst 0, 1) := by decide +kernel
theorem dX8_root_28 : decode cX8_root 28 = .ok (.invokevirtual 184, 3) := by decide +kernel
theorem dX8_root_31 : decode cX8_root 31 = .ok (.aload_n 0, 1) := by decide +kernel
theorem dX8_root_32 : decode cX8_root 32 = .ok (.iconst 0, 1) := by decide +kernel
theorem dX8_root_33 : decode cX8_root 33 = .ok (.putfield 214, 3) := by decide +kernel
theorem dX8_root_36 : decode cX8_root 36 = .ok (.aload_n 0, 1) := by decide +kernel
theorem dX8_root_37 : decode cX8_root 37 = .ok (.getfield 26, 3) := by decide +kernel
theorem dX8_root_40 : decode cX8_root 40 = .ok (.iconst 0, 1) := by decide +kernel
theorem dX8_root_41 : decode cX8_root 41 = .ok (.iaload, 1) := by decide +kernel
theorem dX8_root_42 : decode cX8_root 42 = .ok (.ifCond .lt 7, 3) := by decide +kernel
theorem dX8_root_45 : decode cX8_root 45 = .ok (.aload_n 0, 1) := by decide +kernel
theorem dX8_root_46 : decode cX8_root 46 = .ok (.invokevirtual 220, 3) := by decide +kernel
theorem dX8_root_49 : decode cX8_root 49 = .ok (.aload_n 0, 1) := by decide +kernel
theorem dX8_root_50 : decode cX8_root 50 = .ok (.iload_n 2, 1) := by decide +kernel
theorem dX8_root_51 : decode cX8_root 51 = .ok (.ifCond .lt 20, 3) := by decide +kernel
theorem dX8_root_54 : decode cX8_root 54 = .ok (.iload_n 2, 1) := by decide +kernel
theorem dX8_root_55 : decode cX8_root 55 = .ok (.aload_n 0, 1) := by decide +kernel
theorem dX8_root_56 : decode cX8_root 56 = .ok (.getfield 214, 3) := by decide +kernel
theorem dX8_root_59 : decode cX8_root 59 = .ok (.if_icmp .ge 12, 3) := by decide +kernel
theorem dX8_root_62 : decode cX8_root 62 = .ok (.iload_n 3, 1) := by decide +kernel
theorem dX8_root_63 : decode cX8_root 63 = .ok (.ifCond .lt 8, 3) := by decide +kernel
theorem dX8_root_66 : decode cX8_root 66 = .ok (.iload_n 3, 1) := by decide +kernel
theorem dX8_root_67 : decode cX8_root 67 = .ok (.iconst 1, 1) := by decide +kernel
theorem dX8_root_68 : decode cX8_root 68 = .ok (.if_icmp .le 7, 3) := by decide +kernel
theorem dX8_root_71 : decode cX8_root 71 = .ok (.iconst 2, 1) := by decide +kernel
theorem dX8_root_72 : decode cX8_root 72 = .ok (.goto 4, 3) := by decide +kernel
theorem dX8_root_75 : decode cX8_root 75 = .ok (.iconst 0, 1) := by decide +kernel
theorem dX8_root_76 : decode cX8_root 76 = .ok (.putfield 45, 3) := by decide +kernel
theorem dX8_root_79 : decode cX8_root 79 = .ok (.aload_n 0, 1) := by decide +kernel
theorem dX8_root_80 : decode cX8_root 80 = .ok (.getfield 45, 3) := by decide +kernel
theorem dX8_root_83 : decode cX8_root 83 = .ok (.ifCond .eq 5, 3) := by decide +kernel
theorem dX8_root_86 : decode cX8_root 86 = .ok (.iconst 0, 1) := by decide +kernel
theorem dX8_root_87 : decode cX8_root 87 = .ok (.ireturn, 1) := by decide +kernel
theorem dX8_root_88 : decode cX8_root 88 = .ok (.iload_n 3, 1) := by decide +kernel
theorem dX8_root_89 : decode cX8_root 89 = .ok (.ifCond .ne 12, 3) := by decide +kernel
theorem dX8_root_92 : decode cX8_root 92 = .ok (.aload_n 0, 1) := by decide +kernel
theorem dX8_root_93 : decode cX8_root 93 = .ok (.getfield 39, 3) := by decide +kernel
theorem dX8_root_96 : decode cX8_root 96 = .ok (.iload_n 2, 1) := by decide +kernel
theorem dX8_root_97 : decode cX8_root 97 = .ok (.iaload, 1) := by decide +kernel
theorem dX8_root_98 : decode cX8_root 98 = .ok (.goto 9, 3) := by decide +kernel
theorem dX8_root_101 : decode cX8_root 101 = .ok (.aload_n 0, 1) := by decide +kernel
theorem dX8_root_102 : decode cX8_root 102 = .ok (.getfield 42, 3) := by decide +kernel
theorem dX8_root_105 : decode cX8_root 105 = .ok (.iload_n 2, 1) := by decide +kernel
theorem dX8_root_106 : decode cX8_root 106 = .ok (.iaload, 1) := by decide +kernel
theorem dX8_root_107 : decode cX8_root 107 = .ok (.ireturn, 1) := by decide +kernel
theorem dX8_roots_0 : decode cX8_roots 0 = .ok (.aload_n 0, 1) := by decide +kernel
theorem dX8_roots_1 : decode cX8_roots 1 = .ok (.iload_n 1, 1) := by decide +kernel
theorem dX8_roots_2 : decode cX8_roots 2 = .ok (.invokestatic 180, 3) := by decide +kernel
theorem dX8_roots_5 : decode cX8_roots 5 = .ok (.ifCond .eq 7, 3) := by decide +kernel
theorem dX8_roots_8 : decode cX8_roots 8 = .ok (.iconst 0, 1) := by decide +kernel
theorem dX8_roots_9 : decode cX8_roots 9 = .ok (.goto 4, 3) := by decide +kernel
theorem dX8_roots_12 : decode cX8_roots 12 = .ok (.iconst 1, 1) := by decide +kernel
theorem dX8_roots_13 : decode cX8_roots 13 = .ok (.putfield 45, 3) := by decide +kernel
theorem dX8_roots_16 : decode cX8_roots 16 = .ok (.aload_n 0, 1) := by decide +kernel
theorem dX8_roots_17 : decode cX8_roots 17 = .ok (.getfield 45, 3) := by decide +kernel
theorem dX8_roots_20 : decode cX8_roots 20 = .ok (.ifCond .eq 5, 3) := by decide +kernel
theorem dX8_roots_23 : decode cX8_roots 23 = .ok (.iconst 0, 1) := by decide +kernel
theorem dX8_roots_24 : decode cX8_roots 24 = .ok (.ireturn, 1) := by decide +kernel
theorem dX8_roots_25 : decode cX8_roots 25 = .ok (.aload_n 0, 1) := by decide +kernel
theorem dX8_roots_26 : decode cX8_roots 26 = .ok (.iload_n 1, 1) := by decide +kernel
theorem dX8_roots_27 : decode cX8_roots 27 = .ok (.iconst 0, 1) := by decide +kernel
theorem dX8_roots_28 : decode cX8_roots 28 = .ok (.invokevirtual 184, 3) := by decide +kernel
theorem dX8_roots_31 : decode cX8_roots 31 = .ok (.aload_n 0, 1) := by decide +kernel
theorem dX8_roots_32 : decode cX8_roots 32 = .ok (.getfield 26, 3) := by decide +kernel
theorem dX8_roots_35 : decode cX8_roots 35 = .ok (.iconst 0, 1) := by decide +kernel
theorem dX8_roots_36 : decode cX8_roots 36 = .ok (.iaload, 1) := by decide +kernel
theorem dX8_roots_37 : decode cX8_roots 37 = .ok (.ifCond .ge 5, 3) := by decide +kernel
theorem dX8_roots_40 : decode cX8_roots 40 = .ok (.iconst (-1), 1) := by decide +kernel
theorem dX8_roots_41 : decode cX8_roots 41 = .ok (.ireturn, 1) := by decide +kernel
theorem dX8_roots_42 : decode cX8_roots 42 = .ok (.aload_n 0, 1) := by decide +kernel
theorem dX8_roots_43 : decode cX8_roots 43 = .ok (.invokevirtual 220, 3) := by decide +kernel
theorem dX8_roots_46 : decode cX8_roots 46 = .ok (.aload_n 0, 1) := by decide +kernel
theorem dX8_roots_47 : decode cX8_roots 47 = .ok (.getfield 214, 3) := by decide +kernel
theorem dX8_roots_50 : decode cX8_roots 50 = .ok (.ireturn, 1) := by decide +kernel
theorem dX8_isPrime_0 : decode cX8_isPrime 0 = .ok (.iload_n 0, 1) := by decide +kernel
theorem dX8_isPrime_1 : decode cX8_isPrime 1 = .ok (.iconst 2, 1) := by decide +kernel
theorem dX8_isPrime_2 : decode cX8_isPrime 2 = .ok (.if_icmp .lt 9, 3) := by decide +kernel
theorem dX8_isPrime_5 : decode cX8_isPrime 5 = .ok (.iload_n 0, 1) := by decide +kernel
theorem dX8_isPrime_6 : decode cX8_isPrime 6 = .ok (.bipush 97, 2) := by decide +kernel
theorem dX8_isPrime_8 : decode cX8_isPrime 8 = .ok (.if_icmp .le 5, 3) := by decide +kernel
theorem dX8_isPrime_11 : decode cX8_isPrime 11 = .ok (.iconst 0, 1) := by decide +kernel
theorem dX8_isPrime_12 : decode cX8_isPrime 12 = .ok (.ireturn, 1) := by decide +kernel
theorem dX8_isPrime_13 : decode cX8_isPrime 13 = .ok (.iconst 2, 1) := by decide +kernel
theorem dX8_isPrime_14 : decode cX8_isPrime 14 = .ok (.istore_n 1, 1) := by decide +kernel
theorem dX8_isPrime_15 : decode cX8_isPrime 15 = .ok (.iload_n 1, 1) := by decide +kernel
theorem dX8_isPrime_16 : decode cX8_isPrime 16 = .ok (.iload_n 1, 1) := by decide +kernel
theorem dX8_isPrime_17 : decode cX8_isPrime 17 = .ok (.imul, 1) := by decide +kernel
theorem dX8_isPrime_18 : decode cX8_isPrime 18 = .ok (.iload_n 0, 1) := by decide +kernel
theorem dX8_isPrime_19 : decode cX8_isPrime 19 = .ok (.if_icmp .gt 17, 3) := by decide +kernel
theorem dX8_isPrime_22 : decode cX8_isPrime 22 = .ok (.iload_n 0, 1) := by decide +kernel
theorem dX8_isPrime_23 : decode cX8_isPrime 23 = .ok (.iload_n 1, 1) := by decide +kernel
theorem dX8_isPrime_24 : decode cX8_isPrime 24 = .ok (.irem, 1) := by decide +kernel
theorem dX8_isPrime_25 : decode cX8_isPrime 25 = .ok (.ifCond .ne 5, 3) := by decide +kernel
theorem dX8_isPrime_28 : decode cX8_isPrime 28 = .ok (.iconst 0, 1) := by decide +kernel
theorem dX8_isPrime_29 : decode cX8_isPrime 29 = .ok (.ireturn, 1) := by decide +kernel
theorem dX8_isPrime_30 : decode cX8_isPrime 30 = .ok (.iinc 1 1, 3) := by decide +kernel
theorem dX8_isPrime_33 : decode cX8_isPrime 33 = .ok (.goto (-18), 3) := by decide +kernel
theorem dX8_isPrime_36 : decode cX8_isPrime 36 = .ok (.iconst 1, 1) := by decide +kernel
theorem dX8_isPrime_37 : decode cX8_isPrime 37 = .ok (.ireturn, 1) := by decide +kernel
theorem dX8_parts_0 : decode cX8_parts 0 = .ok (.aload_n 0, 1) := by decide +kernel
theorem dX8_parts_1 : decode cX8_parts 1 = .ok (.iload_n 1, 1) := by decide +kernel
theorem dX8_parts_2 : decode cX8_parts 2 = .ok (.invokestatic 180, 3) := by decide +kernel
theorem dX8_parts_5 : decode cX8_parts 5 = .ok (.ifCond .ne 7, 3) := by decide +kernel
theorem dX8_parts_8 : decode cX8_parts 8 = .ok (.iconst 1, 1) := by decide +kernel
theorem dX8_parts_9 : decode cX8_parts 9 = .ok (.goto 15, 3) := by decide +kernel
theorem dX8_parts_12 : decode cX8_parts 12 = .ok (.iload_n 2, 1) := by decide +kernel
theorem dX8_parts_13 : decode cX8_parts 13 = .ok (.invokestatic 223, 3) := by decide +kernel
theorem dX8_parts_16 : decode cX8_parts 16 = .ok (.ifCond .ne 7, 3) := by decide +kernel
theorem dX8_parts_19 : decode cX8_parts 19 = .ok (.iconst 2, 1) := by decide +kernel
theorem dX8_parts_20 : decode cX8_parts 20 = .ok (.goto 4, 3) := by decide +kernel
theorem dX8_parts_23 : decode cX8_parts 23 = .ok (.iconst 0, 1) := by decide +kernel
theorem dX8_parts_24 : decode cX8_parts 24 = .ok (.putfield 45, 3) := by decide +kernel
theorem dX8_parts_27 : decode cX8_parts 27 = .ok (.aload_n 0, 1) := by decide +kernel
theorem dX8_parts_28 : decode cX8_parts 28 = .ok (.getfield 45, 3) := by decide +kernel
theorem dX8_parts_31 : decode cX8_parts 31 = .ok (.ifCond .eq 5, 3) := by decide +kernel
theorem dX8_parts_34 : decode cX8_parts 34 = .ok (.iconst 0, 1) := by decide +kernel
theorem dX8_parts_35 : decode cX8_parts 35 = .ok (.ireturn, 1) := by decide +kernel
theorem dX8_parts_36 : decode cX8_parts 36 = .ok (.aload_n 0, 1) := by decide +kernel
theorem dX8_parts_37 : decode cX8_parts 37 = .ok (.iload_n 1, 1) := by decide +kernel
theorem dX8_parts_38 : decode cX8_parts 38 = .ok (.iconst 0, 1) := by decide +kernel
theorem dX8_parts_39 : decode cX8_parts 39 = .ok (.invokevirtual 184, 3) := by decide +kernel
theorem dX8_parts_42 : decode cX8_parts 42 = .ok (.aload_n 0, 1) := by decide +kernel
theorem dX8_parts_43 : decode cX8_parts 43 = .ok (.getfield 26, 3) := by decide +kernel
theorem dX8_parts_46 : decode cX8_parts 46 = .ok (.iconst 0, 1) := by decide +kernel
theorem dX8_parts_47 : decode cX8_parts 47 = .ok (.iaload, 1) := by decide +kernel
theorem dX8_parts_48 : decode cX8_parts 48 = .ok (.istore_n 3, 1) := by decide +kernel
theorem dX8_parts_49 : decode cX8_parts 49 = .ok (.aload_n 0, 1) := by decide +kernel
theorem dX8_parts_50 : decode cX8_parts 50 = .ok (.iload_n 2, 1) := by decide +kernel
theorem dX8_parts_51 : decode cX8_parts 51 = .ok (.i2l, 1) := by decide +kernel
theorem dX8_parts_52 : decode cX8_parts 52 = .ok (.putfield 75, 3) := by decide +kernel
theorem dX8_parts_55 : decode cX8_parts 55 = .ok (.aload_n 0, 1) := by decide +kernel
theorem dX8_parts_56 : decode cX8_parts 56 = .ok (.iconst 0, 1) := by decide +kernel
theorem dX8_parts_57 : decode cX8_parts 57 = .ok (.invokevirtual 113, 3) := by decide +kernel
theorem dX8_parts_60 : decode cX8_parts 60 = .ok (.iload_n 3, 1) := by decide +kernel
theorem dX8_parts_61 : decode cX8_parts 61 = .ok (.ifCond .lt 13, 3) := by decide +kernel
theorem dX8_parts_64 : decode cX8_parts 64 = .ok (.aload_n 0, 1) := by decide +kernel
theorem dX8_parts_65 : decode cX8_parts 65 = .ok (.getfield 26, 3) := by decide +kernel
theorem dX8_parts_68 : decode cX8_parts 68 = .ok (.iconst 0, 1) := by decide +kernel
theorem dX8_parts_69 : decode cX8_parts 69 = .ok (.iaload, 1) := by decide +kernel
theorem dX8_parts_70 : decode cX8_parts 70 = .ok (.iload_n 3, 1) := by decide +kernel
theorem dX8_parts_71 : decode cX8_parts 71 = .ok (.if_icmp .ge 5, 3) := by decide +kernel
theorem dX8_parts_74 : decode cX8_parts 74 = .ok (.iconst (-1), 1) := by decide +kernel
theorem dX8_parts_75 : decode cX8_parts 75 = .ok (.ireturn, 1) := by decide +kernel
theorem dX8_parts_76 : decode cX8_parts 76 = .ok (.iload_n 3, 1) := by decide +kernel
theorem dX8_parts_77 : decode cX8_parts 77 = .ok (.ifCond .ne 5, 3) := by decide +kernel
theorem dX8_parts_80 : decode cX8_parts 80 = .ok (.iconst 0, 1) := by decide +kernel
theorem dX8_parts_81 : decode cX8_parts 81 = .ok (.ireturn, 1) := by decide +kernel
theorem dX8_parts_82 : decode cX8_parts 82 = .ok (.aload_n 0, 1) := by decide +kernel
theorem dX8_parts_83 : decode cX8_parts 83 = .ok (.iconst 0, 1) := by decide +kernel
theorem dX8_parts_84 : decode cX8_parts 84 = .ok (.invokevirtual 100, 3) := by decide +kernel
theorem dX8_parts_87 : decode cX8_parts 87 = .ok (.aload_n 0, 1) := by decide +kernel
theorem dX8_parts_88 : decode cX8_parts 88 = .ok (.bipush 10, 2) := by decide +kernel
theorem dX8_parts_90 : decode cX8_parts 90 = .ok (.invokevirtual 132, 3) := by decide +kernel
theorem dX8_parts_93 : decode cX8_parts 93 = .ok (.aload_n 0, 1) := by decide +kernel
theorem dX8_parts_94 : decode cX8_parts 94 = .ok (.bipush 10, 2) := by decide +kernel
theorem dX8_parts_96 : decode cX8_parts 96 = .ok (.iconst 0, 1) := by decide +kernel
theorem dX8_parts_97 : decode cX8_parts 97 = .ok (.invokevirtual 89, 3) := by decide +kernel
theorem dX8_parts_100 : decode cX8_parts 100 = .ok (.iconst 0, 1) := by decide +kernel
theorem dX8_parts_101 : decode cX8_parts 101 = .ok (.istore 4, 2) := by decide +kernel
theorem dX8_parts_103 : decode cX8_parts 103 = .ok (.iconst 1, 1) := by decide +kernel
theorem dX8_parts_104 : decode cX8_parts 104 = .ok (.istore 5, 2) := by decide +kernel
theorem dX8_parts_106 : decode cX8_parts 106 = .ok (.iload 5, 2) := by decide +kernel
theorem dX8_parts_108 : decode cX8_parts 108 = .ok (.iload_n 3, 1) := by decide +kernel
theorem dX8_parts_109 : decode cX8_parts 109 = .ok (.if_icmp .gt 129, 3) := by decide +kernel
theorem dX8_parts_112 : decode cX8_parts 112 = .ok (.aload_n 0, 1) := by decide +kernel
theorem dX8_parts_113 : decode cX8_parts 113 = .ok (.bipush 10, 2) := by decide +kernel
theorem dX8_parts_115 : decode cX8_parts 115 = .ok (.bipush 16, 2) := by decide +kernel
theorem dX8_parts_117 : decode cX8_parts 117 = .ok (.invokevirtual 72, 3) := by decide +kernel
theorem dX8_parts_120 : decode cX8_parts 120 = .ok (.aload_n 0, 1) := by decide +kernel
theorem dX8_parts_121 : decode cX8_parts 121 = .ok (.bipush 16, 2) := by decide +kernel
theorem dX8_parts_123 : decode cX8_parts 123 = .ok (.iload_n 2, 1) := by decide +kernel
theorem dX8_parts_124 : decode cX8_parts 124 = .ok (.i2l, 1) := by decide +kernel
theorem dX8_parts_125 : decode cX8_parts 125 = .ok (.iconst 0, 1) := by decide +kernel
theorem dX8_parts_126 : decode cX8_parts 126 = .ok (.bipush 10, 2) := by decide +kernel
theorem dX8_parts_128 : decode cX8_parts 128 = .ok (.invokevirtual 138, 3) := by decide +kernel
theorem dX8_parts_131 : decode cX8_parts 131 = .ok (.aload_n 0, 1) := by decide +kernel
theorem dX8_parts_132 : decode cX8_parts 132 = .ok (.bipush 10, 2) := by decide +kernel
theorem dX8_parts_134 : decode cX8_parts 134 = .ok (.bipush 11, 2) := by decide +kernel
theorem dX8_parts_136 : decode cX8_parts 136 = .ok (.invokevirtual 72, 3) := by decide +kernel
theorem dX8_parts_139 : decode cX8_parts 139 = .ok (.aload_n 0, 1) := by decide +kernel
theorem dX8_parts_140 : decode cX8_parts 140 = .ok (.bipush 11, 2) := by decide +kernel
theorem dX8_parts_142 : decode cX8_parts 142 = .ok (.invokevirtual 148, 3) := by decide +kernel
theorem dX8_parts_145 : decode cX8_parts 145 = .ok (.aload_n 0, 1) := by decide +kernel
theorem dX8_parts_146 : decode cX8_parts 146 = .ok (.iconst 0, 1) := by decide +kernel
theorem dX8_parts_147 : decode cX8_parts 147 = .ok (.bipush 17, 2) := by decide +kernel
theorem dX8_parts_149 : decode cX8_parts 149 = .ok (.invokevirtual 72, 3) := by decide +kernel
theorem dX8_parts_152 : decode cX8_parts 152 = .ok (.aload_n 0, 1) := by decide +kernel
theorem dX8_parts_153 : decode cX8_parts 153 = .ok (.bipush 17, 2) := by decide +kernel
theorem dX8_parts_155 : decode cX8_parts 155 = .ok (.bipush 11, 2) := by decide +kernel
theorem dX8_parts_157 : decode cX8_parts 157 = .ok (.bipush 18, 2) := by decide +kernel
theorem dX8_parts_159 : decode cX8_parts 159 = .ok (.invokevirtual 116, 3) := by decide +kernel
theorem dX8_parts_162 : decode cX8_parts 162 = .ok (.aload_n 0, 1) := by decide +kernel
theorem dX8_parts_163 : decode cX8_parts 163 = .ok (.getfield 26, 3) := by decide +kernel
theorem dX8_parts_166 : decode cX8_parts 166 = .ok (.bipush 18, 2) := by decide +kernel
theorem dX8_parts_168 : decode cX8_parts 168 = .ok (.iaload, 1) := by decide +kernel
theorem dX8_parts_169 : decode cX8_parts 169 = .ok (.istore 6, 2) := by decide +kernel
theorem dX8_parts_171 : decode cX8_parts 171 = .ok (.iconst 1, 1) := by decide +kernel
theorem dX8_parts_172 : decode cX8_parts 172 = .ok (.istore 7, 2) := by decide +kernel
theorem dX8_parts_174 : decode cX8_parts 174 = .ok (.iload 7, 2) := by decide +kernel
theorem dX8_parts_176 : decode cX8_parts 176 = .ok (.iload 5, 2) := by decide +kernel
theorem dX8_parts_178 : decode cX8_parts 178 = .ok (.if_icmp .ge 32, 3) := by decide +kernel
theorem dX8_parts_181 : decode cX8_parts 181 = .ok (.iload 5, 2) := by decide +kernel
theorem dX8_parts_183 : decode cX8_parts 183 = .ok (.iload 7, 2) := by decide +kernel
theorem dX8_parts_185 : decode cX8_parts 185 = .ok (.irem, 1) := by decide +kernel
theorem dX8_parts_186 : decode cX8_parts 186 = .ok (.ifCond .ne 18, 3) := by decide +kernel
theorem dX8_parts_189 : decode cX8_parts 189 = .ok (.iload 6, 2) := by decide +kernel
theorem dX8_parts_191 : decode cX8_parts 191 = .ok (.iload 7, 2) := by decide +kernel
theorem dX8_parts_193 : decode cX8_parts 193 = .ok (.aload_n 0, 1) := by decide +kernel
theorem dX8_parts_194 : decode cX8_parts 194 = .ok (.getfield 36, 3) := by decide +kernel
theorem dX8_parts_197 : decode cX8_parts 197 = .ok (.iload 7, 2) := by decide +kernel
theorem dX8_parts_199 : decode cX8_parts 199 = .ok (.iaload, 1) := by decide +kernel
theorem dX8_parts_200 : decode cX8_parts 200 = .ok (.imul, 1) := by decide +kernel
theorem dX8_parts_201 : decode cX8_parts 201 = .ok (.isub, 1) := by decide +kernel
theorem dX8_parts_202 : decode cX8_parts 202 = .ok (.istore 6, 2) := by decide +kernel
theorem dX8_parts_204 : decode cX8_parts 204 = .ok (.iinc 7 1, 3) := by decide +kernel
theorem dX8_parts_207 : decode cX8_parts 207 = .ok (.goto (-33), 3) := by decide +kernel
theorem dX8_parts_210 : decode cX8_parts 210 = .ok (.aload_n 0, 1) := by decide +kernel
theorem dX8_parts_211 : decode cX8_parts 211 = .ok (.getfield 36, 3) := by decide +kernel
theorem dX8_parts_214 : decode cX8_parts 214 = .ok (.iload 5, 2) := by decide +kernel
theorem dX8_parts_216 : decode cX8_parts 216 = .ok (.iload 6, 2) := by decide +kernel
theorem dX8_parts_218 : decode cX8_parts 218 = .ok (.iload 5, 2) := by decide +kernel
theorem dX8_parts_220 : decode cX8_parts 220 = .ok (.idiv, 1) := by decide +kernel
theorem dX8_parts_221 : decode cX8_parts 221 = .ok (.iastore, 1) := by decide +kernel
theorem dX8_parts_222 : decode cX8_parts 222 = .ok (.iload 4, 2) := by decide +kernel
theorem dX8_parts_224 : decode cX8_parts 224 = .ok (.iload 6, 2) := by decide +kernel
theorem dX8_parts_226 : decode cX8_parts 226 = .ok (.iload 5, 2) := by decide +kernel
theorem dX8_parts_228 : decode cX8_parts 228 = .ok (.idiv, 1) := by decide +kernel
theorem dX8_parts_229 : decode cX8_parts 229 = .ok (.iadd, 1) := by decide +kernel
theorem dX8_parts_230 : decode cX8_parts 230 = .ok (.istore 4, 2) := by decide +kernel
theorem dX8_parts_232 : decode cX8_parts 232 = .ok (.iinc 5 1, 3) := by decide +kernel
theorem dX8_parts_235 : decode cX8_parts 235 = .ok (.goto (-129), 3) := by decide +kernel
theorem dX8_parts_238 : decode cX8_parts 238 = .ok (.iload 4, 2) := by decide +kernel
theorem dX8_parts_240 : decode cX8_parts 240 = .ok (.ireturn, 1) := by decide +kernel
theorem dX8_squareFree_0 : decode cX8_squareFree 0 = .ok (.aload_n 0, 1) := by decide +kernel
theorem dX8_squareFree_1 : decode cX8_squareFree 1 = .ok (.iload_n 1, 1) := by decide +kernel
theorem dX8_squareFree_2 : decode cX8_squareFree 2 = .ok (.invokestatic 180, 3) := by decide +kernel
theorem dX8_squareFree_5 : decode cX8_squareFree 5 = .ok (.ifCond .eq 7, 3) := by decide +kernel
theorem dX8_squareFree_8 : decode cX8_squareFree 8 = .ok (.iconst 0, 1) := by decide +kernel
theorem dX8_squareFree_9 : decode cX8_squareFree 9 = .ok (.goto 4, 3) := by decide +kernel
theorem dX8_squareFree_12 : decode cX8_squareFree 12 = .ok (.iconst 1, 1) := by decide +kernel
theorem dX8_squareFree_13 : decode cX8_squareFree 13 = .ok (.putfield 45, 3) := by decide +kernel
theorem dX8_squareFree_16 : decode cX8_squareFree 16 = .ok (.aload_n 0, 1) := by decide +kernel
theorem dX8_squareFree_17 : decode cX8_squareFree 17 = .ok (.getfield 45, 3) := by decide +kernel
theorem dX8_squareFree_20 : decode cX8_squareFree 20 = .ok (.ifCond .eq 5, 3) := by decide +kernel
theorem dX8_squareFree_23 : decode cX8_squareFree 23 = .ok (.iconst 0, 1) := by decide +kernel
theorem dX8_squareFree_24 : decode cX8_squareFree 24 = .ok (.ireturn, 1) := by decide +kernel
theorem dX8_squareFree_25 : decode cX8_squareFree 25 = .ok (.aload_n 0, 1) := by decide +kernel
theorem dX8_squareFree_26 : decode cX8_squareFree 26 = .ok (.iload_n 1, 1) := by decide +kernel
theorem dX8_squareFree_27 : decode cX8_squareFree 27 = .ok (.iconst 0, 1) := by decide +kernel
theorem dX8_squareFree_28 : decode cX8_squareFree 28 = .ok (.invokevirtual 184, 3) := by decide +kernel
theorem dX8_squareFree_31 : decode cX8_squareFree 31 = .ok (.aload_n 0, 1) := by decide +kernel
theorem dX8_squareFree_32 : decode cX8_squareFree 32 = .ok (.getfield 26, 3) := by decide +kernel
theorem dX8_squareFree_35 : decode cX8_squareFree 35 = .ok (.iconst 0, 1) := by decide +kernel
theorem dX8_squareFree_36 : decode cX8_squareFree 36 = .ok (.iaload, 1) := by decide +kernel
theorem dX8_squareFree_37 : decode cX8_squareFree 37 = .ok (.iconst 1, 1) := by decide +kernel
theorem dX8_squareFree_38 : decode cX8_squareFree 38 = .ok (.if_icmp .ge 18, 3) := by decide +kernel
theorem dX8_squareFree_41 : decode cX8_squareFree 41 = .ok (.aload_n 0, 1) := by decide +kernel
theorem dX8_squareFree_42 : decode cX8_squareFree 42 = .ok (.getfield 26, 3) := by decide +kernel
theorem dX8_squareFree_45 : decode cX8_squareFree 45 = .ok (.iconst 0, 1) := by decide +kernel
theorem dX8_squareFree_46 : decode cX8_squareFree 46 = .ok (.iaload, 1) := by decide +kernel
theorem dX8_squareFree_47 : decode cX8_squareFree 47 = .ok (.ifCond .ne 7, 3) := by decide +kernel
theorem dX8_squareFree_50 : decode cX8_squareFree 50 = .ok (.iconst 1, 1) := by decide +kernel
theorem dX8_squareFree_51 : decode cX8_squareFree 51 = .ok (.goto 4, 3) := by decide +kernel
theorem dX8_squareFree_54 : decode cX8_squareFree 54 = .ok (.iconst 0, 1) := by decide +kernel
theorem dX8_squareFree_55 : decode cX8_squareFree 55 = .ok (.ireturn, 1) := by decide +kernel
theorem dX8_squareFree_56 : decode cX8_squareFree 56 = .ok (.aload_n 0, 1) := by decide +kernel
theorem dX8_squareFree_57 : decode cX8_squareFree 57 = .ok (.iconst 0, 1) := by decide +kernel
theorem dX8_squareFree_58 : decode cX8_squareFree 58 = .ok (.invokevirtual 106, 3) := by decide +kernel
theorem dX8_squareFree_61 : decode cX8_squareFree 61 = .ok (.pop2, 1) := by decide +kernel
theorem dX8_squareFree_62 : decode cX8_squareFree 62 = .ok (.aload_n 0, 1) := by decide +kernel
theorem dX8_squareFree_63 : decode cX8_squareFree 63 = .ok (.iconst 0, 1) := by decide +kernel
theorem dX8_squareFree_64 : decode cX8_squareFree 64 = .ok (.iconst 2, 1) := by decide +kernel
theorem dX8_squareFree_65 : decode cX8_squareFree 65 = .ok (.invokevirtual 157, 3) := by decide +kernel
theorem dX8_squareFree_68 : decode cX8_squareFree 68 = .ok (.aload_n 0, 1) := by decide +kernel
theorem dX8_squareFree_69 : decode cX8_squareFree 69 = .ok (.iconst 0, 1) := by decide +kernel
theorem dX8_squareFree_70 : decode cX8_squareFree 70 = .ok (.iconst 2, 1) := by decide +kernel
theorem dX8_squareFree_71 : decode cX8_squareFree 71 = .ok (.bipush 11, 2) := by decide +kernel
theorem dX8_squareFree_73 : decode cX8_squareFree 73 = .ok (.invokevirtual 177, 3) := by decide +kernel
theorem dX8_squareFree_76 : decode cX8_squareFree 76 = .ok (.aload_n 0, 1) := by decide +kernel
theorem dX8_squareFree_77 : decode cX8_squareFree 77 = .ok (.getfield 26, 3) := by decide +kernel
theorem dX8_squareFree_80 : decode cX8_squareFree 80 = .ok (.bipush 11, 2) := by decide +kernel
theorem dX8_squareFree_82 : decode cX8_squareFree 82 = .ok (.iaload, 1) := by decide +kernel
theorem dX8_squareFree_83 : decode cX8_squareFree 83 = .ok (.ifCond .ne 7, 3) := by decide +kernel
theorem dX8_squareFree_86 : decode cX8_squareFree 86 = .ok (.iconst 1, 1) := by decide +kernel
theorem dX8_squareFree_87 : decode cX8_squareFree 87 = .ok (.goto 4, 3) := by decide +kernel
theorem dX8_squareFree_90 : decode cX8_squareFree 90 = .ok (.iconst 0, 1) := by decide +kernel
theorem dX8_squareFree_91 : decode cX8_squareFree 91 = .ok (.ireturn, 1) := by decide +kernel
theorem dX8_value_0 : decode cX8_value 0 = .ok (.aload_n 0, 1) := by decide +kernel
theorem dX8_value_1 : decode cX8_value 1 = .ok (.iload_n 1, 1) := by decide +kernel
theorem dX8_value_2 : decode cX8_value 2 = .ok (.invokestatic 180, 3) := by decide +kernel
theorem dX8_value_5 : decode cX8_value 5 = .ok (.ifCond .ne 7, 3) := by decide +kernel
theorem dX8_value_8 : decode cX8_value 8 = .ok (.iconst 1, 1) := by decide +kernel
theorem dX8_value_9 : decode cX8_value 9 = .ok (.goto 19, 3) := by decide +kernel
theorem dX8_value_12 : decode cX8_value 12 = .ok (.iload_n 3, 1) := by decide +kernel
theorem dX8_value_13 : decode cX8_value 13 = .ok (.iconst 1, 1) := by decide +kernel
theorem dX8_value_14 : decode cX8_value 14 = .ok (.if_icmp .lt 9, 3) := by decide +kernel
theorem dX8_value_17 : decode cX8_value 17 = .ok (.iload_n 3, 1) := by decide +kernel
theorem dX8_value_18 : decode cX8_value 18 = .ok (.ldc 226, 2) := by decide +kernel
theorem dX8_value_20 : decode cX8_value 20 = .ok (.if_icmp .le 7, 3) := by decide +kernel
theorem dX8_value_23 : decode cX8_value 23 = .ok (.iconst 2, 1) := by decide +kernel
theorem dX8_value_24 : decode cX8_value 24 = .ok (.goto 4, 3) := by decide +kernel
theorem dX8_value_27 : decode cX8_value 27 = .ok (.iconst 0, 1) := by decide +kernel
theorem dX8_value_28 : decode cX8_value 28 = .ok (.putfield 45, 3) := by decide +kernel
theorem dX8_value_31 : decode cX8_value 31 = .ok (.aload_n 0, 1) := by decide +kernel
theorem dX8_value_32 : decode cX8_value 32 = .ok (.getfield 45, 3) := by decide +kernel
theorem dX8_value_35 : decode cX8_value 35 = .ok (.ifCond .eq 5, 3) := by decide +kernel
theorem dX8_value_38 : decode cX8_value 38 = .ok (.iconst 0, 1) := by decide +kernel
theorem dX8_value_39 : decode cX8_value 39 = .ok (.ireturn, 1) := by decide +kernel
theorem dX8_value_40 : decode cX8_value 40 = .ok (.lconst 0, 1) := by decide +kernel
theorem dX8_value_41 : decode cX8_value 41 = .ok (.lstore 4, 2) := by decide +kernel
theorem dX8_value_43 : decode cX8_value 43 = .ok (.bipush 10, 2) := by decide +kernel
theorem dX8_value_45 : decode cX8_value 45 = .ok (.istore 6, 2) := by decide +kernel
theorem dX8_value_47 : decode cX8_value 47 = .ok (.iload 6, 2) := by decide +kernel
theorem dX8_value_49 : decode cX8_value 49 = .ok (.ifCond .lt 33, 3) := by decide +kernel
theorem dX8_value_52 : decode cX8_value 52 = .ok (.lload 4, 2) := by decide +kernel
theorem dX8_value_54 : decode cX8_value 54 = .ok (.iload_n 2, 1) := by decide +kernel
theorem dX8_value_55 : decode cX8_value 55 = .ok (.i2l, 1) := by decide +kernel
theorem dX8_value_56 : decode cX8_value 56 = .ok (.lmul, 1) := by decide +kernel
theorem dX8_value_57 : decode cX8_value 57 = .ok (.aload_n 0, 1) := by decide +kernel
theorem dX8_value_58 : decode cX8_value 58 = .ok (.getfield 13, 3) := by decide +kernel
theorem dX8_value_61 : decode cX8_value 61 = .ok (.bipush 11, 2) := by decide +kernel
theorem dX8_value_63 : decode cX8_value 63 = .ok (.iload_n 1, 1) := by decide +kernel
theorem dX8_value_64 : decode cX8_value 64 = .ok (.imul, 1) := by decide +kernel
theorem dX8_value_65 : decode cX8_value 65 = .ok (.iload 6, 2) := by decide +kernel
theorem dX8_value_67 : decode cX8_value 67 = .ok (.iadd, 1) := by decide +kernel
theorem dX8_value_68 : decode cX8_value 68 = .ok (.iaload, 1) := by decide +kernel
theorem dX8_value_69 : decode cX8_value 69 = .ok (.i2l, 1) := by decide +kernel
theorem dX8_value_70 : decode cX8_value 70 = .ok (.ladd, 1) := by decide +kernel
theorem dX8_value_71 : decode cX8_value 71 = .ok (.iload_n 3, 1) := by decide +kernel
theorem dX8_value_72 : decode cX8_value 72 = .ok (.i2l, 1) := by decide +kernel
theorem dX8_value_73 : decode cX8_value 73 = .ok (.lrem, 1) := by decide +kernel
theorem dX8_value_74 : decode cX8_value 74 = .ok (.lstore 4, 2) := by decide +kernel
theorem dX8_value_76 : decode cX8_value 76 = .ok (.iinc 6 (-1), 3) := by decide +kernel
theorem dX8_value_79 : decode cX8_value 79 = .ok (.goto (-32), 3) := by decide +kernel
theorem dX8_value_82 : decode cX8_value 82 = .ok (.lload 4, 2) := by decide +kernel
theorem dX8_value_84 : decode cX8_value 84 = .ok (.lconst 0, 1) := by decide +kernel
theorem dX8_value_85 : decode cX8_value 85 = .ok (.lcmp, 1) := by decide +kernel
theorem dX8_value_86 : decode cX8_value 86 = .ok (.ifCond .ge 11, 3) := by decide +kernel
theorem dX8_value_89 : decode cX8_value 89 = .ok (.lload 4, 2) := by decide +kernel
theorem dX8_value_91 : decode cX8_value 91 = .ok (.iload_n 3, 1) := by decide +kernel
theorem dX8_value_92 : decode cX8_value 92 = .ok (.i2l, 1) := by decide +kernel
theorem dX8_value_93 : decode cX8_value 93 = .ok (.ladd, 1) := by decide +kernel
theorem dX8_value_94 : decode cX8_value 94 = .ok (.goto 5, 3) := by decide +kernel
theorem dX8_value_97 : decode cX8_value 97 = .ok (.lload 4, 2) := by decide +kernel
theorem dX8_value_99 : decode cX8_value 99 = .ok (.l2i, 1) := by decide +kernel
theorem dX8_value_100 : decode cX8_value 100 = .ok (.ireturn, 1) := by decide +kernel
theorem dX8_count_0 : decode cX8_count 0 = .ok (.aload_n 0, 1) := by decide +kernel
theorem dX8_count_1 : decode cX8_count 1 = .ok (.iconst 0, 1) := by decide +kernel
theorem dX8_count_2 : decode cX8_count 2 = .ok (.putfield 45, 3) := by decide +kernel
theorem dX8_count_5 : decode cX8_count 5 = .ok (.aload_n 0, 1) := by decide +kernel
theorem dX8_count_6 : decode cX8_count 6 = .ok (.getfield 61, 3) := by decide +kernel
theorem dX8_count_9 : decode cX8_count 9 = .ok (.ireturn, 1) := by decide +kernel

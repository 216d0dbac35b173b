theorem dX5_degree_0 : decode cX5_degree 0 = .ok (.aload_n 0, 1) := by decide +kernel
theorem dX5_degree_1 : decode cX5_degree 1 = .ok (.arraylength, 1) := by decide +kernel
theorem dX5_degree_2 : decode cX5_degree 2 = .ok (.iconst 1, 1) := by decide +kernel
theorem dX5_degree_3 : decode cX5_degree 3 = .ok (.isub, 1) := by decide +kernel
theorem dX5_degree_4 : decode cX5_degree 4 = .ok (.istore_n 1, 1) := by decide +kernel
theorem dX5_degree_5 : decode cX5_degree 5 = .ok (.iload_n 1, 1) := by decide +kernel
theorem dX5_degree_6 : decode cX5_degree 6 = .ok (.ifCond .lt 17, 3) := by decide +kernel
theorem dX5_degree_9 : decode cX5_degree 9 = .ok (.aload_n 0, 1) := by decide +kernel
theorem dX5_degree_10 : decode cX5_degree 10 = .ok (.iload_n 1, 1) := by decide +kernel
theorem dX5_degree_11 : decode cX5_degree 11 = .ok (.laload, 1) := by decide +kernel
theorem dX5_degree_12 : decode cX5_degree 12 = .ok (.lconst 0, 1) := by decide +kernel
theorem dX5_degree_13 : decode cX5_degree 13 = .ok (.lcmp, 1) := by decide +kernel
theorem dX5_degree_14 : decode cX5_degree 14 = .ok (.ifCond .ne 9, 3) := by decide +kernel
theorem dX5_degree_17 : decode cX5_degree 17 = .ok (.iinc 1 (-1), 3) := by decide +kernel
theorem dX5_degree_20 : decode cX5_degree 20 = .ok (.goto (-15), 3) := by decide +kernel
theorem dX5_degree_23 : decode cX5_degree 23 = .ok (.iload_n 1, 1) := by decide +kernel
theorem dX5_degree_24 : decode cX5_degree 24 = .ok (.ireturn, 1) := by decide +kernel
theorem dX5_copy_0 : decode cX5_copy 0 = .ok (.aload_n 0, 1) := by decide +kernel
theorem dX5_copy_1 : decode cX5_copy 1 = .ok (.iconst 0, 1) := by decide +kernel
theorem dX5_copy_2 : decode cX5_copy 2 = .ok (.aload_n 1, 1) := by decide +kernel
theorem dX5_copy_3 : decode cX5_copy 3 = .ok (.iconst 0, 1) := by decide +kernel
theorem dX5_copy_4 : decode cX5_copy 4 = .ok (.bipush 11, 2) := by decide +kernel
theorem dX5_copy_6 : decode cX5_copy 6 = .ok (.invokestatic 9, 3) := by decide +kernel
theorem dX5_copy_9 : decode cX5_copy 9 = .ok (.return_, 1) := by decide +kernel
theorem dX5_commonMeasure_0 : decode cX5_commonMeasure 0 = .ok (.lload_n 0, 1) := by decide +kernel
theorem dX5_commonMeasure_1 : decode cX5_commonMeasure 1 = .ok (.invokestatic 15, 3) := by decide +kernel
theorem dX5_commonMeasure_4 : decode cX5_commonMeasure 4 = .ok (.lstore 4, 2) := by decide +kernel
theorem dX5_commonMeasure_6 : decode cX5_commonMeasure 6 = .ok (.lload_n 2, 1) := by decide +kernel
theorem dX5_commonMeasure_7 : decode cX5_commonMeasure 7 = .ok (.invokestatic 15, 3) := by decide +kernel
theorem dX5_commonMeasure_10 : decode cX5_commonMeasure 10 = .ok (.lstore 6, 2) := by decide +kernel
theorem dX5_commonMeasure_12 : decode cX5_commonMeasure 12 = .ok (.iconst 0, 1) := by decide +kernel
theorem dX5_commonMeasure_13 : decode cX5_commonMeasure 13 = .ok (.istore 8, 2) := by decide +kernel
theorem dX5_commonMeasure_15 : decode cX5_commonMeasure 15 = .ok (.iload 8, 2) := by decide +kernel
theorem dX5_commonMeasure_17 : decode cX5_commonMeasure 17 = .ok (.sipush 128, 3) := by decide +kernel
theorem dX5_commonMeasure_20 : decode cX5_commonMeasure 20 = .ok (.if_icmp .ge 31, 3) := by decide +kernel
theorem dX5_commonMeasure_23 : decode cX5_commonMeasure 23 = .ok (.lload 6, 2) := by decide +kernel
theorem dX5_commonMeasure_25 : decode cX5_commonMeasure 25 = .ok (.lconst 0, 1) := by decide +kernel
theorem dX5_commonMeasure_26 : decode cX5_commonMeasure 26 = .ok (.lcmp, 1) := by decide +kernel
theorem dX5_commonMeasure_27 : decode cX5_commonMeasure 27 = .ok (.ifCond .eq 24, 3) := by decide +kernel
theorem dX5_commonMeasure_30 : decode cX5_commonMeasure 30 = .ok (.lload 4, 2) := by decide +kernel
theorem dX5_commonMeasure_32 : decode cX5_commonMeasure 32 = .ok (.lload 6, 2) := by decide +kernel
theorem dX5_commonMeasure_34 : decode cX5_commonMeasure 34 = .ok (.lrem, 1) := by decide +kernel
theorem dX5_commonMeasure_35 : decode cX5_commonMeasure 35 = .ok (.lstore 9, 2) := by decide +kernel
theorem dX5_commonMeasure_37 : decode cX5_commonMeasure 37 = .ok (.lload 6, 2) := by decide +kernel
theorem dX5_commonMeasure_39 : decode cX5_commonMeasure 39 = .ok (.lstore 4, 2) := by decide +kernel
theorem dX5_commonMeasure_41 : decode cX5_commonMeasure 41 = .ok (.lload 9, 2) := by decide +kernel
theorem dX5_commonMeasure_43 : decode cX5_commonMeasure 43 = .ok (.lstore 6, 2) := by decide +kernel
theorem dX5_commonMeasure_45 : decode cX5_commonMeasure 45 = .ok (.iinc 8 1, 3) := by decide +kernel
theorem dX5_commonMeasure_48 : decode cX5_commonMeasure 48 = .ok (.goto (-33), 3) := by decide +kernel
theorem dX5_commonMeasure_51 : decode cX5_commonMeasure 51 = .ok (.lload 4, 2) := by decide +kernel
theorem dX5_commonMeasure_53 : decode cX5_commonMeasure 53 = .ok (.lreturn, 1) := by decide +kernel
theorem dX5_signedContent_0 : decode cX5_signedContent 0 = .ok (.aload_n 0, 1) := by decide +kernel
theorem dX5_signedContent_1 : decode cX5_signedContent 1 = .ok (.invokestatic 23, 3) := by decide +kernel
theorem dX5_signedContent_4 : decode cX5_signedContent 4 = .ok (.istore_n 1, 1) := by decide +kernel
theorem dX5_signedContent_5 : decode cX5_signedContent 5 = .ok (.lconst 0, 1) := by decide +kernel
theorem dX5_signedContent_6 : decode cX5_signedContent 6 = .ok (.lstore_n 2, 1) := by decide +kernel
theorem dX5_signedContent_7 : decode cX5_signedContent 7 = .ok (.iload_n 1, 1) := by decide +kernel
theorem dX5_signedContent_8 : decode cX5_signedContent 8 = .ok (.istore 4, 2) := by decide +kernel
theorem dX5_signedContent_10 : decode cX5_signedContent 10 = .ok (.iload 4, 2) := by decide +kernel
theorem dX5_signedContent_12 : decode cX5_signedContent 12 = .ok (.ifCond .lt 24, 3) := by decide +kernel
theorem dX5_signedContent_15 : decode cX5_signedContent 15 = .ok (.lload_n 2, 1) := by decide +kernel
theorem dX5_signedContent_16 : decode cX5_signedContent 16 = .ok (.lconst 1, 1) := by decide +kernel
theorem dX5_signedContent_17 : decode cX5_signedContent 17 = .ok (.lcmp, 1) := by decide +kernel
theorem dX5_signedContent_18 : decode cX5_signedContent 18 = .ok (.ifCond .eq 18, 3) := by decide +kernel
theorem dX5_signedContent_21 : decode cX5_signedContent 21 = .ok (.lload_n 2, 1) := by decide +kernel
theorem dX5_signedContent_22 : decode cX5_signedContent 22 = .ok (.aload_n 0, 1) := by decide +kernel
theorem dX5_signedContent_23 : decode cX5_signedContent 23 = .ok (.iload 4, 2) := by decide +kernel
theorem dX5_signedContent_25 : decode cX5_signedContent 25 = .ok (.laload, 1) := by decide +kernel
theorem dX5_signedContent_26 : decode cX5_signedContent 26 = .ok (.invokestatic 27, 3) := by decide +kernel
theorem dX5_signedContent_29 : decode cX5_signedContent 29 = .ok (.lstore_n 2, 1) := by decide +kernel
theorem dX5_signedContent_30 : decode cX5_signedContent 30 = .ok (.iinc 4 (-1), 3) := by decide +kernel
theorem dX5_signedContent_33 : decode cX5_signedContent 33 = .ok (.goto (-23), 3) := by decide +kernel
theorem dX5_signedContent_36 : decode cX5_signedContent 36 = .ok (.iload_n 1, 1) := by decide +kernel
theorem dX5_signedContent_37 : decode cX5_signedContent 37 = .ok (.ifCond .lt 16, 3) := by decide +kernel
theorem dX5_signedContent_40 : decode cX5_signedContent 40 = .ok (.aload_n 0, 1) := by decide +kernel
theorem dX5_signedContent_41 : decode cX5_signedContent 41 = .ok (.iload_n 1, 1) := by decide +kernel
theorem dX5_signedContent_42 : decode cX5_signedContent 42 = .ok (.laload, 1) := by decide +kernel
theorem dX5_signedContent_43 : decode cX5_signedContent 43 = .ok (.lconst 0, 1) := by decide +kernel
theorem dX5_signedContent_44 : decode cX5_signedContent 44 = .ok (.lcmp, 1) := by decide +kernel
theorem dX5_signedContent_45 : decode cX5_signedContent 45 = .ok (.ifCond .ge 8, 3) := by decide +kernel
theorem dX5_signedContent_48 : decode cX5_signedContent 48 = .ok (.lload_n 2, 1) := by decide +kernel
theorem dX5_signedContent_49 : decode cX5_signedContent 49 = .ok (.lneg, 1) := by decide +kernel
theorem dX5_signedContent_50 : decode cX5_signedContent 50 = .ok (.goto 4, 3) := by decide +kernel
theorem dX5_signedContent_53 : decode cX5_signedContent 53 = .ok (.lload_n 2, 1) := by decide +kernel
theorem dX5_signedContent_54 : decode cX5_signedContent 54 = .ok (.lreturn, 1) := by decide +kernel
theorem dX5_makePrimitive_0 : decode cX5_makePrimitive 0 = .ok (.aload_n 0, 1) := by decide +kernel
theorem dX5_makePrimitive_1 : decode cX5_makePrimitive 1 = .ok (.invokestatic 31, 3) := by decide +kernel
theorem dX5_makePrimitive_4 : decode cX5_makePrimitive 4 = .ok (.lstore_n 1, 1) := by decide +kernel
theorem dX5_makePrimitive_5 : decode cX5_makePrimitive 5 = .ok (.lload_n 1, 1) := by decide +kernel
theorem dX5_makePrimitive_6 : decode cX5_makePrimitive 6 = .ok (.lconst 0, 1) := by decide +kernel
theorem dX5_makePrimitive_7 : decode cX5_makePrimitive 7 = .ok (.lcmp, 1) := by decide +kernel
theorem dX5_makePrimitive_8 : decode cX5_makePrimitive 8 = .ok (.ifCond .eq 9, 3) := by decide +kernel
theorem dX5_makePrimitive_11 : decode cX5_makePrimitive 11 = .ok (.lload_n 1, 1) := by decide +kernel
theorem dX5_makePrimitive_12 : decode cX5_makePrimitive 12 = .ok (.lconst 1, 1) := by decide +kernel
theorem dX5_makePrimitive_13 : decode cX5_makePrimitive 13 = .ok (.lcmp, 1) := by decide +kernel
theorem dX5_makePrimitive_14 : decode cX5_makePrimitive 14 = .ok (.ifCond .ne 4, 3) := by decide +kernel
theorem dX5_makePrimitive_17 : decode cX5_makePrimitive 17 = .ok (.return_, 1) := by decide +kernel
theorem dX5_makePrimitive_18 : decode cX5_makePrimitive 18 = .ok (.iconst 0, 1) := by decide +kernel
theorem dX5_makePrimitive_19 : decode cX5_makePrimitive 19 = .ok (.istore_n 3, 1) := by decide +kernel
theorem dX5_makePrimitive_20 : decode cX5_makePrimitive 20 = .ok (.iload_n 3, 1) := by decide +kernel
theorem dX5_makePrimitive_21 : decode cX5_makePrimitive 21 = .ok (.aload_n 0, 1) := by decide +kernel
theorem dX5_makePrimitive_22 : decode cX5_makePrimitive 22 = .ok (.arraylength, 1) := by decide +kernel
theorem dX5_makePrimitive_23 : decode cX5_makePrimitive 23 = .ok (.if_icmp .ge 16, 3) := by decide +kernel
theorem dX5_makePrimitive_26 : decode cX5_makePrimitive 26 = .ok (.aload_n 0, 1) := by decide +kernel
theorem dX5_makePrimitive_27 : decode cX5_makePrimitive 27 = .ok (.iload_n 3, 1) := by decide +kernel
theorem dX5_makePrimitive_28 : decode cX5_makePrimitive 28 = .ok (.dup2, 1) := by decide +kernel
theorem dX5_makePrimitive_29 : decode cX5_makePrimitive 29 = .ok (.laload, 1) := by decide +kernel
theorem dX5_makePrimitive_30 : decode cX5_makePrimitive 30 = .ok (.lload_n 1, 1) := by decide +kernel
theorem dX5_makePrimitive_31 : decode cX5_makePrimitive 31 = .ok (.ldiv, 1) := by decide +kernel
theorem dX5_makePrimitive_32 : decode cX5_makePrimitive 32 = .ok (.lastore, 1) := by decide +kernel
theorem dX5_makePrimitive_33 : decode cX5_makePrimitive 33 = .ok (.iinc 3 1, 3) := by decide +kernel
theorem dX5_makePrimitive_36 : decode cX5_makePrimitive 36 = .ok (.goto (-16), 3) := by decide +kernel
theorem dX5_makePrimitive_39 : decode cX5_makePrimitive 39 = .ok (.return_, 1) := by decide +kernel
theorem dX5_derive_0 : decode cX5_derive 0 = .ok (.iconst 1, 1) := by decide +kernel
theorem dX5_derive_1 : decode cX5_derive 1 = .ok (.istore_n 2, 1) := by decide +kernel
theorem dX5_derive_2 : decode cX5_derive 2 = .ok (.iload_n 2, 1) := by decide +kernel
theorem dX5_derive_3 : decode cX5_derive 3 = .ok (.bipush 11, 2) := by decide +kernel
theorem dX5_derive_5 : decode cX5_derive 5 = .ok (.if_icmp .ge 20, 3) := by decide +kernel
theorem dX5_derive_8 : decode cX5_derive 8 = .ok (.aload_n 1, 1) := by decide +kernel
theorem dX5_derive_9 : decode cX5_derive 9 = .ok (.iload_n 2, 1) := by decide +kernel
theorem dX5_derive_10 : decode cX5_derive 10 = .ok (.iconst 1, 1) := by decide +kernel
theorem dX5_derive_11 : decode cX5_derive 11 = .ok (.isub, 1) := by decide +kernel
theorem dX5_derive_12 : decode cX5_derive 12 = .ok (.iload_n 2, 1) := by decide +kernel
theorem dX5_derive_13 : decode cX5_derive 13 = .ok (.i2l, 1) := by decide +kernel
theorem dX5_derive_14 : decode cX5_derive 14 = .ok (.aload_n 0, 1) := by decide +kernel
theorem dX5_derive_15 : decode cX5_derive 15 = .ok (.iload_n 2, 1) := by decide +kernel
theorem dX5_derive_16 : decode cX5_derive 16 = .ok (.laload, 1) := by decide +kernel
theorem dX5_derive_17 : decode cX5_derive 17 = .ok (.lmul, 1) := by decide +kernel
theorem dX5_derive_18 : decode cX5_derive 18 = .ok (.lastore, 1) := by decide +kernel
theorem dX5_derive_19 : decode cX5_derive 19 = .ok (.iinc 2 1, 3) := by decide +kernel
theorem dX5_derive_22 : decode cX5_derive 22 = .ok (.goto (-20), 3) := by decide +kernel
theorem dX5_derive_25 : decode cX5_derive 25 = .ok (.aload_n 1, 1) := by decide +kernel
theorem dX5_derive_26 : decode cX5_derive 26 = .ok (.bipush 10, 2) := by decide +kernel
theorem dX5_derive_28 : decode cX5_derive 28 = .ok (.lconst 0, 1) := by decide +kernel
theorem dX5_derive_29 : decode cX5_derive 29 = .ok (.lastore, 1) := by decide +kernel
theorem dX5_derive_30 : decode cX5_derive 30 = .ok (.return_, 1) := by decide +kernel
theorem dX5_isBefore_0 : decode cX5_isBefore 0 = .ok (.bipush 10, 2) := by decide +kernel
theorem dX5_isBefore_2 : decode cX5_isBefore 2 = .ok (.istore_n 2, 1) := by decide +kernel
theorem dX5_isBefore_3 : decode cX5_isBefore 3 = .ok (.iload_n 2, 1) := by decide +kernel
theorem dX5_isBefore_4 : decode cX5_isBefore 4 = .ok (.ifCond .lt 35, 3) := by decide +kernel
theorem dX5_isBefore_7 : decode cX5_isBefore 7 = .ok (.aload_n 0, 1) := by decide +kernel
theorem dX5_isBefore_8 : decode cX5_isBefore 8 = .ok (.iload_n 2, 1) := by decide +kernel
theorem dX5_isBefore_9 : decode cX5_isBefore 9 = .ok (.laload, 1) := by decide +kernel
theorem dX5_isBefore_10 : decode cX5_isBefore 10 = .ok (.aload_n 1, 1) := by decide +kernel
theorem dX5_isBefore_11 : decode cX5_isBefore 11 = .ok (.iload_n 2, 1) := by decide +kernel
theorem dX5_isBefore_12 : decode cX5_isBefore 12 = .ok (.laload, 1) := by decide +kernel
theorem dX5_isBefore_13 : decode cX5_isBefore 13 = .ok (.lcmp, 1) := by decide +kernel
theorem dX5_isBefore_14 : decode cX5_isBefore 14 = .ok (.ifCond .eq 19, 3) := by decide +kernel
theorem dX5_isBefore_17 : decode cX5_isBefore 17 = .ok (.aload_n 0, 1) := by decide +kernel
theorem dX5_isBefore_18 : decode cX5_isBefore 18 = .ok (.iload_n 2, 1) := by decide +kernel
theorem dX5_isBefore_19 : decode cX5_isBefore 19 = .ok (.laload, 1) := by decide +kernel
theorem dX5_isBefore_20 : decode cX5_isBefore 20 = .ok (.aload_n 1, 1) := by decide +kernel
theorem dX5_isBefore_21 : decode cX5_isBefore 21 = .ok (.iload_n 2, 1) := by decide +kernel
theorem dX5_isBefore_22 : decode cX5_isBefore 22 = .ok (.laload, 1) := by decide +kernel
theorem dX5_isBefore_23 : decode cX5_isBefore 23 = .ok (.lcmp, 1) := by decide +kernel
theorem dX5_isBefore_24 : decode cX5_isBefore 24 = .ok (.ifCond .ge 7, 3) := by decide +kernel
theorem dX5_isBefore_27 : decode cX5_isBefore 27 = .ok (.iconst 1, 1) := by decide +kernel
theorem dX5_isBefore_28 : decode cX5_isBefore 28 = .ok (.goto 4, 3) := by decide +kernel
theorem dX5_isBefore_31 : decode cX5_isBefore 31 = .ok (.iconst 0, 1) := by decide +kernel
theorem dX5_isBefore_32 : decode cX5_isBefore 32 = .ok (.ireturn, 1) := by decide +kernel
theorem dX5_isBefore_33 : decode cX5_isBefore 33 = .ok (.iinc 2 (-1), 3) := by decide +kernel
theorem dX5_isBefore_36 : decode cX5_isBefore 36 = .ok (.goto (-33), 3) := by decide +kernel
theorem dX5_isBefore_39 : decode cX5_isBefore 39 = .ok (.iconst 0, 1) := by decide +kernel
theorem dX5_isBefore_40 : decode cX5_isBefore 40 = .ok (.ireturn, 1) := by decide +kernel

theorem ml_50 : zML 50 = 2 := by decide +kernel
theorem rt_50 : zRt 50 = some .int := by decide +kernel
theorem k_50_0 : zD 50 0 = some (.lload_n 0, 1, none) := by decide +kernel
theorem k_50_1 : zD 50 1 = some (.lload_n 0, 1, none) := by decide +kernel
theorem k_50_2 : zD 50 2 = some (.iconst (1), 1, none) := by decide +kernel
theorem k_50_3 : zD 50 3 = some (.lushr, 1, none) := by decide +kernel
theorem k_50_4 : zD 50 4 = some (.ldc2_w 314, 3, none) ∧ zKc (zOn 50) 314 = some (.inr 6148914691236517205) := by decide +kernel
theorem k_50_7 : zD 50 7 = some (.land, 1, none) := by decide +kernel
theorem k_50_8 : zD 50 8 = some (.lsub, 1, none) := by decide +kernel
theorem k_50_9 : zD 50 9 = some (.lstore_n 0, 1, none) := by decide +kernel
theorem k_50_10 : zD 50 10 = some (.lload_n 0, 1, none) := by decide +kernel
theorem k_50_11 : zD 50 11 = some (.ldc2_w 316, 3, none) ∧ zKc (zOn 50) 316 = some (.inr 3689348814741910323) := by decide +kernel
theorem k_50_14 : zD 50 14 = some (.land, 1, none) := by decide +kernel
theorem k_50_15 : zD 50 15 = some (.lload_n 0, 1, none) := by decide +kernel
theorem k_50_16 : zD 50 16 = some (.iconst (2), 1, none) := by decide +kernel
theorem k_50_17 : zD 50 17 = some (.lushr, 1, none) := by decide +kernel
theorem k_50_18 : zD 50 18 = some (.ldc2_w 316, 3, none) ∧ zKc (zOn 50) 316 = some (.inr 3689348814741910323) := by decide +kernel
theorem k_50_21 : zD 50 21 = some (.land, 1, none) := by decide +kernel
theorem k_50_22 : zD 50 22 = some (.ladd, 1, none) := by decide +kernel
theorem k_50_23 : zD 50 23 = some (.lstore_n 0, 1, none) := by decide +kernel
theorem k_50_24 : zD 50 24 = some (.lload_n 0, 1, none) := by decide +kernel
theorem k_50_25 : zD 50 25 = some (.lload_n 0, 1, none) := by decide +kernel
theorem k_50_26 : zD 50 26 = some (.iconst (4), 1, none) := by decide +kernel
theorem k_50_27 : zD 50 27 = some (.lushr, 1, none) := by decide +kernel
theorem k_50_28 : zD 50 28 = some (.ladd, 1, none) := by decide +kernel
theorem k_50_29 : zD 50 29 = some (.ldc2_w 318, 3, none) ∧ zKc (zOn 50) 318 = some (.inr 1085102592571150095) := by decide +kernel
theorem k_50_32 : zD 50 32 = some (.land, 1, none) := by decide +kernel
theorem k_50_33 : zD 50 33 = some (.lstore_n 0, 1, none) := by decide +kernel
theorem k_50_34 : zD 50 34 = some (.lload_n 0, 1, none) := by decide +kernel
theorem k_50_35 : zD 50 35 = some (.lload_n 0, 1, none) := by decide +kernel
theorem k_50_36 : zD 50 36 = some (.bipush (8), 2, none) := by decide +kernel
theorem k_50_38 : zD 50 38 = some (.lushr, 1, none) := by decide +kernel
theorem k_50_39 : zD 50 39 = some (.ladd, 1, none) := by decide +kernel
theorem k_50_40 : zD 50 40 = some (.lstore_n 0, 1, none) := by decide +kernel
theorem k_50_41 : zD 50 41 = some (.lload_n 0, 1, none) := by decide +kernel
theorem k_50_42 : zD 50 42 = some (.lload_n 0, 1, none) := by decide +kernel
theorem k_50_43 : zD 50 43 = some (.bipush (16), 2, none) := by decide +kernel
theorem k_50_45 : zD 50 45 = some (.lushr, 1, none) := by decide +kernel
theorem k_50_46 : zD 50 46 = some (.ladd, 1, none) := by decide +kernel
theorem k_50_47 : zD 50 47 = some (.lstore_n 0, 1, none) := by decide +kernel
theorem k_50_48 : zD 50 48 = some (.lload_n 0, 1, none) := by decide +kernel
theorem k_50_49 : zD 50 49 = some (.lload_n 0, 1, none) := by decide +kernel
theorem k_50_50 : zD 50 50 = some (.bipush (32), 2, none) := by decide +kernel
theorem k_50_52 : zD 50 52 = some (.lushr, 1, none) := by decide +kernel
theorem k_50_53 : zD 50 53 = some (.ladd, 1, none) := by decide +kernel
theorem k_50_54 : zD 50 54 = some (.lstore_n 0, 1, none) := by decide +kernel
theorem k_50_55 : zD 50 55 = some (.lload_n 0, 1, none) := by decide +kernel
theorem k_50_56 : zD 50 56 = some (.l2i, 1, none) := by decide +kernel
theorem k_50_57 : zD 50 57 = some (.bipush (127), 2, none) := by decide +kernel
theorem k_50_59 : zD 50 59 = some (.iand, 1, none) := by decide +kernel
theorem k_50_60 : zD 50 60 = some (.ireturn, 1, none) := by decide +kernel
theorem ml_90 : zML 90 = 2 := by decide +kernel
theorem rt_90 : zRt 90 = some .int := by decide +kernel
theorem k_90_0 : zD 90 0 = some (.iload_n 0, 1, none) := by decide +kernel
theorem k_90_1 : zD 90 1 = some (.iconst (-1), 1, none) := by decide +kernel
theorem k_90_2 : zD 90 2 = some (.ixor, 1, none) := by decide +kernel
theorem k_90_3 : zD 90 3 = some (.iload_n 0, 1, none) := by decide +kernel
theorem k_90_4 : zD 90 4 = some (.iconst (1), 1, none) := by decide +kernel
theorem k_90_5 : zD 90 5 = some (.isub, 1, none) := by decide +kernel
theorem k_90_6 : zD 90 6 = some (.iand, 1, none) := by decide +kernel
theorem k_90_7 : zD 90 7 = some (.istore_n 0, 1, none) := by decide +kernel
theorem k_90_8 : zD 90 8 = some (.iload_n 0, 1, none) := by decide +kernel
theorem k_90_9 : zD 90 9 = some (.ifCond .gt (8), 3, none) ∧ zTg 9 (8) = some 17 := by decide +kernel
theorem k_90_17 : zD 90 17 = some (.iconst (1), 1, none) := by decide +kernel
theorem k_90_18 : zD 90 18 = some (.istore_n 1, 1, none) := by decide +kernel
theorem k_90_19 : zD 90 19 = some (.iload_n 0, 1, none) := by decide +kernel
theorem k_90_20 : zD 90 20 = some (.ldc_w 264, 3, none) ∧ zKc (zOn 90) 264 = some (.inl 65536) := by decide +kernel
theorem k_90_23 : zD 90 23 = some (.if_icmp .le (11), 3, none) ∧ zTg 23 (11) = some 34 := by decide +kernel
theorem k_90_26 : zD 90 26 = some (.iinc 1 (16), 3, none) := by decide +kernel
theorem k_90_29 : zD 90 29 = some (.iload_n 0, 1, none) := by decide +kernel
theorem k_90_30 : zD 90 30 = some (.bipush (16), 2, none) := by decide +kernel
theorem k_90_32 : zD 90 32 = some (.iushr, 1, none) := by decide +kernel
theorem k_90_33 : zD 90 33 = some (.istore_n 0, 1, none) := by decide +kernel
theorem k_90_12 : zD 90 12 = some (.iload_n 0, 1, none) := by decide +kernel
theorem k_90_13 : zD 90 13 = some (.bipush (32), 2, none) := by decide +kernel
theorem k_90_15 : zD 90 15 = some (.iand, 1, none) := by decide +kernel
theorem k_90_16 : zD 90 16 = some (.ireturn, 1, none) := by decide +kernel
theorem k_90_34 : zD 90 34 = some (.iload_n 0, 1, some [true, true]) := by decide +kernel
theorem k_90_35 : zD 90 35 = some (.sipush (256), 3, none) := by decide +kernel
theorem k_90_38 : zD 90 38 = some (.if_icmp .le (11), 3, none) ∧ zTg 38 (11) = some 49 := by decide +kernel
theorem k_90_41 : zD 90 41 = some (.iinc 1 (8), 3, none) := by decide +kernel
theorem k_90_44 : zD 90 44 = some (.iload_n 0, 1, none) := by decide +kernel
theorem k_90_45 : zD 90 45 = some (.bipush (8), 2, none) := by decide +kernel
theorem k_90_47 : zD 90 47 = some (.iushr, 1, none) := by decide +kernel
theorem k_90_48 : zD 90 48 = some (.istore_n 0, 1, none) := by decide +kernel
theorem k_90_49 : zD 90 49 = some (.iload_n 0, 1, some [true, true]) := by decide +kernel
theorem k_90_50 : zD 90 50 = some (.bipush (16), 2, none) := by decide +kernel
theorem k_90_52 : zD 90 52 = some (.if_icmp .le (10), 3, none) ∧ zTg 52 (10) = some 62 := by decide +kernel
theorem k_90_55 : zD 90 55 = some (.iinc 1 (4), 3, none) := by decide +kernel
theorem k_90_58 : zD 90 58 = some (.iload_n 0, 1, none) := by decide +kernel
theorem k_90_59 : zD 90 59 = some (.iconst (4), 1, none) := by decide +kernel
theorem k_90_60 : zD 90 60 = some (.iushr, 1, none) := by decide +kernel
theorem k_90_61 : zD 90 61 = some (.istore_n 0, 1, none) := by decide +kernel
theorem k_90_62 : zD 90 62 = some (.iload_n 0, 1, some [true, true]) := by decide +kernel
theorem k_90_63 : zD 90 63 = some (.iconst (4), 1, none) := by decide +kernel
theorem k_90_64 : zD 90 64 = some (.if_icmp .le (10), 3, none) ∧ zTg 64 (10) = some 74 := by decide +kernel
theorem k_90_67 : zD 90 67 = some (.iinc 1 (2), 3, none) := by decide +kernel
theorem k_90_70 : zD 90 70 = some (.iload_n 0, 1, none) := by decide +kernel
theorem k_90_71 : zD 90 71 = some (.iconst (2), 1, none) := by decide +kernel
theorem k_90_72 : zD 90 72 = some (.iushr, 1, none) := by decide +kernel
theorem k_90_73 : zD 90 73 = some (.istore_n 0, 1, none) := by decide +kernel
theorem k_90_74 : zD 90 74 = some (.iload_n 1, 1, some [true, true]) := by decide +kernel
theorem k_90_75 : zD 90 75 = some (.iload_n 0, 1, none) := by decide +kernel
theorem k_90_76 : zD 90 76 = some (.iconst (1), 1, none) := by decide +kernel
theorem k_90_77 : zD 90 77 = some (.iushr, 1, none) := by decide +kernel
theorem k_90_78 : zD 90 78 = some (.iadd, 1, none) := by decide +kernel
theorem k_90_79 : zD 90 79 = some (.ireturn, 1, none) := by decide +kernel
theorem kd_90_34 : zD 90 34 = some (.iload_n 0, 1, some [true, true]) := k_90_34
theorem kd_90_49 : zD 90 49 = some (.iload_n 0, 1, some [true, true]) := k_90_49
theorem kd_90_62 : zD 90 62 = some (.iload_n 0, 1, some [true, true]) := k_90_62
theorem ml_96 : zML 96 = 1 := by decide +kernel
theorem rt_96 : zRt 96 = some .int := by decide +kernel
theorem k_96_0 : zD 96 0 = some (.iload_n 0, 1, none) := by decide +kernel
theorem k_96_1 : zD 96 1 = some (.iload_n 0, 1, none) := by decide +kernel
theorem k_96_2 : zD 96 2 = some (.iconst (1), 1, none) := by decide +kernel
theorem k_96_3 : zD 96 3 = some (.iushr, 1, none) := by decide +kernel
theorem k_96_4 : zD 96 4 = some (.ldc_w 265, 3, none) ∧ zKc (zOn 96) 265 = some (.inl 1431655765) := by decide +kernel
theorem k_96_7 : zD 96 7 = some (.iand, 1, none) := by decide +kernel
theorem k_96_8 : zD 96 8 = some (.isub, 1, none) := by decide +kernel
theorem k_96_9 : zD 96 9 = some (.istore_n 0, 1, none) := by decide +kernel
theorem k_96_10 : zD 96 10 = some (.iload_n 0, 1, none) := by decide +kernel
theorem k_96_11 : zD 96 11 = some (.ldc_w 266, 3, none) ∧ zKc (zOn 96) 266 = some (.inl 858993459) := by decide +kernel
theorem k_96_14 : zD 96 14 = some (.iand, 1, none) := by decide +kernel
theorem k_96_15 : zD 96 15 = some (.iload_n 0, 1, none) := by decide +kernel
theorem k_96_16 : zD 96 16 = some (.iconst (2), 1, none) := by decide +kernel
theorem k_96_17 : zD 96 17 = some (.iushr, 1, none) := by decide +kernel
theorem k_96_18 : zD 96 18 = some (.ldc_w 266, 3, none) ∧ zKc (zOn 96) 266 = some (.inl 858993459) := by decide +kernel
theorem k_96_21 : zD 96 21 = some (.iand, 1, none) := by decide +kernel
theorem k_96_22 : zD 96 22 = some (.iadd, 1, none) := by decide +kernel
theorem k_96_23 : zD 96 23 = some (.istore_n 0, 1, none) := by decide +kernel
theorem k_96_24 : zD 96 24 = some (.iload_n 0, 1, none) := by decide +kernel
theorem k_96_25 : zD 96 25 = some (.iload_n 0, 1, none) := by decide +kernel
theorem k_96_26 : zD 96 26 = some (.iconst (4), 1, none) := by decide +kernel
theorem k_96_27 : zD 96 27 = some (.iushr, 1, none) := by decide +kernel
theorem k_96_28 : zD 96 28 = some (.iadd, 1, none) := by decide +kernel
theorem k_96_29 : zD 96 29 = some (.ldc_w 267, 3, none) ∧ zKc (zOn 96) 267 = some (.inl 252645135) := by decide +kernel
theorem k_96_32 : zD 96 32 = some (.iand, 1, none) := by decide +kernel
theorem k_96_33 : zD 96 33 = some (.istore_n 0, 1, none) := by decide +kernel
theorem k_96_34 : zD 96 34 = some (.iload_n 0, 1, none) := by decide +kernel
theorem k_96_35 : zD 96 35 = some (.iload_n 0, 1, none) := by decide +kernel
theorem k_96_36 : zD 96 36 = some (.bipush (8), 2, none) := by decide +kernel
theorem k_96_38 : zD 96 38 = some (.iushr, 1, none) := by decide +kernel
theorem k_96_39 : zD 96 39 = some (.iadd, 1, none) := by decide +kernel
theorem k_96_40 : zD 96 40 = some (.istore_n 0, 1, none) := by decide +kernel
theorem k_96_41 : zD 96 41 = some (.iload_n 0, 1, none) := by decide +kernel
theorem k_96_42 : zD 96 42 = some (.iload_n 0, 1, none) := by decide +kernel
theorem k_96_43 : zD 96 43 = some (.bipush (16), 2, none) := by decide +kernel
theorem k_96_45 : zD 96 45 = some (.iushr, 1, none) := by decide +kernel
theorem k_96_46 : zD 96 46 = some (.iadd, 1, none) := by decide +kernel
theorem k_96_47 : zD 96 47 = some (.istore_n 0, 1, none) := by decide +kernel
theorem k_96_48 : zD 96 48 = some (.iload_n 0, 1, none) := by decide +kernel
theorem k_96_49 : zD 96 49 = some (.bipush (63), 2, none) := by decide +kernel
theorem k_96_51 : zD 96 51 = some (.iand, 1, none) := by decide +kernel
theorem k_96_52 : zD 96 52 = some (.ireturn, 1, none) := by decide +kernel
theorem ml_103 : zML 103 = 1 := by decide +kernel
theorem rt_103 : zRt 103 = some .int := by decide +kernel
theorem k_103_0 : zD 103 0 = some (.iload_n 0, 1, none) := by decide +kernel
theorem k_103_1 : zD 103 1 = some (.ifCond .ge (8), 3, none) ∧ zTg 1 (8) = some 9 := by decide +kernel
theorem k_103_4 : zD 103 4 = some (.iload_n 0, 1, none) := by decide +kernel
theorem k_103_5 : zD 103 5 = some (.ineg, 1, none) := by decide +kernel
theorem k_103_6 : zD 103 6 = some (.goto (4), 3, none) ∧ zTg 6 (4) = some 10 := by decide +kernel
theorem k_103_10 : zD 103 10 = some (.ireturn, 1, some [false]) := by decide +kernel
theorem k_103_9 : zD 103 9 = some (.iload_n 0, 1, none) := by decide +kernel
theorem kd_103_10 : zD 103 10 = some (.ireturn, 1, some [false]) := k_103_10
theorem ml_11 : zML 11 = 2 := by decide +kernel
theorem rt_11 : zRt 11 = some .boolean := by decide +kernel
theorem k_11_0 : zD 11 0 = some (.iload_n 0, 1, none) := by decide +kernel
theorem k_11_1 : zD 11 1 = some (.iload_n 1, 1, none) := by decide +kernel
theorem k_11_2 : zD 11 2 = some (.ishr, 1, none) := by decide +kernel
theorem k_11_3 : zD 11 3 = some (.iconst (1), 1, none) := by decide +kernel
theorem k_11_4 : zD 11 4 = some (.iand, 1, none) := by decide +kernel
theorem k_11_5 : zD 11 5 = some (.ifCond .eq (7), 3, none) ∧ zTg 5 (7) = some 12 := by decide +kernel
theorem k_11_12 : zD 11 12 = some (.iconst (0), 1, none) := by decide +kernel
theorem k_11_13 : zD 11 13 = some (.ireturn, 1, some [false, false]) := by decide +kernel
theorem k_11_8 : zD 11 8 = some (.iconst (1), 1, none) := by decide +kernel
theorem k_11_9 : zD 11 9 = some (.goto (4), 3, none) ∧ zTg 9 (4) = some 13 := by decide +kernel
theorem kd_11_13 : zD 11 13 = some (.ireturn, 1, some [false, false]) := k_11_13
theorem ml_10 : zML 10 = 6 := by decide +kernel
theorem rt_10 : zRt 10 = some .long := by decide +kernel
theorem k_10_0 : zD 10 0 = some (.lload_n 0, 1, none) := by decide +kernel
theorem k_10_1 : zD 10 1 = some (.lstore_n 3, 1, none) := by decide +kernel
theorem k_10_2 : zD 10 2 = some (.iconst (0), 1, none) := by decide +kernel
theorem k_10_3 : zD 10 3 = some (.istore 5, 2, none) := by decide +kernel
theorem k_10_5 : zD 10 5 = some (.iload 5, 2, some [false, false, true, true, false, true]) := by decide +kernel
theorem k_10_7 : zD 10 7 = some (.bipush (6), 2, none) := by decide +kernel
theorem k_10_9 : zD 10 9 = some (.if_icmp .ge (25), 3, none) ∧ zTg 9 (25) = some 34 := by decide +kernel
theorem k_10_12 : zD 10 12 = some (.iload_n 2, 1, none) := by decide +kernel
theorem k_10_13 : zD 10 13 = some (.iload 5, 2, none) := by decide +kernel
theorem k_10_15 : zD 10 15 = some (.invokestatic 17, 3, none) ∧ zAt.lookup (zOn 10, 17) = none ∧ zCk (zOn 10) 17 = some (3, 11) ∧ (3 = 1 ∨ 3 = 3) ∧ zNp 11 = 2 ∧ zML 11 = 2 ∧ (zRt 11 = some .int ∨ zRt 11 = some .boolean ∨ zRt 11 = some .char ∨ zRt 11 = some .byte) := by decide +kernel
theorem k_10_18 : zD 10 18 = some (.ifCond .eq (10), 3, none) ∧ zTg 18 (10) = some 28 := by decide +kernel
theorem k_10_28 : zD 10 28 = some (.iinc 5 (1), 3, some [false, false, true, true, false, true]) := by decide +kernel
theorem k_10_31 : zD 10 31 = some (.goto (-26), 3, none) ∧ zTg 31 (-26) = some 5 := by decide +kernel
theorem k_10_21 : zD 10 21 = some (.lload_n 3, 1, none) := by decide +kernel
theorem k_10_22 : zD 10 22 = some (.iload 5, 2, none) := by decide +kernel
theorem k_10_24 : zD 10 24 = some (.invokestatic 21, 3, none) ∧ zAt.lookup (zOn 10, 21) = none ∧ zCk (zOn 10) 21 = some (1, 12) ∧ (1 = 1 ∨ 1 = 3) ∧ zNp 12 = 2 ∧ zML 12 = 3 ∧ zRt 12 = some .long := by decide +kernel
theorem k_10_27 : zD 10 27 = some (.lstore_n 3, 1, none) := by decide +kernel
theorem k_10_34 : zD 10 34 = some (.lload_n 3, 1, none) := by decide +kernel
theorem k_10_35 : zD 10 35 = some (.lreturn, 1, none) := by decide +kernel
theorem kd_10_5 : zD 10 5 = some (.iload 5, 2, some [false, false, true, true, false, true]) := k_10_5
theorem ml_12 : zML 12 = 3 := by decide +kernel
theorem rt_12 : zRt 12 = some .long := by decide +kernel
theorem k_12_0 : zD 12 0 = some (.iload_n 2, 1, none) := by decide +kernel
theorem k_12_1 : zD 12 1 = some (.ifCond .lt (21), 3, none) ∧ zTg 1 (21) = some 22 := by decide +kernel
theorem k_12_22 : zD 12 22 = some (.lconst 0, 1, some [false, false, false]) := by decide +kernel
theorem k_12_23 : zD 12 23 = some (.lreturn, 1, some [false, false, false]) := by decide +kernel
theorem k_12_4 : zD 12 4 = some (.iload_n 2, 1, none) := by decide +kernel
theorem k_12_5 : zD 12 5 = some (.getstatic 9, 3, none) ∧ zSc' (zOn 12) 9 = some 0 := by decide +kernel
theorem k_12_8 : zD 12 8 = some (.arraylength, 1, none) := by decide +kernel
theorem k_12_9 : zD 12 9 = some (.if_icmp .ge (13), 3, none) ∧ zTg 9 (13) = some 22 := by decide +kernel
theorem k_12_12 : zD 12 12 = some (.lload_n 0, 1, none) := by decide +kernel
theorem k_12_13 : zD 12 13 = some (.getstatic 9, 3, none) ∧ zSc' (zOn 12) 9 = some 0 := by decide +kernel
theorem k_12_16 : zD 12 16 = some (.iload_n 2, 1, none) := by decide +kernel
theorem k_12_17 : zD 12 17 = some (.laload, 1, none) := by decide +kernel
theorem k_12_18 : zD 12 18 = some (.land, 1, none) := by decide +kernel
theorem k_12_19 : zD 12 19 = some (.goto (4), 3, none) ∧ zTg 19 (4) = some 23 := by decide +kernel
theorem kd_12_22 : zD 12 22 = some (.lconst 0, 1, some [false, false, false]) := k_12_22
theorem kd_12_23 : zD 12 23 = some (.lreturn, 1, some [false, false, false]) := k_12_23
theorem ml_13 : zML 13 = 3 := by decide +kernel
theorem rt_13 : zRt 13 = some .long := by decide +kernel
theorem k_13_0 : zD 13 0 = some (.iload_n 2, 1, none) := by decide +kernel
theorem k_13_1 : zD 13 1 = some (.ifCond .lt (25), 3, none) ∧ zTg 1 (25) = some 26 := by decide +kernel
theorem k_13_26 : zD 13 26 = some (.lload_n 0, 1, some [true, false, false]) := by decide +kernel
theorem k_13_27 : zD 13 27 = some (.lreturn, 1, some [false, false, false]) := by decide +kernel
theorem k_13_4 : zD 13 4 = some (.iload_n 2, 1, none) := by decide +kernel
theorem k_13_5 : zD 13 5 = some (.getstatic 9, 3, none) ∧ zSc' (zOn 13) 9 = some 0 := by decide +kernel
theorem k_13_8 : zD 13 8 = some (.arraylength, 1, none) := by decide +kernel
theorem k_13_9 : zD 13 9 = some (.if_icmp .ge (17), 3, none) ∧ zTg 9 (17) = some 26 := by decide +kernel
theorem k_13_12 : zD 13 12 = some (.lload_n 0, 1, none) := by decide +kernel
theorem k_13_13 : zD 13 13 = some (.getstatic 9, 3, none) ∧ zSc' (zOn 13) 9 = some 0 := by decide +kernel
theorem k_13_16 : zD 13 16 = some (.iload_n 2, 1, none) := by decide +kernel
theorem k_13_17 : zD 13 17 = some (.laload, 1, none) := by decide +kernel
theorem k_13_18 : zD 13 18 = some (.ldc2_w 15, 3, none) ∧ zKc (zOn 13) 15 = some (.inr (-1)) := by decide +kernel
theorem k_13_21 : zD 13 21 = some (.lxor, 1, none) := by decide +kernel
theorem k_13_22 : zD 13 22 = some (.land, 1, none) := by decide +kernel
theorem k_13_23 : zD 13 23 = some (.goto (4), 3, none) ∧ zTg 23 (4) = some 27 := by decide +kernel
theorem kd_13_26 : zD 13 26 = some (.lload_n 0, 1, some [true, false, false]) := k_13_26
theorem kd_13_27 : zD 13 27 = some (.lreturn, 1, some [false, false, false]) := k_13_27
theorem ml_14 : zML 14 = 3 := by decide +kernel
theorem rt_14 : zRt 14 = some .boolean := by decide +kernel
theorem k_14_0 : zD 14 0 = some (.lload_n 0, 1, none) := by decide +kernel
theorem k_14_1 : zD 14 1 = some (.iload_n 2, 1, none) := by decide +kernel
theorem k_14_2 : zD 14 2 = some (.lushr, 1, none) := by decide +kernel
theorem k_14_3 : zD 14 3 = some (.lconst 1, 1, none) := by decide +kernel
theorem k_14_4 : zD 14 4 = some (.land, 1, none) := by decide +kernel
theorem k_14_5 : zD 14 5 = some (.lconst 0, 1, none) := by decide +kernel
theorem k_14_6 : zD 14 6 = some (.lcmp, 1, none) := by decide +kernel
theorem k_14_7 : zD 14 7 = some (.ifCond .eq (7), 3, none) ∧ zTg 7 (7) = some 14 := by decide +kernel
theorem k_14_14 : zD 14 14 = some (.iconst (0), 1, none) := by decide +kernel
theorem k_14_15 : zD 14 15 = some (.ireturn, 1, some [false, false, false]) := by decide +kernel
theorem k_14_10 : zD 14 10 = some (.iconst (1), 1, none) := by decide +kernel
theorem k_14_11 : zD 14 11 = some (.goto (4), 3, none) ∧ zTg 11 (4) = some 15 := by decide +kernel
theorem kd_14_15 : zD 14 15 = some (.ireturn, 1, some [false, false, false]) := k_14_15
theorem ml_57 : zML 57 = 5 := by decide +kernel
theorem rt_57 : zRt 57 = some .int := by decide +kernel
theorem k_57_0 : zD 57 0 = some (.iconst (0), 1, none) := by decide +kernel
theorem k_57_1 : zD 57 1 = some (.istore_n 3, 1, none) := by decide +kernel
theorem k_57_2 : zD 57 2 = some (.iconst (0), 1, none) := by decide +kernel
theorem k_57_3 : zD 57 3 = some (.istore 4, 2, none) := by decide +kernel
theorem k_57_5 : zD 57 5 = some (.iload 4, 2, some [true, false, true, true, true]) := by decide +kernel
theorem k_57_7 : zD 57 7 = some (.iload_n 2, 1, none) := by decide +kernel
theorem k_57_8 : zD 57 8 = some (.if_icmp .ge (33), 3, none) ∧ zTg 8 (33) = some 41 := by decide +kernel
theorem k_57_11 : zD 57 11 = some (.lload_n 0, 1, none) := by decide +kernel
theorem k_57_12 : zD 57 12 = some (.lconst 0, 1, none) := by decide +kernel
theorem k_57_13 : zD 57 13 = some (.lcmp, 1, none) := by decide +kernel
theorem k_57_14 : zD 57 14 = some (.ifCond .eq (27), 3, none) ∧ zTg 14 (27) = some 41 := by decide +kernel
theorem k_57_41 : zD 57 41 = some (.iload_n 3, 1, some [false, false, false, true, false]) := by decide +kernel
theorem k_57_42 : zD 57 42 = some (.ireturn, 1, none) := by decide +kernel
theorem k_57_17 : zD 57 17 = some (.lload_n 0, 1, none) := by decide +kernel
theorem k_57_18 : zD 57 18 = some (.iload 4, 2, none) := by decide +kernel
theorem k_57_20 : zD 57 20 = some (.invokestatic 21, 3, none) ∧ zAt.lookup (zOn 57, 21) = none ∧ zCk (zOn 57) 21 = some (1, 12) ∧ (1 = 1 ∨ 1 = 3) ∧ zNp 12 = 2 ∧ zML 12 = 3 ∧ zRt 12 = some .long := by decide +kernel
theorem k_57_23 : zD 57 23 = some (.lconst 0, 1, none) := by decide +kernel
theorem k_57_24 : zD 57 24 = some (.lcmp, 1, none) := by decide +kernel
theorem k_57_25 : zD 57 25 = some (.ifCond .ne (10), 3, none) ∧ zTg 25 (10) = some 35 := by decide +kernel
theorem k_57_28 : zD 57 28 = some (.iload_n 3, 1, none) := by decide +kernel
theorem k_57_29 : zD 57 29 = some (.iconst (1), 1, none) := by decide +kernel
theorem k_57_30 : zD 57 30 = some (.iload 4, 2, none) := by decide +kernel
theorem k_57_32 : zD 57 32 = some (.ishl, 1, none) := by decide +kernel
theorem k_57_33 : zD 57 33 = some (.ior, 1, none) := by decide +kernel
theorem k_57_34 : zD 57 34 = some (.istore_n 3, 1, none) := by decide +kernel
theorem k_57_35 : zD 57 35 = some (.iinc 4 (1), 3, some [true, false, true, true, true]) := by decide +kernel
theorem k_57_38 : zD 57 38 = some (.goto (-33), 3, none) ∧ zTg 38 (-33) = some 5 := by decide +kernel
theorem kd_57_5 : zD 57 5 = some (.iload 4, 2, some [true, false, true, true, true]) := k_57_5
theorem kd_57_41 : zD 57 41 = some (.iload_n 3, 1, some [false, false, false, true, false]) := k_57_41
theorem ml_63 : zML 63 = 5 := by decide +kernel
theorem rt_63 : zRt 63 = some .int := by decide +kernel
theorem k_63_0 : zD 63 0 = some (.iload_n 2, 1, none) := by decide +kernel
theorem k_63_1 : zD 63 1 = some (.iconst (-1), 1, none) := by decide +kernel
theorem k_63_2 : zD 63 2 = some (.if_icmp .ne (8), 3, none) ∧ zTg 2 (8) = some 10 := by decide +kernel
theorem k_63_5 : zD 63 5 = some (.lload_n 0, 1, none) := by decide +kernel
theorem k_63_6 : zD 63 6 = some (.invokestatic 28, 3, none) ∧ zAt.lookup (zOn 63, 28) = none ∧ zCk (zOn 63) 28 = some (1, 50) ∧ (1 = 1 ∨ 1 = 3) ∧ zNp 50 = 1 ∧ zML 50 = 2 ∧ (zRt 50 = some .int ∨ zRt 50 = some .boolean ∨ zRt 50 = some .char ∨ zRt 50 = some .byte) := by decide +kernel
theorem k_63_9 : zD 63 9 = some (.ireturn, 1, none) := by decide +kernel
theorem k_63_10 : zD 63 10 = some (.iconst (0), 1, none) := by decide +kernel
theorem k_63_11 : zD 63 11 = some (.istore_n 3, 1, none) := by decide +kernel
theorem k_63_12 : zD 63 12 = some (.iconst (0), 1, none) := by decide +kernel
theorem k_63_13 : zD 63 13 = some (.istore 4, 2, none) := by decide +kernel
theorem k_63_15 : zD 63 15 = some (.iload 4, 2, some [true, false, true, true, true]) := by decide +kernel
theorem k_63_17 : zD 63 17 = some (.bipush (64), 2, none) := by decide +kernel
theorem k_63_19 : zD 63 19 = some (.if_icmp .ge (29), 3, none) ∧ zTg 19 (29) = some 48 := by decide +kernel
theorem k_63_22 : zD 63 22 = some (.lload_n 0, 1, none) := by decide +kernel
theorem k_63_23 : zD 63 23 = some (.iload 4, 2, none) := by decide +kernel
theorem k_63_25 : zD 63 25 = some (.invokestatic 34, 3, none) ∧ zAt.lookup (zOn 63, 34) = none ∧ zCk (zOn 63) 34 = some (1, 14) ∧ (1 = 1 ∨ 1 = 3) ∧ zNp 14 = 2 ∧ zML 14 = 3 ∧ (zRt 14 = some .int ∨ zRt 14 = some .boolean ∨ zRt 14 = some .char ∨ zRt 14 = some .byte) := by decide +kernel
theorem k_63_28 : zD 63 28 = some (.ifCond .eq (14), 3, none) ∧ zTg 28 (14) = some 42 := by decide +kernel
theorem k_63_42 : zD 63 42 = some (.iinc 4 (1), 3, some [true, false, true, true, true]) := by decide +kernel
theorem k_63_45 : zD 63 45 = some (.goto (-30), 3, none) ∧ zTg 45 (-30) = some 15 := by decide +kernel
theorem k_63_31 : zD 63 31 = some (.iload_n 3, 1, none) := by decide +kernel
theorem k_63_32 : zD 63 32 = some (.iload_n 2, 1, none) := by decide +kernel
theorem k_63_33 : zD 63 33 = some (.if_icmp .ne (6), 3, none) ∧ zTg 33 (6) = some 39 := by decide +kernel
theorem k_63_36 : zD 63 36 = some (.iload 4, 2, none) := by decide +kernel
theorem k_63_38 : zD 63 38 = some (.ireturn, 1, none) := by decide +kernel
theorem k_63_39 : zD 63 39 = some (.iinc 3 (1), 3, none) := by decide +kernel
theorem k_63_48 : zD 63 48 = some (.iconst (-1), 1, none) := by decide +kernel
theorem k_63_49 : zD 63 49 = some (.ireturn, 1, none) := by decide +kernel
theorem kd_63_15 : zD 63 15 = some (.iload 4, 2, some [true, false, true, true, true]) := k_63_15
theorem ml_66 : zML 66 = 5 := by decide +kernel
theorem rt_66 : zRt 66 = some .int := by decide +kernel
theorem k_66_0 : zD 66 0 = some (.iconst (0), 1, none) := by decide +kernel
theorem k_66_1 : zD 66 1 = some (.istore_n 3, 1, none) := by decide +kernel
theorem k_66_2 : zD 66 2 = some (.iconst (0), 1, none) := by decide +kernel
theorem k_66_3 : zD 66 3 = some (.istore 4, 2, none) := by decide +kernel
theorem k_66_5 : zD 66 5 = some (.iload 4, 2, some [true, false, true, true, true]) := by decide +kernel
theorem k_66_7 : zD 66 7 = some (.iload_n 2, 1, none) := by decide +kernel
theorem k_66_8 : zD 66 8 = some (.if_icmp .ge (33), 3, none) ∧ zTg 8 (33) = some 41 := by decide +kernel
theorem k_66_11 : zD 66 11 = some (.lload_n 0, 1, none) := by decide +kernel
theorem k_66_12 : zD 66 12 = some (.lconst 0, 1, none) := by decide +kernel
theorem k_66_13 : zD 66 13 = some (.lcmp, 1, none) := by decide +kernel
theorem k_66_14 : zD 66 14 = some (.ifCond .eq (27), 3, none) ∧ zTg 14 (27) = some 41 := by decide +kernel
theorem k_66_41 : zD 66 41 = some (.iload_n 3, 1, some [false, false, false, true, false]) := by decide +kernel
theorem k_66_42 : zD 66 42 = some (.ireturn, 1, none) := by decide +kernel
theorem k_66_17 : zD 66 17 = some (.lload_n 0, 1, none) := by decide +kernel
theorem k_66_18 : zD 66 18 = some (.iload 4, 2, none) := by decide +kernel
theorem k_66_20 : zD 66 20 = some (.invokestatic 25, 3, none) ∧ zAt.lookup (zOn 66, 25) = none ∧ zCk (zOn 66) 25 = some (1, 13) ∧ (1 = 1 ∨ 1 = 3) ∧ zNp 13 = 2 ∧ zML 13 = 3 ∧ zRt 13 = some .long := by decide +kernel
theorem k_66_23 : zD 66 23 = some (.lconst 0, 1, none) := by decide +kernel
theorem k_66_24 : zD 66 24 = some (.lcmp, 1, none) := by decide +kernel
theorem k_66_25 : zD 66 25 = some (.ifCond .ne (10), 3, none) ∧ zTg 25 (10) = some 35 := by decide +kernel
theorem k_66_28 : zD 66 28 = some (.iload_n 3, 1, none) := by decide +kernel
theorem k_66_29 : zD 66 29 = some (.iconst (1), 1, none) := by decide +kernel
theorem k_66_30 : zD 66 30 = some (.iload 4, 2, none) := by decide +kernel
theorem k_66_32 : zD 66 32 = some (.ishl, 1, none) := by decide +kernel
theorem k_66_33 : zD 66 33 = some (.ior, 1, none) := by decide +kernel
theorem k_66_34 : zD 66 34 = some (.istore_n 3, 1, none) := by decide +kernel
theorem k_66_35 : zD 66 35 = some (.iinc 4 (1), 3, some [true, false, true, true, true]) := by decide +kernel
theorem k_66_38 : zD 66 38 = some (.goto (-33), 3, none) ∧ zTg 38 (-33) = some 5 := by decide +kernel
theorem kd_66_5 : zD 66 5 = some (.iload 4, 2, some [true, false, true, true, true]) := k_66_5
theorem kd_66_41 : zD 66 41 = some (.iload_n 3, 1, some [false, false, false, true, false]) := k_66_41
theorem ml_81 : zML 81 = 3 := by decide +kernel
theorem rt_81 : zRt 81 = some .long := by decide +kernel
theorem k_81_0 : zD 81 0 = some (.lload_n 0, 1, none) := by decide +kernel
theorem k_81_1 : zD 81 1 = some (.iload_n 2, 1, none) := by decide +kernel
theorem k_81_2 : zD 81 2 = some (.invokestatic 21, 3, none) ∧ zAt.lookup (zOn 81, 21) = none ∧ zCk (zOn 81) 21 = some (1, 12) ∧ (1 = 1 ∨ 1 = 3) ∧ zNp 12 = 2 ∧ zML 12 = 3 ∧ zRt 12 = some .long := by decide +kernel
theorem k_81_5 : zD 81 5 = some (.lload_n 0, 1, none) := by decide +kernel
theorem k_81_6 : zD 81 6 = some (.iload_n 2, 1, none) := by decide +kernel
theorem k_81_7 : zD 81 7 = some (.invokestatic 25, 3, none) ∧ zAt.lookup (zOn 81, 25) = none ∧ zCk (zOn 81) 25 = some (1, 13) ∧ (1 = 1 ∨ 1 = 3) ∧ zNp 13 = 2 ∧ zML 13 = 3 ∧ zRt 13 = some .long := by decide +kernel
theorem k_81_10 : zD 81 10 = some (.iconst (1), 1, none) := by decide +kernel
theorem k_81_11 : zD 81 11 = some (.iload_n 2, 1, none) := by decide +kernel
theorem k_81_12 : zD 81 12 = some (.ishl, 1, none) := by decide +kernel
theorem k_81_13 : zD 81 13 = some (.lshl, 1, none) := by decide +kernel
theorem k_81_14 : zD 81 14 = some (.lor, 1, none) := by decide +kernel
theorem k_81_15 : zD 81 15 = some (.lreturn, 1, none) := by decide +kernel
theorem ml_85 : zML 85 = 6 := by decide +kernel
theorem rt_85 : zRt 85 = some .long := by decide +kernel
theorem k_85_0 : zD 85 0 = some (.lload_n 0, 1, none) := by decide +kernel
theorem k_85_1 : zD 85 1 = some (.lstore_n 3, 1, none) := by decide +kernel
theorem k_85_2 : zD 85 2 = some (.iconst (0), 1, none) := by decide +kernel
theorem k_85_3 : zD 85 3 = some (.istore 5, 2, none) := by decide +kernel
theorem k_85_5 : zD 85 5 = some (.iload 5, 2, some [false, false, true, true, false, true]) := by decide +kernel
theorem k_85_7 : zD 85 7 = some (.bipush (6), 2, none) := by decide +kernel
theorem k_85_9 : zD 85 9 = some (.if_icmp .ge (25), 3, none) ∧ zTg 9 (25) = some 34 := by decide +kernel
theorem k_85_12 : zD 85 12 = some (.iload_n 2, 1, none) := by decide +kernel
theorem k_85_13 : zD 85 13 = some (.iload 5, 2, none) := by decide +kernel
theorem k_85_15 : zD 85 15 = some (.invokestatic 17, 3, none) ∧ zAt.lookup (zOn 85, 17) = none ∧ zCk (zOn 85) 17 = some (3, 11) ∧ (3 = 1 ∨ 3 = 3) ∧ zNp 11 = 2 ∧ zML 11 = 2 ∧ (zRt 11 = some .int ∨ zRt 11 = some .boolean ∨ zRt 11 = some .char ∨ zRt 11 = some .byte) := by decide +kernel
theorem k_85_18 : zD 85 18 = some (.ifCond .eq (10), 3, none) ∧ zTg 18 (10) = some 28 := by decide +kernel
theorem k_85_28 : zD 85 28 = some (.iinc 5 (1), 3, some [false, false, true, true, false, true]) := by decide +kernel
theorem k_85_31 : zD 85 31 = some (.goto (-26), 3, none) ∧ zTg 31 (-26) = some 5 := by decide +kernel
theorem k_85_21 : zD 85 21 = some (.lload_n 3, 1, none) := by decide +kernel
theorem k_85_22 : zD 85 22 = some (.iload 5, 2, none) := by decide +kernel
theorem k_85_24 : zD 85 24 = some (.invokestatic 25, 3, none) ∧ zAt.lookup (zOn 85, 25) = none ∧ zCk (zOn 85) 25 = some (1, 13) ∧ (1 = 1 ∨ 1 = 3) ∧ zNp 13 = 2 ∧ zML 13 = 3 ∧ zRt 13 = some .long := by decide +kernel
theorem k_85_27 : zD 85 27 = some (.lstore_n 3, 1, none) := by decide +kernel
theorem k_85_34 : zD 85 34 = some (.lload_n 3, 1, none) := by decide +kernel
theorem k_85_35 : zD 85 35 = some (.lreturn, 1, none) := by decide +kernel
theorem kd_85_5 : zD 85 5 = some (.iload 5, 2, some [false, false, true, true, false, true]) := k_85_5
theorem ml_21 : zML 21 = 5 := by decide +kernel
theorem rt_21 : zRt 21 = some .boolean := by decide +kernel
theorem k_21_0 : zD 21 0 = some (.iload_n 1, 1, none) := by decide +kernel
theorem k_21_1 : zD 21 1 = some (.ifCond .lt (15), 3, none) ∧ zTg 1 (15) = some 16 := by decide +kernel
theorem k_21_16 : zD 21 16 = some (.iconst (0), 1, some [false, false, false, false, false]) := by decide +kernel
theorem k_21_17 : zD 21 17 = some (.ireturn, 1, none) := by decide +kernel
theorem k_21_4 : zD 21 4 = some (.aload_n 0, 1, none) := by decide +kernel
theorem k_21_5 : zD 21 5 = some (.getfield 13, 3, none) ∧ zFl (zOn 21) 13 = some (5, 1) ∧ zFc 5 1 = some 0 := by decide +kernel
theorem k_21_8 : zD 21 8 = some (.iload_n 1, 1, none) := by decide +kernel
theorem k_21_9 : zD 21 9 = some (.iadd, 1, none) := by decide +kernel
theorem k_21_10 : zD 21 10 = some (.sipush (400), 3, none) := by decide +kernel
theorem k_21_13 : zD 21 13 = some (.if_icmp .le (5), 3, none) ∧ zTg 13 (5) = some 18 := by decide +kernel
theorem k_21_18 : zD 21 18 = some (.iconst (0), 1, none) := by decide +kernel
theorem k_21_19 : zD 21 19 = some (.istore 4, 2, none) := by decide +kernel
theorem k_21_21 : zD 21 21 = some (.iload 4, 2, some [true, true, true, false, true]) := by decide +kernel
theorem k_21_23 : zD 21 23 = some (.iload_n 1, 1, none) := by decide +kernel
theorem k_21_24 : zD 21 24 = some (.if_icmp .ge (37), 3, none) ∧ zTg 24 (37) = some 61 := by decide +kernel
theorem k_21_27 : zD 21 27 = some (.aload_n 0, 1, none) := by decide +kernel
theorem k_21_28 : zD 21 28 = some (.getfield 9, 3, none) ∧ zFl (zOn 21) 9 = some (5, 0) ∧ zFc 5 0 = some 3 := by decide +kernel
theorem k_21_31 : zD 21 31 = some (.aload_n 0, 1, none) := by decide +kernel
theorem k_21_32 : zD 21 32 = some (.getfield 13, 3, none) ∧ zFl (zOn 21) 13 = some (5, 1) ∧ zFc 5 1 = some 0 := by decide +kernel
theorem k_21_35 : zD 21 35 = some (.iload 4, 2, none) := by decide +kernel
theorem k_21_37 : zD 21 37 = some (.iadd, 1, none) := by decide +kernel
theorem k_21_38 : zD 21 38 = some (.lload_n 2, 1, none) := by decide +kernel
theorem k_21_39 : zD 21 39 = some (.bipush (8), 2, none) := by decide +kernel
theorem k_21_41 : zD 21 41 = some (.iload_n 1, 1, none) := by decide +kernel
theorem k_21_42 : zD 21 42 = some (.iconst (1), 1, none) := by decide +kernel
theorem k_21_43 : zD 21 43 = some (.isub, 1, none) := by decide +kernel
theorem k_21_44 : zD 21 44 = some (.iload 4, 2, none) := by decide +kernel
theorem k_21_46 : zD 21 46 = some (.isub, 1, none) := by decide +kernel
theorem k_21_47 : zD 21 47 = some (.imul, 1, none) := by decide +kernel
theorem k_21_48 : zD 21 48 = some (.lushr, 1, none) := by decide +kernel
theorem k_21_49 : zD 21 49 = some (.l2i, 1, none) := by decide +kernel
theorem k_21_50 : zD 21 50 = some (.sipush (255), 3, none) := by decide +kernel
theorem k_21_53 : zD 21 53 = some (.iand, 1, none) := by decide +kernel
theorem k_21_54 : zD 21 54 = some (.iastore, 1, none) := by decide +kernel
theorem k_21_55 : zD 21 55 = some (.iinc 4 (1), 3, none) := by decide +kernel
theorem k_21_58 : zD 21 58 = some (.goto (-37), 3, none) ∧ zTg 58 (-37) = some 21 := by decide +kernel
theorem k_21_61 : zD 21 61 = some (.aload_n 0, 1, none) := by decide +kernel
theorem k_21_62 : zD 21 62 = some (.dup, 1, none) := by decide +kernel
theorem k_21_63 : zD 21 63 = some (.getfield 13, 3, none) ∧ zFl (zOn 21) 13 = some (5, 1) ∧ zFc 5 1 = some 0 := by decide +kernel
theorem k_21_66 : zD 21 66 = some (.iload_n 1, 1, none) := by decide +kernel
theorem k_21_67 : zD 21 67 = some (.iadd, 1, none) := by decide +kernel
theorem k_21_68 : zD 21 68 = some (.putfield 13, 3, none) ∧ zFl (zOn 21) 13 = some (5, 1) ∧ zFc 5 1 = some 0 := by decide +kernel
theorem k_21_71 : zD 21 71 = some (.iconst (1), 1, none) := by decide +kernel
theorem k_21_72 : zD 21 72 = some (.ireturn, 1, none) := by decide +kernel
theorem kd_21_16 : zD 21 16 = some (.iconst (0), 1, some [false, false, false, false, false]) := k_21_16
theorem kd_21_21 : zD 21 21 = some (.iload 4, 2, some [true, true, true, false, true]) := k_21_21
theorem ml_8 : zML 8 = 1 := by decide +kernel
theorem rt_8 : zRt 8 = none := by decide +kernel
theorem k_8_0 : zD 8 0 = some (.aload_n 0, 1, none) := by decide +kernel
theorem k_8_1 : zD 8 1 = some (.iconst (0), 1, none) := by decide +kernel
theorem k_8_2 : zD 8 2 = some (.putfield 28, 3, none) ∧ zFl (zOn 8) 28 = some (6, 0) ∧ zFc 6 0 = some 0 := by decide +kernel
theorem k_8_5 : zD 8 5 = some (.aload_n 0, 1, none) := by decide +kernel
theorem k_8_6 : zD 8 6 = some (.iconst (0), 1, none) := by decide +kernel
theorem k_8_7 : zD 8 7 = some (.putfield 32, 3, none) ∧ zFl (zOn 8) 32 = some (6, 1) ∧ zFc 6 1 = some 0 := by decide +kernel
theorem k_8_10 : zD 8 10 = some (.aload_n 0, 1, none) := by decide +kernel
theorem k_8_11 : zD 8 11 = some (.bipush (10), 2, none) := by decide +kernel
theorem k_8_13 : zD 8 13 = some (.putfield 35, 3, none) ∧ zFl (zOn 8) 35 = some (6, 2) ∧ zFc 6 2 = some 0 := by decide +kernel
theorem k_8_16 : zD 8 16 = some (.return_, 1, none) := by decide +kernel
theorem ml_9 : zML 9 = 3 := by decide +kernel
theorem rt_9 : zRt 9 = none := by decide +kernel
theorem k_9_0 : zD 9 0 = some (.iconst (1), 1, none) := by decide +kernel
theorem k_9_1 : zD 9 1 = some (.aload_n 0, 1, none) := by decide +kernel
theorem k_9_2 : zD 9 2 = some (.getfield 28, 3, none) ∧ zFl (zOn 9) 28 = some (6, 0) ∧ zFc 6 0 = some 0 := by decide +kernel
theorem k_9_5 : zD 9 5 = some (.ishl, 1, none) := by decide +kernel
theorem k_9_6 : zD 9 6 = some (.istore_n 1, 1, none) := by decide +kernel
theorem k_9_7 : zD 9 7 = some (.aload_n 0, 1, none) := by decide +kernel
theorem k_9_8 : zD 9 8 = some (.ldc2_w 38, 3, none) ∧ zKc (zOn 9) 38 = some (.inr (-1)) := by decide +kernel
theorem k_9_11 : zD 9 11 = some (.bipush (64), 2, none) := by decide +kernel
theorem k_9_13 : zD 9 13 = some (.iload_n 1, 1, none) := by decide +kernel
theorem k_9_14 : zD 9 14 = some (.isub, 1, none) := by decide +kernel
theorem k_9_15 : zD 9 15 = some (.lushr, 1, none) := by decide +kernel
theorem k_9_16 : zD 9 16 = some (.putfield 42, 3, none) ∧ zFl (zOn 9) 42 = some (6, 8) ∧ zFc 6 8 = some 2 := by decide +kernel
theorem k_9_19 : zD 9 19 = some (.iconst (0), 1, none) := by decide +kernel
theorem k_9_20 : zD 9 20 = some (.istore_n 2, 1, none) := by decide +kernel
theorem k_9_21 : zD 9 21 = some (.iload_n 2, 1, some [true, true, true]) := by decide +kernel
theorem k_9_22 : zD 9 22 = some (.aload_n 0, 1, none) := by decide +kernel
theorem k_9_23 : zD 9 23 = some (.getfield 28, 3, none) ∧ zFl (zOn 9) 28 = some (6, 0) ∧ zFc 6 0 = some 0 := by decide +kernel
theorem k_9_26 : zD 9 26 = some (.if_icmp .ge (63), 3, none) ∧ zTg 26 (63) = some 89 := by decide +kernel
theorem k_9_29 : zD 9 29 = some (.aload_n 0, 1, none) := by decide +kernel
theorem k_9_30 : zD 9 30 = some (.getfield 21, 3, none) ∧ zFl (zOn 9) 21 = some (6, 6) ∧ zFc 6 6 = some 3 := by decide +kernel
theorem k_9_33 : zD 9 33 = some (.iload_n 2, 1, none) := by decide +kernel
theorem k_9_34 : zD 9 34 = some (.aload_n 0, 1, none) := by decide +kernel
theorem k_9_35 : zD 9 35 = some (.getfield 15, 3, none) ∧ zFl (zOn 9) 15 = some (6, 4) ∧ zFc 6 4 = some 3 := by decide +kernel
theorem k_9_38 : zD 9 38 = some (.iload_n 2, 1, none) := by decide +kernel
theorem k_9_39 : zD 9 39 = some (.iaload, 1, none) := by decide +kernel
theorem k_9_40 : zD 9 40 = some (.ifCond .ne (7), 3, none) ∧ zTg 40 (7) = some 47 := by decide +kernel
theorem k_9_43 : zD 9 43 = some (.lconst 0, 1, none) := by decide +kernel
theorem k_9_44 : zD 9 44 = some (.goto (15), 3, none) ∧ zTg 44 (15) = some 59 := by decide +kernel
theorem k_9_47 : zD 9 47 = some (.ldc2_w 38, 3, none) ∧ zKc (zOn 9) 38 = some (.inr (-1)) := by decide +kernel
theorem k_9_50 : zD 9 50 = some (.aload_n 0, 1, none) := by decide +kernel
theorem k_9_51 : zD 9 51 = some (.getfield 15, 3, none) ∧ zFl (zOn 9) 15 = some (6, 4) ∧ zFc 6 4 = some 3 := by decide +kernel
theorem k_9_54 : zD 9 54 = some (.iload_n 2, 1, none) := by decide +kernel
theorem k_9_55 : zD 9 55 = some (.iaload, 1, none) := by decide +kernel
theorem k_9_56 : zD 9 56 = some (.invokestatic 46, 3, none) ∧ zAt.lookup (zOn 9, 46) = none ∧ zCk (zOn 9) 46 = some (1, 10) ∧ (1 = 1 ∨ 1 = 3) ∧ zNp 10 = 2 ∧ zML 10 = 6 ∧ zRt 10 = some .long := by decide +kernel
theorem k_9_89 : zD 9 89 = some (.iconst (0), 1, none) := by decide +kernel
theorem k_9_90 : zD 9 90 = some (.istore_n 2, 1, none) := by decide +kernel
theorem k_9_59 : zD 9 59 = some (.lastore, 1, some [true, true, true]) := by decide +kernel
theorem k_9_60 : zD 9 60 = some (.aload_n 0, 1, none) := by decide +kernel
theorem k_9_61 : zD 9 61 = some (.dup, 1, none) := by decide +kernel
theorem k_9_62 : zD 9 62 = some (.getfield 42, 3, none) ∧ zFl (zOn 9) 42 = some (6, 8) ∧ zFc 6 8 = some 2 := by decide +kernel
theorem k_9_65 : zD 9 65 = some (.aload_n 0, 1, none) := by decide +kernel
theorem k_9_66 : zD 9 66 = some (.getfield 21, 3, none) ∧ zFl (zOn 9) 21 = some (6, 6) ∧ zFc 6 6 = some 3 := by decide +kernel
theorem k_9_69 : zD 9 69 = some (.iload_n 2, 1, none) := by decide +kernel
theorem k_9_70 : zD 9 70 = some (.laload, 1, none) := by decide +kernel
theorem k_9_71 : zD 9 71 = some (.iload_n 2, 1, none) := by decide +kernel
theorem k_9_72 : zD 9 72 = some (.invokestatic 50, 3, none) ∧ zAt.lookup (zOn 9, 50) = none ∧ zCk (zOn 9) 50 = some (1, 13) ∧ (1 = 1 ∨ 1 = 3) ∧ zNp 13 = 2 ∧ zML 13 = 3 ∧ zRt 13 = some .long := by decide +kernel
theorem k_9_75 : zD 9 75 = some (.ldc2_w 38, 3, none) ∧ zKc (zOn 9) 38 = some (.inr (-1)) := by decide +kernel
theorem k_9_78 : zD 9 78 = some (.lxor, 1, none) := by decide +kernel
theorem k_9_79 : zD 9 79 = some (.land, 1, none) := by decide +kernel
theorem k_9_80 : zD 9 80 = some (.putfield 42, 3, none) ∧ zFl (zOn 9) 42 = some (6, 8) ∧ zFc 6 8 = some 2 := by decide +kernel
theorem k_9_83 : zD 9 83 = some (.iinc 2 (1), 3, none) := by decide +kernel
theorem k_9_86 : zD 9 86 = some (.goto (-65), 3, none) ∧ zTg 86 (-65) = some 21 := by decide +kernel
theorem k_9_91 : zD 9 91 = some (.iload_n 2, 1, some [true, true, true]) := by decide +kernel
theorem k_9_92 : zD 9 92 = some (.bipush (99), 2, none) := by decide +kernel
theorem k_9_94 : zD 9 94 = some (.if_icmp .ge (16), 3, none) ∧ zTg 94 (16) = some 110 := by decide +kernel
theorem k_9_97 : zD 9 97 = some (.aload_n 0, 1, none) := by decide +kernel
theorem k_9_98 : zD 9 98 = some (.getfield 25, 3, none) ∧ zFl (zOn 9) 25 = some (6, 7) ∧ zFc 6 7 = some 3 := by decide +kernel
theorem k_9_101 : zD 9 101 = some (.iload_n 2, 1, none) := by decide +kernel
theorem k_9_102 : zD 9 102 = some (.lconst 0, 1, none) := by decide +kernel
theorem k_9_103 : zD 9 103 = some (.lastore, 1, none) := by decide +kernel
theorem k_9_104 : zD 9 104 = some (.iinc 2 (1), 3, none) := by decide +kernel
theorem k_9_107 : zD 9 107 = some (.goto (-16), 3, none) ∧ zTg 107 (-16) = some 91 := by decide +kernel
theorem k_9_110 : zD 9 110 = some (.iconst (0), 1, none) := by decide +kernel
theorem k_9_111 : zD 9 111 = some (.istore_n 2, 1, none) := by decide +kernel
theorem k_9_112 : zD 9 112 = some (.iload_n 2, 1, some [true, true, true]) := by decide +kernel
theorem k_9_113 : zD 9 113 = some (.iload_n 1, 1, none) := by decide +kernel
theorem k_9_114 : zD 9 114 = some (.if_icmp .ge (36), 3, none) ∧ zTg 114 (36) = some 150 := by decide +kernel
theorem k_9_117 : zD 9 117 = some (.aload_n 0, 1, none) := by decide +kernel
theorem k_9_118 : zD 9 118 = some (.getfield 42, 3, none) ∧ zFl (zOn 9) 42 = some (6, 8) ∧ zFc 6 8 = some 2 := by decide +kernel
theorem k_9_121 : zD 9 121 = some (.iload_n 2, 1, none) := by decide +kernel
theorem k_9_122 : zD 9 122 = some (.invokestatic 53, 3, none) ∧ zAt.lookup (zOn 9, 53) = none ∧ zCk (zOn 9) 53 = some (1, 14) ∧ (1 = 1 ∨ 1 = 3) ∧ zNp 14 = 2 ∧ zML 14 = 3 ∧ (zRt 14 = some .int ∨ zRt 14 = some .boolean ∨ zRt 14 = some .char ∨ zRt 14 = some .byte) := by decide +kernel
theorem k_9_125 : zD 9 125 = some (.ifCond .eq (19), 3, none) ∧ zTg 125 (19) = some 144 := by decide +kernel
theorem k_9_144 : zD 9 144 = some (.iinc 2 (1), 3, some [true, true, true]) := by decide +kernel
theorem k_9_147 : zD 9 147 = some (.goto (-35), 3, none) ∧ zTg 147 (-35) = some 112 := by decide +kernel
theorem k_9_128 : zD 9 128 = some (.aload_n 0, 1, none) := by decide +kernel
theorem k_9_129 : zD 9 129 = some (.getfield 25, 3, none) ∧ zFl (zOn 9) 25 = some (6, 7) ∧ zFc 6 7 = some 3 := by decide +kernel
theorem k_9_132 : zD 9 132 = some (.aload_n 0, 1, none) := by decide +kernel
theorem k_9_133 : zD 9 133 = some (.iload_n 2, 1, none) := by decide +kernel
theorem k_9_134 : zD 9 134 = some (.invokevirtual 57, 3, none) ∧ zCk (zOn 9) 57 = some (0, 15) ∧ zNp 15 = 1 ∧ zML 15 = 2 ∧ zCo[6]? = some (zOn 15) ∧ (zRt 15 = some .int ∨ zRt 15 = some .boolean ∨ zRt 15 = some .char ∨ zRt 15 = some .byte) := by decide +kernel
theorem k_9_137 : zD 9 137 = some (.dup2, 1, none) := by decide +kernel
theorem k_9_138 : zD 9 138 = some (.laload, 1, none) := by decide +kernel
theorem k_9_139 : zD 9 139 = some (.lconst 1, 1, none) := by decide +kernel
theorem k_9_140 : zD 9 140 = some (.iload_n 2, 1, none) := by decide +kernel
theorem k_9_141 : zD 9 141 = some (.lshl, 1, none) := by decide +kernel
theorem k_9_142 : zD 9 142 = some (.lor, 1, none) := by decide +kernel
theorem k_9_143 : zD 9 143 = some (.lastore, 1, none) := by decide +kernel
theorem k_9_150 : zD 9 150 = some (.return_, 1, none) := by decide +kernel
theorem kd_9_21 : zD 9 21 = some (.iload_n 2, 1, some [true, true, true]) := k_9_21
theorem kd_9_59 : zD 9 59 = some (.lastore, 1, some [true, true, true]) := k_9_59
theorem kd_9_91 : zD 9 91 = some (.iload_n 2, 1, some [true, true, true]) := k_9_91
theorem kd_9_112 : zD 9 112 = some (.iload_n 2, 1, some [true, true, true]) := k_9_112
theorem ml_15 : zML 15 = 2 := by decide +kernel
theorem rt_15 : zRt 15 = some .int := by decide +kernel
theorem k_15_0 : zD 15 0 = some (.aload_n 0, 1, none) := by decide +kernel
theorem k_15_1 : zD 15 1 = some (.getfield 35, 3, none) ∧ zFl (zOn 15) 35 = some (6, 2) ∧ zFc 6 2 = some 0 := by decide +kernel
theorem k_15_4 : zD 15 4 = some (.ifCond .le (25), 3, none) ∧ zTg 4 (25) = some 29 := by decide +kernel
theorem k_15_7 : zD 15 7 = some (.aload_n 0, 1, none) := by decide +kernel
theorem k_15_8 : zD 15 8 = some (.getfield 35, 3, none) ∧ zFl (zOn 15) 35 = some (6, 2) ∧ zFc 6 2 = some 0 := by decide +kernel
theorem k_15_11 : zD 15 11 = some (.bipush (99), 2, none) := by decide +kernel
theorem k_15_13 : zD 15 13 = some (.if_icmp .gt (16), 3, none) ∧ zTg 13 (16) = some 29 := by decide +kernel
theorem k_15_29 : zD 15 29 = some (.iconst (0), 1, some [false, false]) := by decide +kernel
theorem k_15_30 : zD 15 30 = some (.ireturn, 1, some [false, false]) := by decide +kernel
theorem k_15_16 : zD 15 16 = some (.aload_n 0, 1, none) := by decide +kernel
theorem k_15_17 : zD 15 17 = some (.iload_n 1, 1, none) := by decide +kernel
theorem k_15_18 : zD 15 18 = some (.invokevirtual 65, 3, none) ∧ zCk (zOn 15) 65 = some (0, 16) ∧ zNp 16 = 1 ∧ zML 16 = 4 ∧ zCo[6]? = some (zOn 16) ∧ (zRt 16 = some .int ∨ zRt 16 = some .boolean ∨ zRt 16 = some .char ∨ zRt 16 = some .byte) := by decide +kernel
theorem k_15_21 : zD 15 21 = some (.aload_n 0, 1, none) := by decide +kernel
theorem k_15_22 : zD 15 22 = some (.getfield 35, 3, none) ∧ zFl (zOn 15) 35 = some (6, 2) ∧ zFc 6 2 = some 0 := by decide +kernel
theorem k_15_25 : zD 15 25 = some (.irem, 1, none) := by decide +kernel
theorem k_15_26 : zD 15 26 = some (.goto (4), 3, none) ∧ zTg 26 (4) = some 30 := by decide +kernel
theorem kd_15_29 : zD 15 29 = some (.iconst (0), 1, some [false, false]) := k_15_29
theorem kd_15_30 : zD 15 30 = some (.ireturn, 1, some [false, false]) := k_15_30
theorem ml_16 : zML 16 = 4 := by decide +kernel
theorem rt_16 : zRt 16 = some .int := by decide +kernel
theorem k_16_0 : zD 16 0 = some (.iconst (0), 1, none) := by decide +kernel
theorem k_16_1 : zD 16 1 = some (.istore_n 2, 1, none) := by decide +kernel
theorem k_16_2 : zD 16 2 = some (.iconst (0), 1, none) := by decide +kernel
theorem k_16_3 : zD 16 3 = some (.istore_n 3, 1, none) := by decide +kernel
theorem k_16_4 : zD 16 4 = some (.iload_n 3, 1, some [true, true, true, true]) := by decide +kernel
theorem k_16_5 : zD 16 5 = some (.aload_n 0, 1, none) := by decide +kernel
theorem k_16_6 : zD 16 6 = some (.getfield 28, 3, none) ∧ zFl (zOn 16) 28 = some (6, 0) ∧ zFc 6 0 = some 0 := by decide +kernel
theorem k_16_9 : zD 16 9 = some (.if_icmp .ge (26), 3, none) ∧ zTg 9 (26) = some 35 := by decide +kernel
theorem k_16_12 : zD 16 12 = some (.iload_n 1, 1, none) := by decide +kernel
theorem k_16_13 : zD 16 13 = some (.iload_n 3, 1, none) := by decide +kernel
theorem k_16_14 : zD 16 14 = some (.invokestatic 61, 3, none) ∧ zAt.lookup (zOn 16, 61) = none ∧ zCk (zOn 16) 61 = some (3, 11) ∧ (3 = 1 ∨ 3 = 3) ∧ zNp 11 = 2 ∧ zML 11 = 2 ∧ (zRt 11 = some .int ∨ zRt 11 = some .boolean ∨ zRt 11 = some .char ∨ zRt 11 = some .byte) := by decide +kernel
theorem k_16_17 : zD 16 17 = some (.ifCond .eq (12), 3, none) ∧ zTg 17 (12) = some 29 := by decide +kernel
theorem k_16_29 : zD 16 29 = some (.iinc 3 (1), 3, some [true, true, true, true]) := by decide +kernel
theorem k_16_32 : zD 16 32 = some (.goto (-28), 3, none) ∧ zTg 32 (-28) = some 4 := by decide +kernel
theorem k_16_20 : zD 16 20 = some (.iload_n 2, 1, none) := by decide +kernel
theorem k_16_21 : zD 16 21 = some (.aload_n 0, 1, none) := by decide +kernel
theorem k_16_22 : zD 16 22 = some (.getfield 9, 3, none) ∧ zFl (zOn 16) 9 = some (6, 3) ∧ zFc 6 3 = some 3 := by decide +kernel
theorem k_16_25 : zD 16 25 = some (.iload_n 3, 1, none) := by decide +kernel
theorem k_16_26 : zD 16 26 = some (.iaload, 1, none) := by decide +kernel
theorem k_16_27 : zD 16 27 = some (.iadd, 1, none) := by decide +kernel
theorem k_16_28 : zD 16 28 = some (.istore_n 2, 1, none) := by decide +kernel
theorem k_16_35 : zD 16 35 = some (.iload_n 2, 1, none) := by decide +kernel
theorem k_16_36 : zD 16 36 = some (.ireturn, 1, none) := by decide +kernel
theorem kd_16_4 : zD 16 4 = some (.iload_n 3, 1, some [true, true, true, true]) := k_16_4
theorem ml_18 : zML 18 = 4 := by decide +kernel
theorem rt_18 : zRt 18 = some .int := by decide +kernel
theorem k_18_0 : zD 18 0 = some (.iload_n 1, 1, none) := by decide +kernel
theorem k_18_1 : zD 18 1 = some (.istore_n 2, 1, none) := by decide +kernel
theorem k_18_2 : zD 18 2 = some (.iconst (0), 1, none) := by decide +kernel
theorem k_18_3 : zD 18 3 = some (.istore_n 3, 1, none) := by decide +kernel
theorem k_18_4 : zD 18 4 = some (.iload_n 3, 1, some [true, false, true, true]) := by decide +kernel
theorem k_18_5 : zD 18 5 = some (.aload_n 0, 1, none) := by decide +kernel
theorem k_18_6 : zD 18 6 = some (.getfield 28, 3, none) ∧ zFl (zOn 18) 28 = some (6, 0) ∧ zFc 6 0 = some 0 := by decide +kernel
theorem k_18_9 : zD 18 9 = some (.if_icmp .ge (41), 3, none) ∧ zTg 9 (41) = some 50 := by decide +kernel
theorem k_18_12 : zD 18 12 = some (.aload_n 0, 1, none) := by decide +kernel
theorem k_18_13 : zD 18 13 = some (.getfield 15, 3, none) ∧ zFl (zOn 18) 15 = some (6, 4) ∧ zFc 6 4 = some 3 := by decide +kernel
theorem k_18_16 : zD 18 16 = some (.iload_n 3, 1, none) := by decide +kernel
theorem k_18_17 : zD 18 17 = some (.iaload, 1, none) := by decide +kernel
theorem k_18_18 : zD 18 18 = some (.ifCond .eq (26), 3, none) ∧ zTg 18 (26) = some 44 := by decide +kernel
theorem k_18_44 : zD 18 44 = some (.iinc 3 (1), 3, some [true, false, true, true]) := by decide +kernel
theorem k_18_47 : zD 18 47 = some (.goto (-43), 3, none) ∧ zTg 47 (-43) = some 4 := by decide +kernel
theorem k_18_21 : zD 18 21 = some (.iload_n 2, 1, none) := by decide +kernel
theorem k_18_22 : zD 18 22 = some (.aload_n 0, 1, none) := by decide +kernel
theorem k_18_23 : zD 18 23 = some (.getfield 15, 3, none) ∧ zFl (zOn 18) 15 = some (6, 4) ∧ zFc 6 4 = some 3 := by decide +kernel
theorem k_18_26 : zD 18 26 = some (.iload_n 3, 1, none) := by decide +kernel
theorem k_18_27 : zD 18 27 = some (.iaload, 1, none) := by decide +kernel
theorem k_18_28 : zD 18 28 = some (.iand, 1, none) := by decide +kernel
theorem k_18_29 : zD 18 29 = some (.aload_n 0, 1, none) := by decide +kernel
theorem k_18_30 : zD 18 30 = some (.getfield 15, 3, none) ∧ zFl (zOn 18) 15 = some (6, 4) ∧ zFc 6 4 = some 3 := by decide +kernel
theorem k_18_33 : zD 18 33 = some (.iload_n 3, 1, none) := by decide +kernel
theorem k_18_34 : zD 18 34 = some (.iaload, 1, none) := by decide +kernel
theorem k_18_35 : zD 18 35 = some (.if_icmp .ne (9), 3, none) ∧ zTg 35 (9) = some 44 := by decide +kernel
theorem k_18_38 : zD 18 38 = some (.iload_n 2, 1, none) := by decide +kernel
theorem k_18_39 : zD 18 39 = some (.iconst (1), 1, none) := by decide +kernel
theorem k_18_40 : zD 18 40 = some (.iload_n 3, 1, none) := by decide +kernel
theorem k_18_41 : zD 18 41 = some (.ishl, 1, none) := by decide +kernel
theorem k_18_42 : zD 18 42 = some (.ior, 1, none) := by decide +kernel
theorem k_18_43 : zD 18 43 = some (.istore_n 2, 1, none) := by decide +kernel
theorem k_18_50 : zD 18 50 = some (.iload_n 2, 1, none) := by decide +kernel
theorem k_18_51 : zD 18 51 = some (.ireturn, 1, none) := by decide +kernel
theorem kd_18_4 : zD 18 4 = some (.iload_n 3, 1, some [true, false, true, true]) := k_18_4
theorem ml_19 : zML 19 = 2 := by decide +kernel
theorem rt_19 : zRt 19 = some .long := by decide +kernel
theorem k_19_0 : zD 19 0 = some (.iload_n 1, 1, none) := by decide +kernel
theorem k_19_1 : zD 19 1 = some (.ifCond .lt (18), 3, none) ∧ zTg 1 (18) = some 19 := by decide +kernel
theorem k_19_19 : zD 19 19 = some (.lconst 0, 1, some [false, false]) := by decide +kernel
theorem k_19_20 : zD 19 20 = some (.lreturn, 1, some [false, false]) := by decide +kernel
theorem k_19_4 : zD 19 4 = some (.iload_n 1, 1, none) := by decide +kernel
theorem k_19_5 : zD 19 5 = some (.bipush (99), 2, none) := by decide +kernel
theorem k_19_7 : zD 19 7 = some (.if_icmp .ge (12), 3, none) ∧ zTg 7 (12) = some 19 := by decide +kernel
theorem k_19_10 : zD 19 10 = some (.aload_n 0, 1, none) := by decide +kernel
theorem k_19_11 : zD 19 11 = some (.getfield 25, 3, none) ∧ zFl (zOn 19) 25 = some (6, 7) ∧ zFc 6 7 = some 3 := by decide +kernel
theorem k_19_14 : zD 19 14 = some (.iload_n 1, 1, none) := by decide +kernel
theorem k_19_15 : zD 19 15 = some (.laload, 1, none) := by decide +kernel
theorem k_19_16 : zD 19 16 = some (.goto (4), 3, none) ∧ zTg 16 (4) = some 20 := by decide +kernel
theorem kd_19_19 : zD 19 19 = some (.lconst 0, 1, some [false, false]) := k_19_19
theorem kd_19_20 : zD 19 20 = some (.lreturn, 1, some [false, false]) := k_19_20
theorem ml_45 : zML 45 = 3 := by decide +kernel
theorem rt_45 : zRt 45 = none := by decide +kernel
theorem k_45_0 : zD 45 0 = some (.aload_n 0, 1, none) := by decide +kernel
theorem k_45_1 : zD 45 1 = some (.getfield 28, 3, none) ∧ zFl (zOn 45) 28 = some (6, 0) ∧ zFc 6 0 = some 0 := by decide +kernel
theorem k_45_4 : zD 45 4 = some (.bipush (6), 2, none) := by decide +kernel
theorem k_45_6 : zD 45 6 = some (.if_icmp .ge (33), 3, none) ∧ zTg 6 (33) = some 39 := by decide +kernel
theorem k_45_9 : zD 45 9 = some (.aload_n 0, 1, none) := by decide +kernel
theorem k_45_10 : zD 45 10 = some (.getfield 9, 3, none) ∧ zFl (zOn 45) 9 = some (6, 3) ∧ zFc 6 3 = some 3 := by decide +kernel
theorem k_45_13 : zD 45 13 = some (.aload_n 0, 1, none) := by decide +kernel
theorem k_45_14 : zD 45 14 = some (.getfield 28, 3, none) ∧ zFl (zOn 45) 28 = some (6, 0) ∧ zFc 6 0 = some 0 := by decide +kernel
theorem k_45_17 : zD 45 17 = some (.iload_n 1, 1, none) := by decide +kernel
theorem k_45_18 : zD 45 18 = some (.iastore, 1, none) := by decide +kernel
theorem k_45_19 : zD 45 19 = some (.aload_n 0, 1, none) := by decide +kernel
theorem k_45_20 : zD 45 20 = some (.getfield 15, 3, none) ∧ zFl (zOn 45) 15 = some (6, 4) ∧ zFc 6 4 = some 3 := by decide +kernel
theorem k_45_23 : zD 45 23 = some (.aload_n 0, 1, none) := by decide +kernel
theorem k_45_24 : zD 45 24 = some (.getfield 28, 3, none) ∧ zFl (zOn 45) 28 = some (6, 0) ∧ zFc 6 0 = some 0 := by decide +kernel
theorem k_45_27 : zD 45 27 = some (.iload_n 2, 1, none) := by decide +kernel
theorem k_45_28 : zD 45 28 = some (.iastore, 1, none) := by decide +kernel
theorem k_45_29 : zD 45 29 = some (.aload_n 0, 1, none) := by decide +kernel
theorem k_45_30 : zD 45 30 = some (.dup, 1, none) := by decide +kernel
theorem k_45_31 : zD 45 31 = some (.getfield 28, 3, none) ∧ zFl (zOn 45) 28 = some (6, 0) ∧ zFc 6 0 = some 0 := by decide +kernel
theorem k_45_34 : zD 45 34 = some (.iconst (1), 1, none) := by decide +kernel
theorem k_45_35 : zD 45 35 = some (.iadd, 1, none) := by decide +kernel
theorem k_45_36 : zD 45 36 = some (.putfield 28, 3, none) ∧ zFl (zOn 45) 28 = some (6, 0) ∧ zFc 6 0 = some 0 := by decide +kernel
theorem k_45_39 : zD 45 39 = some (.return_, 1, some [false, false, false]) := by decide +kernel
theorem kd_45_39 : zD 45 39 = some (.return_, 1, some [false, false, false]) := k_45_39
theorem ml_47 : zML 47 = 2 := by decide +kernel
theorem rt_47 : zRt 47 = none := by decide +kernel
theorem k_47_0 : zD 47 0 = some (.aload_n 0, 1, none) := by decide +kernel
theorem k_47_1 : zD 47 1 = some (.getfield 32, 3, none) ∧ zFl (zOn 47) 32 = some (6, 1) ∧ zFc 6 1 = some 0 := by decide +kernel
theorem k_47_4 : zD 47 4 = some (.iconst (5), 1, none) := by decide +kernel
theorem k_47_5 : zD 47 5 = some (.if_icmp .ge (23), 3, none) ∧ zTg 5 (23) = some 28 := by decide +kernel
theorem k_47_8 : zD 47 8 = some (.aload_n 0, 1, none) := by decide +kernel
theorem k_47_9 : zD 47 9 = some (.getfield 18, 3, none) ∧ zFl (zOn 47) 18 = some (6, 5) ∧ zFc 6 5 = some 3 := by decide +kernel
theorem k_47_12 : zD 47 12 = some (.aload_n 0, 1, none) := by decide +kernel
theorem k_47_13 : zD 47 13 = some (.getfield 32, 3, none) ∧ zFl (zOn 47) 32 = some (6, 1) ∧ zFc 6 1 = some 0 := by decide +kernel
theorem k_47_16 : zD 47 16 = some (.iload_n 1, 1, none) := by decide +kernel
theorem k_47_17 : zD 47 17 = some (.iastore, 1, none) := by decide +kernel
theorem k_47_18 : zD 47 18 = some (.aload_n 0, 1, none) := by decide +kernel
theorem k_47_19 : zD 47 19 = some (.dup, 1, none) := by decide +kernel
theorem k_47_20 : zD 47 20 = some (.getfield 32, 3, none) ∧ zFl (zOn 47) 32 = some (6, 1) ∧ zFc 6 1 = some 0 := by decide +kernel
theorem k_47_23 : zD 47 23 = some (.iconst (1), 1, none) := by decide +kernel
theorem k_47_24 : zD 47 24 = some (.iadd, 1, none) := by decide +kernel
theorem k_47_25 : zD 47 25 = some (.putfield 32, 3, none) ∧ zFl (zOn 47) 32 = some (6, 1) ∧ zFc 6 1 = some 0 := by decide +kernel
theorem k_47_28 : zD 47 28 = some (.return_, 1, some [false, false]) := by decide +kernel
theorem kd_47_28 : zD 47 28 = some (.return_, 1, some [false, false]) := k_47_28
theorem ml_79 : zML 79 = 5 := by decide +kernel
theorem rt_79 : zRt 79 = some .long := by decide +kernel
theorem k_79_0 : zD 79 0 = some (.aload_n 0, 1, none) := by decide +kernel
theorem k_79_1 : zD 79 1 = some (.iload 4, 2, none) := by decide +kernel
theorem k_79_3 : zD 79 3 = some (.ifCond .eq (11), 3, none) ∧ zTg 3 (11) = some 14 := by decide +kernel
theorem k_79_14 : zD 79 14 = some (.lload_n 1, 1, none) := by decide +kernel
theorem k_79_15 : zD 79 15 = some (.iload_n 3, 1, none) := by decide +kernel
theorem k_79_16 : zD 79 16 = some (.invokestatic 50, 3, none) ∧ zAt.lookup (zOn 79, 50) = none ∧ zCk (zOn 79) 50 = some (1, 13) ∧ (1 = 1 ∨ 1 = 3) ∧ zNp 13 = 2 ∧ zML 13 = 3 ∧ zRt 13 = some .long := by decide +kernel
theorem k_79_19 : zD 79 19 = some (.iload_n 3, 1, some [false, false, false, true, false]) := by decide +kernel
theorem k_79_20 : zD 79 20 = some (.invokevirtual 74, 3, none) ∧ zCk (zOn 79) 74 = some (0, 80) ∧ zNp 80 = 2 ∧ zML 80 = 9 ∧ zCo[6]? = some (zOn 80) ∧ zRt 80 = some .long := by decide +kernel
theorem k_79_23 : zD 79 23 = some (.lreturn, 1, none) := by decide +kernel
theorem k_79_6 : zD 79 6 = some (.lload_n 1, 1, none) := by decide +kernel
theorem k_79_7 : zD 79 7 = some (.iload_n 3, 1, none) := by decide +kernel
theorem k_79_8 : zD 79 8 = some (.invokestatic 71, 3, none) ∧ zAt.lookup (zOn 79, 71) = none ∧ zCk (zOn 79) 71 = some (1, 12) ∧ (1 = 1 ∨ 1 = 3) ∧ zNp 12 = 2 ∧ zML 12 = 3 ∧ zRt 12 = some .long := by decide +kernel
theorem k_79_11 : zD 79 11 = some (.goto (8), 3, none) ∧ zTg 11 (8) = some 19 := by decide +kernel
theorem kd_79_19 : zD 79 19 = some (.iload_n 3, 1, some [false, false, false, true, false]) := k_79_19
theorem ml_80 : zML 80 = 9 := by decide +kernel
theorem rt_80 : zRt 80 = some .long := by decide +kernel
theorem k_80_0 : zD 80 0 = some (.lload_n 1, 1, none) := by decide +kernel
theorem k_80_1 : zD 80 1 = some (.iload_n 3, 1, none) := by decide +kernel
theorem k_80_2 : zD 80 2 = some (.invokestatic 68, 3, none) ∧ zAt.lookup (zOn 80, 68) = none ∧ zCk (zOn 80) 68 = some (1, 81) ∧ (1 = 1 ∨ 1 = 3) ∧ zNp 81 = 2 ∧ zML 81 = 3 ∧ zRt 81 = some .long := by decide +kernel
theorem k_80_5 : zD 80 5 = some (.lstore 4, 2, none) := by decide +kernel
theorem k_80_7 : zD 80 7 = some (.iconst (0), 1, none) := by decide +kernel
theorem k_80_8 : zD 80 8 = some (.istore 6, 2, none) := by decide +kernel
theorem k_80_10 : zD 80 10 = some (.iload 6, 2, some [true, false, false, false, true, false, true, false, false]) := by decide +kernel
theorem k_80_12 : zD 80 12 = some (.aload_n 0, 1, none) := by decide +kernel
theorem k_80_13 : zD 80 13 = some (.getfield 28, 3, none) ∧ zFl (zOn 80) 28 = some (6, 0) ∧ zFc 6 0 = some 0 := by decide +kernel
theorem k_80_16 : zD 80 16 = some (.if_icmp .ge (45), 3, none) ∧ zTg 16 (45) = some 61 := by decide +kernel
theorem k_80_19 : zD 80 19 = some (.lload 4, 2, none) := by decide +kernel
theorem k_80_21 : zD 80 21 = some (.aload_n 0, 1, none) := by decide +kernel
theorem k_80_22 : zD 80 22 = some (.getfield 21, 3, none) ∧ zFl (zOn 80) 21 = some (6, 6) ∧ zFc 6 6 = some 3 := by decide +kernel
theorem k_80_25 : zD 80 25 = some (.iload 6, 2, none) := by decide +kernel
theorem k_80_27 : zD 80 27 = some (.laload, 1, none) := by decide +kernel
theorem k_80_28 : zD 80 28 = some (.land, 1, none) := by decide +kernel
theorem k_80_29 : zD 80 29 = some (.iload 6, 2, none) := by decide +kernel
theorem k_80_31 : zD 80 31 = some (.invokestatic 50, 3, none) ∧ zAt.lookup (zOn 80, 50) = none ∧ zCk (zOn 80) 50 = some (1, 13) ∧ (1 = 1 ∨ 1 = 3) ∧ zNp 13 = 2 ∧ zML 13 = 3 ∧ zRt 13 = some .long := by decide +kernel
theorem k_80_34 : zD 80 34 = some (.lstore 7, 2, none) := by decide +kernel
theorem k_80_36 : zD 80 36 = some (.lload 4, 2, none) := by decide +kernel
theorem k_80_38 : zD 80 38 = some (.lload 7, 2, none) := by decide +kernel
theorem k_80_40 : zD 80 40 = some (.ldc2_w 38, 3, none) ∧ zKc (zOn 80) 38 = some (.inr (-1)) := by decide +kernel
theorem k_80_43 : zD 80 43 = some (.lxor, 1, none) := by decide +kernel
theorem k_80_44 : zD 80 44 = some (.land, 1, none) := by decide +kernel
theorem k_80_45 : zD 80 45 = some (.lload 7, 2, none) := by decide +kernel
theorem k_80_47 : zD 80 47 = some (.iload 6, 2, none) := by decide +kernel
theorem k_80_49 : zD 80 49 = some (.invokestatic 68, 3, none) ∧ zAt.lookup (zOn 80, 68) = none ∧ zCk (zOn 80) 68 = some (1, 81) ∧ (1 = 1 ∨ 1 = 3) ∧ zNp 81 = 2 ∧ zML 81 = 3 ∧ zRt 81 = some .long := by decide +kernel
theorem k_80_52 : zD 80 52 = some (.lor, 1, none) := by decide +kernel
theorem k_80_53 : zD 80 53 = some (.lstore 4, 2, none) := by decide +kernel
theorem k_80_55 : zD 80 55 = some (.iinc 6 (1), 3, none) := by decide +kernel
theorem k_80_58 : zD 80 58 = some (.goto (-48), 3, none) ∧ zTg 58 (-48) = some 10 := by decide +kernel
theorem k_80_61 : zD 80 61 = some (.lload 4, 2, none) := by decide +kernel
theorem k_80_63 : zD 80 63 = some (.lreturn, 1, none) := by decide +kernel
theorem kd_80_10 : zD 80 10 = some (.iload 6, 2, some [true, false, false, false, true, false, true, false, false]) := k_80_10
theorem ml_93 : zML 93 = 3 := by decide +kernel
theorem rt_93 : zRt 93 = some .int := by decide +kernel
theorem k_93_0 : zD 93 0 = some (.iconst (0), 1, none) := by decide +kernel
theorem k_93_1 : zD 93 1 = some (.istore_n 1, 1, none) := by decide +kernel
theorem k_93_2 : zD 93 2 = some (.iconst (0), 1, none) := by decide +kernel
theorem k_93_3 : zD 93 3 = some (.istore_n 2, 1, none) := by decide +kernel
theorem k_93_4 : zD 93 4 = some (.iload_n 2, 1, some [true, true, true]) := by decide +kernel
theorem k_93_5 : zD 93 5 = some (.aload_n 0, 1, none) := by decide +kernel
theorem k_93_6 : zD 93 6 = some (.getfield 28, 3, none) ∧ zFl (zOn 93) 28 = some (6, 0) ∧ zFc 6 0 = some 0 := by decide +kernel
theorem k_93_9 : zD 93 9 = some (.if_icmp .ge (24), 3, none) ∧ zTg 9 (24) = some 33 := by decide +kernel
theorem k_93_12 : zD 93 12 = some (.aload_n 0, 1, none) := by decide +kernel
theorem k_93_13 : zD 93 13 = some (.getfield 15, 3, none) ∧ zFl (zOn 93) 15 = some (6, 4) ∧ zFc 6 4 = some 3 := by decide +kernel
theorem k_93_16 : zD 93 16 = some (.iload_n 2, 1, none) := by decide +kernel
theorem k_93_17 : zD 93 17 = some (.iaload, 1, none) := by decide +kernel
theorem k_93_18 : zD 93 18 = some (.ifCond .eq (9), 3, none) ∧ zTg 18 (9) = some 27 := by decide +kernel
theorem k_93_27 : zD 93 27 = some (.iinc 2 (1), 3, some [true, true, true]) := by decide +kernel
theorem k_93_30 : zD 93 30 = some (.goto (-26), 3, none) ∧ zTg 30 (-26) = some 4 := by decide +kernel
theorem k_93_21 : zD 93 21 = some (.iload_n 1, 1, none) := by decide +kernel
theorem k_93_22 : zD 93 22 = some (.iconst (1), 1, none) := by decide +kernel
theorem k_93_23 : zD 93 23 = some (.iload_n 2, 1, none) := by decide +kernel
theorem k_93_24 : zD 93 24 = some (.ishl, 1, none) := by decide +kernel
theorem k_93_25 : zD 93 25 = some (.ior, 1, none) := by decide +kernel
theorem k_93_26 : zD 93 26 = some (.istore_n 1, 1, none) := by decide +kernel
theorem k_93_33 : zD 93 33 = some (.iload_n 1, 1, none) := by decide +kernel
theorem k_93_34 : zD 93 34 = some (.ireturn, 1, none) := by decide +kernel
theorem kd_93_4 : zD 93 4 = some (.iload_n 2, 1, some [true, true, true]) := k_93_4

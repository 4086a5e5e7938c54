theorem ml_17 : zML 17 = 4 := by decide +kernel
theorem rt_17 : zRt 17 = none := by decide +kernel
theorem k_17_0 : zD 17 0 = some (.iconst (0), 1, none) := by decide +kernel
theorem k_17_1 : zD 17 1 = some (.istore_n 2, 1, none) := by decide +kernel
theorem k_17_2 : zD 17 2 = some (.iload_n 2, 1, some [true, true, true, false]) := by decide +kernel
theorem k_17_3 : zD 17 3 = some (.aload_n 1, 1, none) := by decide +kernel
theorem k_17_4 : zD 17 4 = some (.getfield 41, 3, none) ∧ zFl (zOn 17) 41 = some (6, 1) ∧ zFc 6 1 = some 0 := by decide +kernel
theorem k_17_7 : zD 17 7 = some (.if_icmp .ge (48), 3, none) ∧ zTg 7 (48) = some 55 := by decide +kernel
theorem k_17_10 : zD 17 10 = some (.aload_n 0, 1, none) := by decide +kernel
theorem k_17_11 : zD 17 11 = some (.getfield 9, 3, none) ∧ zFl (zOn 17) 9 = some (4, 0) ∧ zFc 4 0 = some 3 := by decide +kernel
theorem k_17_14 : zD 17 14 = some (.iload_n 2, 1, none) := by decide +kernel
theorem k_17_15 : zD 17 15 = some (.aload_n 1, 1, none) := by decide +kernel
theorem k_17_16 : zD 17 16 = some (.aload_n 1, 1, none) := by decide +kernel
theorem k_17_17 : zD 17 17 = some (.getfield 46, 3, none) ∧ zFl (zOn 17) 46 = some (6, 5) ∧ zFc 6 5 = some 3 := by decide +kernel
theorem k_17_20 : zD 17 20 = some (.iload_n 2, 1, none) := by decide +kernel
theorem k_17_21 : zD 17 21 = some (.iaload, 1, none) := by decide +kernel
theorem k_17_22 : zD 17 22 = some (.invokevirtual 49, 3, none) ∧ zCk (zOn 17) 49 = some (0, 18) ∧ zNp 18 = 1 ∧ zML 18 = 4 ∧ zCo[6]? = some (zOn 18) ∧ (zRt 18 = some .int ∨ zRt 18 = some .boolean ∨ zRt 18 = some .char ∨ zRt 18 = some .byte) := by decide +kernel
theorem k_17_25 : zD 17 25 = some (.iastore, 1, none) := by decide +kernel
theorem k_17_26 : zD 17 26 = some (.aload_n 0, 1, none) := by decide +kernel
theorem k_17_27 : zD 17 27 = some (.getfield 15, 3, none) ∧ zFl (zOn 17) 15 = some (4, 1) ∧ zFc 4 1 = some 3 := by decide +kernel
theorem k_17_30 : zD 17 30 = some (.iload_n 2, 1, none) := by decide +kernel
theorem k_17_31 : zD 17 31 = some (.aload_n 1, 1, none) := by decide +kernel
theorem k_17_32 : zD 17 32 = some (.aload_n 0, 1, none) := by decide +kernel
theorem k_17_33 : zD 17 33 = some (.getfield 9, 3, none) ∧ zFl (zOn 17) 9 = some (4, 0) ∧ zFc 4 0 = some 3 := by decide +kernel
theorem k_17_36 : zD 17 36 = some (.iload_n 2, 1, none) := by decide +kernel
theorem k_17_37 : zD 17 37 = some (.iaload, 1, none) := by decide +kernel
theorem k_17_38 : zD 17 38 = some (.invokevirtual 53, 3, none) ∧ zCk (zOn 17) 53 = some (0, 15) ∧ zNp 15 = 1 ∧ zML 15 = 2 ∧ zCo[6]? = some (zOn 15) ∧ (zRt 15 = some .int ∨ zRt 15 = some .boolean ∨ zRt 15 = some .char ∨ zRt 15 = some .byte) := by decide +kernel
theorem k_17_41 : zD 17 41 = some (.iastore, 1, none) := by decide +kernel
theorem k_17_42 : zD 17 42 = some (.aload_n 0, 1, none) := by decide +kernel
theorem k_17_43 : zD 17 43 = some (.getfield 18, 3, none) ∧ zFl (zOn 17) 18 = some (4, 2) ∧ zFc 4 2 = some 3 := by decide +kernel
theorem k_17_46 : zD 17 46 = some (.iload_n 2, 1, none) := by decide +kernel
theorem k_17_47 : zD 17 47 = some (.iconst (0), 1, none) := by decide +kernel
theorem k_17_48 : zD 17 48 = some (.iastore, 1, none) := by decide +kernel
theorem k_17_49 : zD 17 49 = some (.iinc 2 (1), 3, none) := by decide +kernel
theorem k_17_52 : zD 17 52 = some (.goto (-50), 3, none) ∧ zTg 52 (-50) = some 2 := by decide +kernel
theorem k_17_55 : zD 17 55 = some (.iconst (0), 1, none) := by decide +kernel
theorem k_17_56 : zD 17 56 = some (.istore_n 2, 1, none) := by decide +kernel
theorem k_17_57 : zD 17 57 = some (.iload_n 2, 1, some [true, true, true, false]) := by decide +kernel
theorem k_17_58 : zD 17 58 = some (.aload_n 1, 1, none) := by decide +kernel
theorem k_17_59 : zD 17 59 = some (.getfield 41, 3, none) ∧ zFl (zOn 17) 41 = some (6, 1) ∧ zFc 6 1 = some 0 := by decide +kernel
theorem k_17_62 : zD 17 62 = some (.if_icmp .ge (45), 3, none) ∧ zTg 62 (45) = some 107 := by decide +kernel
theorem k_17_65 : zD 17 65 = some (.iconst (0), 1, none) := by decide +kernel
theorem k_17_66 : zD 17 66 = some (.istore_n 3, 1, none) := by decide +kernel
theorem k_17_107 : zD 17 107 = some (.aload_n 0, 1, none) := by decide +kernel
theorem k_17_108 : zD 17 108 = some (.iconst (0), 1, none) := by decide +kernel
theorem k_17_109 : zD 17 109 = some (.putfield 34, 3, none) ∧ zFl (zOn 17) 34 = some (4, 5) ∧ zFc 4 5 = some 0 := by decide +kernel
theorem k_17_112 : zD 17 112 = some (.return_, 1, none) := by decide +kernel
theorem k_17_67 : zD 17 67 = some (.iload_n 3, 1, some [true, true, true, true]) := by decide +kernel
theorem k_17_68 : zD 17 68 = some (.aload_n 1, 1, none) := by decide +kernel
theorem k_17_69 : zD 17 69 = some (.getfield 41, 3, none) ∧ zFl (zOn 17) 41 = some (6, 1) ∧ zFc 6 1 = some 0 := by decide +kernel
theorem k_17_72 : zD 17 72 = some (.if_icmp .ge (29), 3, none) ∧ zTg 72 (29) = some 101 := by decide +kernel
theorem k_17_75 : zD 17 75 = some (.aload_n 0, 1, none) := by decide +kernel
theorem k_17_76 : zD 17 76 = some (.getfield 21, 3, none) ∧ zFl (zOn 17) 21 = some (4, 3) ∧ zFc 4 3 = some 3 := by decide +kernel
theorem k_17_79 : zD 17 79 = some (.iload_n 2, 1, none) := by decide +kernel
theorem k_17_80 : zD 17 80 = some (.iconst (5), 1, none) := by decide +kernel
theorem k_17_81 : zD 17 81 = some (.imul, 1, none) := by decide +kernel
theorem k_17_82 : zD 17 82 = some (.iload_n 3, 1, none) := by decide +kernel
theorem k_17_83 : zD 17 83 = some (.iadd, 1, none) := by decide +kernel
theorem k_17_84 : zD 17 84 = some (.aload_n 1, 1, none) := by decide +kernel
theorem k_17_85 : zD 17 85 = some (.aload_n 0, 1, none) := by decide +kernel
theorem k_17_86 : zD 17 86 = some (.getfield 15, 3, none) ∧ zFl (zOn 17) 15 = some (4, 1) ∧ zFc 4 1 = some 3 := by decide +kernel
theorem k_17_89 : zD 17 89 = some (.iload_n 3, 1, none) := by decide +kernel
theorem k_17_90 : zD 17 90 = some (.iaload, 1, none) := by decide +kernel
theorem k_17_91 : zD 17 91 = some (.invokevirtual 56, 3, none) ∧ zCk (zOn 17) 56 = some (0, 19) ∧ zNp 19 = 1 ∧ zML 19 = 2 ∧ zCo[6]? = some (zOn 19) ∧ zRt 19 = some .long := by decide +kernel
theorem k_17_94 : zD 17 94 = some (.lastore, 1, none) := by decide +kernel
theorem k_17_95 : zD 17 95 = some (.iinc 3 (1), 3, none) := by decide +kernel
theorem k_17_98 : zD 17 98 = some (.goto (-31), 3, none) ∧ zTg 98 (-31) = some 67 := by decide +kernel
theorem k_17_101 : zD 17 101 = some (.iinc 2 (1), 3, none) := by decide +kernel
theorem k_17_104 : zD 17 104 = some (.goto (-47), 3, none) ∧ zTg 104 (-47) = some 57 := by decide +kernel
theorem kd_17_2 : zD 17 2 = some (.iload_n 2, 1, some [true, true, true, false]) := k_17_2
theorem kd_17_57 : zD 17 57 = some (.iload_n 2, 1, some [true, true, true, false]) := k_17_57
theorem kd_17_67 : zD 17 67 = some (.iload_n 3, 1, some [true, true, true, true]) := k_17_67
theorem ml_53 : zML 53 = 5 := by decide +kernel
theorem rt_53 : zRt 53 = some .int := by decide +kernel
theorem k_53_0 : zD 53 0 = some (.iconst (0), 1, none) := by decide +kernel
theorem k_53_1 : zD 53 1 = some (.istore_n 3, 1, none) := by decide +kernel
theorem k_53_2 : zD 53 2 = some (.iconst (0), 1, none) := by decide +kernel
theorem k_53_3 : zD 53 3 = some (.istore 4, 2, none) := by decide +kernel
theorem k_53_5 : zD 53 5 = some (.iload 4, 2, some [true, true, true, true, true]) := by decide +kernel
theorem k_53_7 : zD 53 7 = some (.aload_n 1, 1, none) := by decide +kernel
theorem k_53_8 : zD 53 8 = some (.getfield 41, 3, none) ∧ zFl (zOn 53) 41 = some (6, 1) ∧ zFc 6 1 = some 0 := by decide +kernel
theorem k_53_11 : zD 53 11 = some (.if_icmp .ge (30), 3, none) ∧ zTg 11 (30) = some 41 := by decide +kernel
theorem k_53_14 : zD 53 14 = some (.aload_n 0, 1, none) := by decide +kernel
theorem k_53_15 : zD 53 15 = some (.getfield 9, 3, none) ∧ zFl (zOn 53) 9 = some (4, 0) ∧ zFc 4 0 = some 3 := by decide +kernel
theorem k_53_18 : zD 53 18 = some (.iload 4, 2, none) := by decide +kernel
theorem k_53_20 : zD 53 20 = some (.iaload, 1, none) := by decide +kernel
theorem k_53_21 : zD 53 21 = some (.iload_n 2, 1, none) := by decide +kernel
theorem k_53_22 : zD 53 22 = some (.invokestatic 101, 3, none) ∧ zAt.lookup (zOn 53, 101) = none ∧ zCk (zOn 53) 101 = some (3, 11) ∧ (3 = 1 ∨ 3 = 3) ∧ zNp 11 = 2 ∧ zML 11 = 2 ∧ (zRt 11 = some .int ∨ zRt 11 = some .boolean ∨ zRt 11 = some .char ∨ zRt 11 = some .byte) := by decide +kernel
theorem k_53_25 : zD 53 25 = some (.ifCond .eq (10), 3, none) ∧ zTg 25 (10) = some 35 := by decide +kernel
theorem k_53_35 : zD 53 35 = some (.iinc 4 (1), 3, some [true, true, true, true, true]) := by decide +kernel
theorem k_53_38 : zD 53 38 = some (.goto (-33), 3, none) ∧ zTg 38 (-33) = some 5 := by decide +kernel
theorem k_53_28 : zD 53 28 = some (.iload_n 3, 1, none) := by decide +kernel
theorem k_53_29 : zD 53 29 = some (.iconst (1), 1, none) := by decide +kernel
theorem k_53_30 : zD 53 30 = some (.iload 4, 2, none) := by decide +kernel
theorem k_53_32 : zD 53 32 = some (.ishl, 1, none) := by decide +kernel
theorem k_53_33 : zD 53 33 = some (.ior, 1, none) := by decide +kernel
theorem k_53_34 : zD 53 34 = some (.istore_n 3, 1, none) := by decide +kernel
theorem k_53_41 : zD 53 41 = some (.iload_n 3, 1, none) := by decide +kernel
theorem k_53_42 : zD 53 42 = some (.ireturn, 1, none) := by decide +kernel
theorem kd_53_5 : zD 53 5 = some (.iload 4, 2, some [true, true, true, true, true]) := k_53_5
theorem ml_56 : zML 56 = 3 := by decide +kernel
theorem rt_56 : zRt 56 = some .int := by decide +kernel
theorem k_56_0 : zD 56 0 = some (.aload_n 1, 1, none) := by decide +kernel
theorem k_56_1 : zD 56 1 = some (.aload_n 0, 1, none) := by decide +kernel
theorem k_56_2 : zD 56 2 = some (.getfield 15, 3, none) ∧ zFl (zOn 56) 15 = some (4, 1) ∧ zFc 4 1 = some 3 := by decide +kernel
theorem k_56_5 : zD 56 5 = some (.iload_n 2, 1, none) := by decide +kernel
theorem k_56_6 : zD 56 6 = some (.iaload, 1, none) := by decide +kernel
theorem k_56_7 : zD 56 7 = some (.invokevirtual 56, 3, none) ∧ zCk (zOn 56) 56 = some (0, 19) ∧ zNp 19 = 1 ∧ zML 19 = 2 ∧ zCo[6]? = some (zOn 19) ∧ zRt 19 = some .long := by decide +kernel
theorem k_56_10 : zD 56 10 = some (.aload_n 1, 1, none) := by decide +kernel
theorem k_56_11 : zD 56 11 = some (.getfield 74, 3, none) ∧ zFl (zOn 56) 74 = some (6, 0) ∧ zFc 6 0 = some 0 := by decide +kernel
theorem k_56_14 : zD 56 14 = some (.invokestatic 81, 3, none) ∧ zAt.lookup (zOn 56, 81) = none ∧ zCk (zOn 56) 81 = some (1, 57) ∧ (1 = 1 ∨ 1 = 3) ∧ zNp 57 = 2 ∧ zML 57 = 5 ∧ (zRt 57 = some .int ∨ zRt 57 = some .boolean ∨ zRt 57 = some .char ∨ zRt 57 = some .byte) := by decide +kernel
theorem k_56_17 : zD 56 17 = some (.ireturn, 1, none) := by decide +kernel
theorem ml_62 : zML 62 = 4 := by decide +kernel
theorem rt_62 : zRt 62 = some .long := by decide +kernel
theorem k_62_0 : zD 62 0 = some (.iload_n 1, 1, none) := by decide +kernel
theorem k_62_1 : zD 62 1 = some (.ifCond .lt (21), 3, none) ∧ zTg 1 (21) = some 22 := by decide +kernel
theorem k_62_4 : zD 62 4 = some (.iload_n 1, 1, none) := by decide +kernel
theorem k_62_5 : zD 62 5 = some (.iconst (5), 1, none) := by decide +kernel
theorem k_62_6 : zD 62 6 = some (.if_icmp .ge (16), 3, none) ∧ zTg 6 (16) = some 22 := by decide +kernel
theorem k_62_9 : zD 62 9 = some (.iload_n 2, 1, none) := by decide +kernel
theorem k_62_10 : zD 62 10 = some (.ifCond .lt (12), 3, none) ∧ zTg 10 (12) = some 22 := by decide +kernel
theorem k_62_13 : zD 62 13 = some (.iload_n 2, 1, none) := by decide +kernel
theorem k_62_14 : zD 62 14 = some (.iconst (5), 1, none) := by decide +kernel
theorem k_62_15 : zD 62 15 = some (.if_icmp .ge (7), 3, none) ∧ zTg 15 (7) = some 22 := by decide +kernel
theorem k_62_18 : zD 62 18 = some (.iconst (1), 1, none) := by decide +kernel
theorem k_62_19 : zD 62 19 = some (.goto (4), 3, none) ∧ zTg 19 (4) = some 23 := by decide +kernel
theorem k_62_22 : zD 62 22 = some (.iconst (0), 1, some [true, true, true, false]) := by decide +kernel
theorem k_62_23 : zD 62 23 = some (.istore_n 3, 1, some [true, true, true, false]) := by decide +kernel
theorem k_62_24 : zD 62 24 = some (.iload_n 3, 1, none) := by decide +kernel
theorem k_62_25 : zD 62 25 = some (.ifCond .eq (16), 3, none) ∧ zTg 25 (16) = some 41 := by decide +kernel
theorem k_62_41 : zD 62 41 = some (.lconst 0, 1, none) := by decide +kernel
theorem k_62_42 : zD 62 42 = some (.lreturn, 1, some [false, false, false, false]) := by decide +kernel
theorem k_62_28 : zD 62 28 = some (.aload_n 0, 1, none) := by decide +kernel
theorem k_62_29 : zD 62 29 = some (.getfield 21, 3, none) ∧ zFl (zOn 62) 21 = some (4, 3) ∧ zFc 4 3 = some 3 := by decide +kernel
theorem k_62_32 : zD 62 32 = some (.iload_n 1, 1, none) := by decide +kernel
theorem k_62_33 : zD 62 33 = some (.iconst (5), 1, none) := by decide +kernel
theorem k_62_34 : zD 62 34 = some (.imul, 1, none) := by decide +kernel
theorem k_62_35 : zD 62 35 = some (.iload_n 2, 1, none) := by decide +kernel
theorem k_62_36 : zD 62 36 = some (.iadd, 1, none) := by decide +kernel
theorem k_62_37 : zD 62 37 = some (.laload, 1, none) := by decide +kernel
theorem k_62_38 : zD 62 38 = some (.goto (4), 3, none) ∧ zTg 38 (4) = some 42 := by decide +kernel
theorem kd_62_22 : zD 62 22 = some (.iconst (0), 1, some [true, true, true, false]) := k_62_22
theorem kd_62_23 : zD 62 23 = some (.istore_n 3, 1, some [true, true, true, false]) := k_62_23
theorem kd_62_42 : zD 62 42 = some (.lreturn, 1, some [false, false, false, false]) := k_62_42
theorem ml_65 : zML 65 = 4 := by decide +kernel
theorem rt_65 : zRt 65 = some .int := by decide +kernel
theorem k_65_0 : zD 65 0 = some (.aload_n 0, 1, none) := by decide +kernel
theorem k_65_1 : zD 65 1 = some (.iload_n 2, 1, none) := by decide +kernel
theorem k_65_2 : zD 65 2 = some (.iload_n 3, 1, none) := by decide +kernel
theorem k_65_3 : zD 65 3 = some (.invokevirtual 70, 3, none) ∧ zCk (zOn 65) 70 = some (0, 62) ∧ zNp 62 = 2 ∧ zML 62 = 4 ∧ zCo[4]? = some (zOn 62) ∧ zRt 62 = some .long := by decide +kernel
theorem k_65_6 : zD 65 6 = some (.aload_n 1, 1, none) := by decide +kernel
theorem k_65_7 : zD 65 7 = some (.getfield 74, 3, none) ∧ zFl (zOn 65) 74 = some (6, 0) ∧ zFc 6 0 = some 0 := by decide +kernel
theorem k_65_10 : zD 65 10 = some (.invokestatic 77, 3, none) ∧ zAt.lookup (zOn 65, 77) = none ∧ zCk (zOn 65) 77 = some (1, 66) ∧ (1 = 1 ∨ 1 = 3) ∧ zNp 66 = 2 ∧ zML 66 = 5 ∧ (zRt 66 = some .int ∨ zRt 66 = some .boolean ∨ zRt 66 = some .char ∨ zRt 66 = some .byte) := by decide +kernel
theorem k_65_13 : zD 65 13 = some (.ireturn, 1, none) := by decide +kernel
theorem ml_67 : zML 67 = 4 := by decide +kernel
theorem rt_67 : zRt 67 = some .int := by decide +kernel
theorem k_67_0 : zD 67 0 = some (.aload_n 0, 1, none) := by decide +kernel
theorem k_67_1 : zD 67 1 = some (.iload_n 2, 1, none) := by decide +kernel
theorem k_67_2 : zD 67 2 = some (.iload_n 3, 1, none) := by decide +kernel
theorem k_67_3 : zD 67 3 = some (.invokevirtual 70, 3, none) ∧ zCk (zOn 67) 70 = some (0, 62) ∧ zNp 62 = 2 ∧ zML 62 = 4 ∧ zCo[4]? = some (zOn 62) ∧ zRt 62 = some .long := by decide +kernel
theorem k_67_6 : zD 67 6 = some (.aload_n 1, 1, none) := by decide +kernel
theorem k_67_7 : zD 67 7 = some (.getfield 74, 3, none) ∧ zFl (zOn 67) 74 = some (6, 0) ∧ zFc 6 0 = some 0 := by decide +kernel
theorem k_67_10 : zD 67 10 = some (.invokestatic 81, 3, none) ∧ zAt.lookup (zOn 67, 81) = none ∧ zCk (zOn 67) 81 = some (1, 57) ∧ (1 = 1 ∨ 1 = 3) ∧ zNp 57 = 2 ∧ zML 57 = 5 ∧ (zRt 57 = some .int ∨ zRt 57 = some .boolean ∨ zRt 57 = some .char ∨ zRt 57 = some .byte) := by decide +kernel
theorem k_67_13 : zD 67 13 = some (.ireturn, 1, none) := by decide +kernel
theorem ml_69 : zML 69 = 4 := by decide +kernel
theorem rt_69 : zRt 69 = some .int := by decide +kernel
theorem k_69_0 : zD 69 0 = some (.aload_n 0, 1, none) := by decide +kernel
theorem k_69_1 : zD 69 1 = some (.getfield 9, 3, none) ∧ zFl (zOn 69) 9 = some (4, 0) ∧ zFc 4 0 = some 3 := by decide +kernel
theorem k_69_4 : zD 69 4 = some (.iload_n 2, 1, none) := by decide +kernel
theorem k_69_5 : zD 69 5 = some (.iaload, 1, none) := by decide +kernel
theorem k_69_6 : zD 69 6 = some (.aload_n 0, 1, none) := by decide +kernel
theorem k_69_7 : zD 69 7 = some (.aload_n 1, 1, none) := by decide +kernel
theorem k_69_8 : zD 69 8 = some (.iload_n 2, 1, none) := by decide +kernel
theorem k_69_9 : zD 69 9 = some (.iload_n 3, 1, none) := by decide +kernel
theorem k_69_10 : zD 69 10 = some (.invokevirtual 89, 3, none) ∧ zCk (zOn 69) 89 = some (0, 67) ∧ zNp 67 = 3 ∧ zML 67 = 4 ∧ zCo[4]? = some (zOn 67) ∧ (zRt 67 = some .int ∨ zRt 67 = some .boolean ∨ zRt 67 = some .char ∨ zRt 67 = some .byte) := by decide +kernel
theorem k_69_13 : zD 69 13 = some (.iand, 1, none) := by decide +kernel
theorem k_69_14 : zD 69 14 = some (.ireturn, 1, none) := by decide +kernel
theorem ml_71 : zML 71 = 7 := by decide +kernel
theorem rt_71 : zRt 71 = some .int := by decide +kernel
theorem k_71_0 : zD 71 0 = some (.aload_n 0, 1, none) := by decide +kernel
theorem k_71_1 : zD 71 1 = some (.iload_n 1, 1, none) := by decide +kernel
theorem k_71_2 : zD 71 2 = some (.iload_n 2, 1, none) := by decide +kernel
theorem k_71_3 : zD 71 3 = some (.invokevirtual 70, 3, none) ∧ zCk (zOn 71) 70 = some (0, 62) ∧ zNp 62 = 2 ∧ zML 62 = 4 ∧ zCo[4]? = some (zOn 62) ∧ zRt 62 = some .long := by decide +kernel
theorem k_71_6 : zD 71 6 = some (.lstore 4, 2, none) := by decide +kernel
theorem k_71_8 : zD 71 8 = some (.lload 4, 2, none) := by decide +kernel
theorem k_71_10 : zD 71 10 = some (.invokestatic 92, 3, none) ∧ zAt.lookup (zOn 71, 92) = none ∧ zCk (zOn 71) 92 = some (1, 50) ∧ (1 = 1 ∨ 1 = 3) ∧ zNp 50 = 1 ∧ zML 50 = 2 ∧ (zRt 50 = some .int ∨ zRt 50 = some .boolean ∨ zRt 50 = some .char ∨ zRt 50 = some .byte) := by decide +kernel
theorem k_71_13 : zD 71 13 = some (.istore 6, 2, none) := by decide +kernel
theorem k_71_15 : zD 71 15 = some (.iload 6, 2, none) := by decide +kernel
theorem k_71_17 : zD 71 17 = some (.ifCond .ne (7), 3, none) ∧ zTg 17 (7) = some 24 := by decide +kernel
theorem k_71_20 : zD 71 20 = some (.iconst (0), 1, none) := by decide +kernel
theorem k_71_21 : zD 71 21 = some (.goto (18), 3, none) ∧ zTg 21 (18) = some 39 := by decide +kernel
theorem k_71_39 : zD 71 39 = some (.ireturn, 1, some [false, false, false, false, false, false, false]) := by decide +kernel
theorem k_71_24 : zD 71 24 = some (.lload 4, 2, none) := by decide +kernel
theorem k_71_26 : zD 71 26 = some (.iload_n 3, 1, none) := by decide +kernel
theorem k_71_27 : zD 71 27 = some (.invokestatic 97, 3, none) ∧ zAt.lookup (zOn 71, 97) = none ∧ zCk (zOn 71) 97 = some (1, 13) ∧ (1 = 1 ∨ 1 = 3) ∧ zNp 13 = 2 ∧ zML 13 = 3 ∧ zRt 13 = some .long := by decide +kernel
theorem k_71_30 : zD 71 30 = some (.invokestatic 92, 3, none) ∧ zAt.lookup (zOn 71, 92) = none ∧ zCk (zOn 71) 92 = some (1, 50) ∧ (1 = 1 ∨ 1 = 3) ∧ zNp 50 = 1 ∧ zML 50 = 2 ∧ (zRt 50 = some .int ∨ zRt 50 = some .boolean ∨ zRt 50 = some .char ∨ zRt 50 = some .byte) := by decide +kernel
theorem k_71_33 : zD 71 33 = some (.ldc 100, 2, none) ∧ zKc (zOn 71) 100 = some (.inl 1000000) := by decide +kernel
theorem k_71_35 : zD 71 35 = some (.imul, 1, none) := by decide +kernel
theorem k_71_36 : zD 71 36 = some (.iload 6, 2, none) := by decide +kernel
theorem k_71_38 : zD 71 38 = some (.idiv, 1, none) := by decide +kernel
theorem kd_71_39 : zD 71 39 = some (.ireturn, 1, some [false, false, false, false, false, false, false]) := k_71_39
theorem ml_73 : zML 73 = 7 := by decide +kernel
theorem rt_73 : zRt 73 = some .int := by decide +kernel
theorem k_73_0 : zD 73 0 = some (.iconst (-1), 1, none) := by decide +kernel
theorem k_73_1 : zD 73 1 = some (.istore 4, 2, none) := by decide +kernel
theorem k_73_3 : zD 73 3 = some (.iconst (-1), 1, none) := by decide +kernel
theorem k_73_4 : zD 73 4 = some (.istore 5, 2, none) := by decide +kernel
theorem k_73_6 : zD 73 6 = some (.iconst (0), 1, none) := by decide +kernel
theorem k_73_7 : zD 73 7 = some (.istore 6, 2, none) := by decide +kernel
theorem k_73_9 : zD 73 9 = some (.iload 6, 2, some [true, true, true, true, true, true, true]) := by decide +kernel
theorem k_73_11 : zD 73 11 = some (.aload_n 1, 1, none) := by decide +kernel
theorem k_73_12 : zD 73 12 = some (.getfield 74, 3, none) ∧ zFl (zOn 73) 74 = some (6, 0) ∧ zFc 6 0 = some 0 := by decide +kernel
theorem k_73_15 : zD 73 15 = some (.if_icmp .ge (50), 3, none) ∧ zTg 15 (50) = some 65 := by decide +kernel
theorem k_73_18 : zD 73 18 = some (.aload_n 0, 1, none) := by decide +kernel
theorem k_73_19 : zD 73 19 = some (.getfield 9, 3, none) ∧ zFl (zOn 73) 9 = some (4, 0) ∧ zFc 4 0 = some 3 := by decide +kernel
theorem k_73_22 : zD 73 22 = some (.iload_n 2, 1, none) := by decide +kernel
theorem k_73_23 : zD 73 23 = some (.iaload, 1, none) := by decide +kernel
theorem k_73_24 : zD 73 24 = some (.iload 6, 2, none) := by decide +kernel
theorem k_73_26 : zD 73 26 = some (.invokestatic 101, 3, none) ∧ zAt.lookup (zOn 73, 101) = none ∧ zCk (zOn 73) 101 = some (3, 11) ∧ (3 = 1 ∨ 3 = 3) ∧ zNp 11 = 2 ∧ zML 11 = 2 ∧ (zRt 11 = some .int ∨ zRt 11 = some .boolean ∨ zRt 11 = some .char ∨ zRt 11 = some .byte) := by decide +kernel
theorem k_73_29 : zD 73 29 = some (.ifCond .eq (30), 3, none) ∧ zTg 29 (30) = some 59 := by decide +kernel
theorem k_73_59 : zD 73 59 = some (.iinc 6 (1), 3, some [true, true, true, true, true, true, true]) := by decide +kernel
theorem k_73_62 : zD 73 62 = some (.goto (-53), 3, none) ∧ zTg 62 (-53) = some 9 := by decide +kernel
theorem k_73_32 : zD 73 32 = some (.aload_n 0, 1, none) := by decide +kernel
theorem k_73_33 : zD 73 33 = some (.iload_n 2, 1, none) := by decide +kernel
theorem k_73_34 : zD 73 34 = some (.iload_n 3, 1, none) := by decide +kernel
theorem k_73_35 : zD 73 35 = some (.iload 6, 2, none) := by decide +kernel
theorem k_73_37 : zD 73 37 = some (.invokevirtual 105, 3, none) ∧ zCk (zOn 73) 105 = some (0, 71) ∧ zNp 71 = 3 ∧ zML 71 = 7 ∧ zCo[4]? = some (zOn 71) ∧ (zRt 71 = some .int ∨ zRt 71 = some .boolean ∨ zRt 71 = some .char ∨ zRt 71 = some .byte) := by decide +kernel
theorem k_73_40 : zD 73 40 = some (.iload 5, 2, none) := by decide +kernel
theorem k_73_42 : zD 73 42 = some (.if_icmp .le (17), 3, none) ∧ zTg 42 (17) = some 59 := by decide +kernel
theorem k_73_45 : zD 73 45 = some (.iload 6, 2, none) := by decide +kernel
theorem k_73_47 : zD 73 47 = some (.istore 4, 2, none) := by decide +kernel
theorem k_73_49 : zD 73 49 = some (.aload_n 0, 1, none) := by decide +kernel
theorem k_73_50 : zD 73 50 = some (.iload_n 2, 1, none) := by decide +kernel
theorem k_73_51 : zD 73 51 = some (.iload_n 3, 1, none) := by decide +kernel
theorem k_73_52 : zD 73 52 = some (.iload 6, 2, none) := by decide +kernel
theorem k_73_54 : zD 73 54 = some (.invokevirtual 105, 3, none) ∧ zCk (zOn 73) 105 = some (0, 71) ∧ zNp 71 = 3 ∧ zML 71 = 7 ∧ zCo[4]? = some (zOn 71) ∧ (zRt 71 = some .int ∨ zRt 71 = some .boolean ∨ zRt 71 = some .char ∨ zRt 71 = some .byte) := by decide +kernel
theorem k_73_57 : zD 73 57 = some (.istore 5, 2, none) := by decide +kernel
theorem k_73_65 : zD 73 65 = some (.iload 4, 2, none) := by decide +kernel
theorem k_73_67 : zD 73 67 = some (.ireturn, 1, none) := by decide +kernel
theorem kd_73_9 : zD 73 9 = some (.iload 6, 2, some [true, true, true, true, true, true, true]) := k_73_9
theorem ml_77 : zML 77 = 8 := by decide +kernel
theorem rt_77 : zRt 77 = some .int := by decide +kernel
theorem k_77_0 : zD 77 0 = some (.aload_n 0, 1, none) := by decide +kernel
theorem k_77_1 : zD 77 1 = some (.getfield 9, 3, none) ∧ zFl (zOn 77) 9 = some (4, 0) ∧ zFc 4 0 = some 3 := by decide +kernel
theorem k_77_4 : zD 77 4 = some (.iload_n 3, 1, none) := by decide +kernel
theorem k_77_5 : zD 77 5 = some (.iaload, 1, none) := by decide +kernel
theorem k_77_6 : zD 77 6 = some (.iload 4, 2, none) := by decide +kernel
theorem k_77_8 : zD 77 8 = some (.invokestatic 101, 3, none) ∧ zAt.lookup (zOn 77, 101) = none ∧ zCk (zOn 77) 101 = some (3, 11) ∧ (3 = 1 ∨ 3 = 3) ∧ zNp 11 = 2 ∧ zML 11 = 2 ∧ (zRt 11 = some .int ∨ zRt 11 = some .boolean ∨ zRt 11 = some .char ∨ zRt 11 = some .byte) := by decide +kernel
theorem k_77_11 : zD 77 11 = some (.ifCond .eq (7), 3, none) ∧ zTg 11 (7) = some 18 := by decide +kernel
theorem k_77_18 : zD 77 18 = some (.iconst (0), 1, none) := by decide +kernel
theorem k_77_14 : zD 77 14 = some (.iconst (1), 1, none) := by decide +kernel
theorem k_77_15 : zD 77 15 = some (.goto (4), 3, none) ∧ zTg 15 (4) = some 19 := by decide +kernel
theorem k_77_19 : zD 77 19 = some (.istore 6, 2, some [true, true, true, true, true, true, false, false]) := by decide +kernel
theorem k_77_21 : zD 77 21 = some (.aload_n 0, 1, none) := by decide +kernel
theorem k_77_22 : zD 77 22 = some (.aload_n 1, 1, none) := by decide +kernel
theorem k_77_23 : zD 77 23 = some (.iload_n 2, 1, none) := by decide +kernel
theorem k_77_24 : zD 77 24 = some (.iload_n 3, 1, none) := by decide +kernel
theorem k_77_25 : zD 77 25 = some (.iload 4, 2, none) := by decide +kernel
theorem k_77_27 : zD 77 27 = some (.iload 5, 2, none) := by decide +kernel
theorem k_77_29 : zD 77 29 = some (.iconst (1), 1, none) := by decide +kernel
theorem k_77_30 : zD 77 30 = some (.iload_n 2, 1, none) := by decide +kernel
theorem k_77_31 : zD 77 31 = some (.ishl, 1, none) := by decide +kernel
theorem k_77_32 : zD 77 32 = some (.ior, 1, none) := by decide +kernel
theorem k_77_33 : zD 77 33 = some (.iconst (1), 1, none) := by decide +kernel
theorem k_77_34 : zD 77 34 = some (.iload_n 3, 1, none) := by decide +kernel
theorem k_77_35 : zD 77 35 = some (.ishl, 1, none) := by decide +kernel
theorem k_77_36 : zD 77 36 = some (.ior, 1, none) := by decide +kernel
theorem k_77_37 : zD 77 37 = some (.invokevirtual 109, 3, none) ∧ zCk (zOn 77) 109 = some (0, 78) ∧ zNp 78 = 5 ∧ zML 78 = 10 ∧ zCo[4]? = some (zOn 78) ∧ zRt 78 = none := by decide +kernel
theorem k_77_40 : zD 77 40 = some (.iconst (0), 1, none) := by decide +kernel
theorem k_77_41 : zD 77 41 = some (.istore 7, 2, none) := by decide +kernel
theorem k_77_43 : zD 77 43 = some (.iload 7, 2, some [true, true, true, true, true, true, true, true]) := by decide +kernel
theorem k_77_45 : zD 77 45 = some (.aload_n 1, 1, none) := by decide +kernel
theorem k_77_46 : zD 77 46 = some (.getfield 41, 3, none) ∧ zFl (zOn 77) 41 = some (6, 1) ∧ zFc 6 1 = some 0 := by decide +kernel
theorem k_77_49 : zD 77 49 = some (.if_icmp .ge (48), 3, none) ∧ zTg 49 (48) = some 97 := by decide +kernel
theorem k_77_52 : zD 77 52 = some (.iload 7, 2, none) := by decide +kernel
theorem k_77_54 : zD 77 54 = some (.iload_n 3, 1, none) := by decide +kernel
theorem k_77_55 : zD 77 55 = some (.if_icmp .eq (13), 3, none) ∧ zTg 55 (13) = some 68 := by decide +kernel
theorem k_77_58 : zD 77 58 = some (.iload 5, 2, none) := by decide +kernel
theorem k_77_60 : zD 77 60 = some (.iload 7, 2, none) := by decide +kernel
theorem k_77_62 : zD 77 62 = some (.invokestatic 101, 3, none) ∧ zAt.lookup (zOn 77, 101) = none ∧ zCk (zOn 77) 101 = some (3, 11) ∧ (3 = 1 ∨ 3 = 3) ∧ zNp 11 = 2 ∧ zML 11 = 2 ∧ (zRt 11 = some .int ∨ zRt 11 = some .boolean ∨ zRt 11 = some .char ∨ zRt 11 = some .byte) := by decide +kernel
theorem k_77_65 : zD 77 65 = some (.ifCond .eq (26), 3, none) ∧ zTg 65 (26) = some 91 := by decide +kernel
theorem k_77_91 : zD 77 91 = some (.iinc 7 (1), 3, some [true, true, true, true, true, true, true, true]) := by decide +kernel
theorem k_77_94 : zD 77 94 = some (.goto (-51), 3, none) ∧ zTg 94 (-51) = some 43 := by decide +kernel
theorem k_77_97 : zD 77 97 = some (.aload_n 0, 1, none) := by decide +kernel
theorem k_77_98 : zD 77 98 = some (.getfield 18, 3, none) ∧ zFl (zOn 77) 18 = some (4, 2) ∧ zFc 4 2 = some 3 := by decide +kernel
theorem k_77_101 : zD 77 101 = some (.iload_n 2, 1, none) := by decide +kernel
theorem k_77_102 : zD 77 102 = some (.dup2, 1, none) := by decide +kernel
theorem k_77_103 : zD 77 103 = some (.iaload, 1, none) := by decide +kernel
theorem k_77_104 : zD 77 104 = some (.iload 6, 2, none) := by decide +kernel
theorem k_77_106 : zD 77 106 = some (.iadd, 1, none) := by decide +kernel
theorem k_77_107 : zD 77 107 = some (.iastore, 1, none) := by decide +kernel
theorem k_77_108 : zD 77 108 = some (.aload_n 0, 1, none) := by decide +kernel
theorem k_77_109 : zD 77 109 = some (.getfield 34, 3, none) ∧ zFl (zOn 77) 34 = some (4, 5) ∧ zFc 4 5 = some 0 := by decide +kernel
theorem k_77_112 : zD 77 112 = some (.bipush (60), 2, none) := by decide +kernel
theorem k_77_114 : zD 77 114 = some (.if_icmp .ge (15), 3, none) ∧ zTg 114 (15) = some 129 := by decide +kernel
theorem k_77_117 : zD 77 117 = some (.aload_n 0, 1, none) := by decide +kernel
theorem k_77_118 : zD 77 118 = some (.iload_n 2, 1, none) := by decide +kernel
theorem k_77_119 : zD 77 119 = some (.iload_n 3, 1, none) := by decide +kernel
theorem k_77_120 : zD 77 120 = some (.iload 4, 2, none) := by decide +kernel
theorem k_77_122 : zD 77 122 = some (.iload 5, 2, none) := by decide +kernel
theorem k_77_124 : zD 77 124 = some (.iload 6, 2, none) := by decide +kernel
theorem k_77_126 : zD 77 126 = some (.invokevirtual 113, 3, none) ∧ zCk (zOn 77) 113 = some (0, 82) ∧ zNp 82 = 5 ∧ zML 82 = 7 ∧ zCo[4]? = some (zOn 82) ∧ zRt 82 = none := by decide +kernel
theorem k_77_129 : zD 77 129 = some (.iload 6, 2, some [false, false, false, false, false, false, true, false]) := by decide +kernel
theorem k_77_131 : zD 77 131 = some (.ireturn, 1, none) := by decide +kernel
theorem k_77_68 : zD 77 68 = some (.aload_n 0, 1, some [true, true, true, true, true, true, true, true]) := by decide +kernel
theorem k_77_69 : zD 77 69 = some (.getfield 9, 3, none) ∧ zFl (zOn 77) 9 = some (4, 0) ∧ zFc 4 0 = some 3 := by decide +kernel
theorem k_77_72 : zD 77 72 = some (.iload 7, 2, none) := by decide +kernel
theorem k_77_74 : zD 77 74 = some (.aload_n 1, 1, none) := by decide +kernel
theorem k_77_75 : zD 77 75 = some (.aload_n 0, 1, none) := by decide +kernel
theorem k_77_76 : zD 77 76 = some (.getfield 9, 3, none) ∧ zFl (zOn 77) 9 = some (4, 0) ∧ zFc 4 0 = some 3 := by decide +kernel
theorem k_77_79 : zD 77 79 = some (.iload 7, 2, none) := by decide +kernel
theorem k_77_81 : zD 77 81 = some (.iaload, 1, none) := by decide +kernel
theorem k_77_82 : zD 77 82 = some (.iconst (1), 1, none) := by decide +kernel
theorem k_77_83 : zD 77 83 = some (.iload 4, 2, none) := by decide +kernel
theorem k_77_85 : zD 77 85 = some (.ishl, 1, none) := by decide +kernel
theorem k_77_86 : zD 77 86 = some (.ior, 1, none) := by decide +kernel
theorem k_77_87 : zD 77 87 = some (.invokevirtual 49, 3, none) ∧ zCk (zOn 77) 49 = some (0, 18) ∧ zNp 18 = 1 ∧ zML 18 = 4 ∧ zCo[6]? = some (zOn 18) ∧ (zRt 18 = some .int ∨ zRt 18 = some .boolean ∨ zRt 18 = some .char ∨ zRt 18 = some .byte) := by decide +kernel
theorem k_77_90 : zD 77 90 = some (.iastore, 1, none) := by decide +kernel
theorem kd_77_19 : zD 77 19 = some (.istore 6, 2, some [true, true, true, true, true, true, false, false]) := k_77_19
theorem kd_77_43 : zD 77 43 = some (.iload 7, 2, some [true, true, true, true, true, true, true, true]) := k_77_43
theorem kd_77_68 : zD 77 68 = some (.aload_n 0, 1, some [true, true, true, true, true, true, true, true]) := k_77_68
theorem kd_77_129 : zD 77 129 = some (.iload 6, 2, some [false, false, false, false, false, false, true, false]) := k_77_129
theorem ml_78 : zML 78 = 10 := by decide +kernel
theorem rt_78 : zRt 78 = none := by decide +kernel
theorem k_78_0 : zD 78 0 = some (.aload_n 0, 1, none) := by decide +kernel
theorem k_78_1 : zD 78 1 = some (.getfield 9, 3, none) ∧ zFl (zOn 78) 9 = some (4, 0) ∧ zFc 4 0 = some 3 := by decide +kernel
theorem k_78_4 : zD 78 4 = some (.iload_n 3, 1, none) := by decide +kernel
theorem k_78_5 : zD 78 5 = some (.iaload, 1, none) := by decide +kernel
theorem k_78_6 : zD 78 6 = some (.iload 4, 2, none) := by decide +kernel
theorem k_78_8 : zD 78 8 = some (.invokestatic 101, 3, none) ∧ zAt.lookup (zOn 78, 101) = none ∧ zCk (zOn 78) 101 = some (3, 11) ∧ (3 = 1 ∨ 3 = 3) ∧ zNp 11 = 2 ∧ zML 11 = 2 ∧ (zRt 11 = some .int ∨ zRt 11 = some .boolean ∨ zRt 11 = some .char ∨ zRt 11 = some .byte) := by decide +kernel
theorem k_78_11 : zD 78 11 = some (.istore 6, 2, none) := by decide +kernel
theorem k_78_13 : zD 78 13 = some (.iconst (0), 1, none) := by decide +kernel
theorem k_78_14 : zD 78 14 = some (.istore 7, 2, none) := by decide +kernel
theorem k_78_16 : zD 78 16 = some (.iload 7, 2, some [true, true, true, true, true, true, true, true, false, false]) := by decide +kernel
theorem k_78_18 : zD 78 18 = some (.aload_n 1, 1, none) := by decide +kernel
theorem k_78_19 : zD 78 19 = some (.getfield 41, 3, none) ∧ zFl (zOn 78) 41 = some (6, 1) ∧ zFc 6 1 = some 0 := by decide +kernel
theorem k_78_22 : zD 78 22 = some (.if_icmp .ge (145), 3, none) ∧ zTg 22 (145) = some 167 := by decide +kernel
theorem k_78_25 : zD 78 25 = some (.iconst (0), 1, none) := by decide +kernel
theorem k_78_26 : zD 78 26 = some (.istore 8, 2, none) := by decide +kernel
theorem k_78_167 : zD 78 167 = some (.return_, 1, none) := by decide +kernel
theorem k_78_28 : zD 78 28 = some (.iload 8, 2, some [true, true, true, true, true, true, true, true, true, false]) := by decide +kernel
theorem k_78_30 : zD 78 30 = some (.aload_n 1, 1, none) := by decide +kernel
theorem k_78_31 : zD 78 31 = some (.getfield 41, 3, none) ∧ zFl (zOn 78) 41 = some (6, 1) ∧ zFc 6 1 = some 0 := by decide +kernel
theorem k_78_34 : zD 78 34 = some (.if_icmp .ge (127), 3, none) ∧ zTg 34 (127) = some 161 := by decide +kernel
theorem k_78_37 : zD 78 37 = some (.iload 7, 2, none) := by decide +kernel
theorem k_78_39 : zD 78 39 = some (.iload 8, 2, none) := by decide +kernel
theorem k_78_41 : zD 78 41 = some (.if_icmp .eq (114), 3, none) ∧ zTg 41 (114) = some 155 := by decide +kernel
theorem k_78_155 : zD 78 155 = some (.iinc 8 (1), 3, some [true, true, true, true, true, true, true, true, true, false]) := by decide +kernel
theorem k_78_158 : zD 78 158 = some (.goto (-130), 3, none) ∧ zTg 158 (-130) = some 28 := by decide +kernel
theorem k_78_44 : zD 78 44 = some (.iload 5, 2, none) := by decide +kernel
theorem k_78_46 : zD 78 46 = some (.iload 7, 2, none) := by decide +kernel
theorem k_78_48 : zD 78 48 = some (.invokestatic 101, 3, none) ∧ zAt.lookup (zOn 78, 101) = none ∧ zCk (zOn 78) 101 = some (3, 11) ∧ (3 = 1 ∨ 3 = 3) ∧ zNp 11 = 2 ∧ zML 11 = 2 ∧ (zRt 11 = some .int ∨ zRt 11 = some .boolean ∨ zRt 11 = some .char ∨ zRt 11 = some .byte) := by decide +kernel
theorem k_78_51 : zD 78 51 = some (.ifCond .eq (104), 3, none) ∧ zTg 51 (104) = some 155 := by decide +kernel
theorem k_78_54 : zD 78 54 = some (.iload 5, 2, none) := by decide +kernel
theorem k_78_56 : zD 78 56 = some (.iload 8, 2, none) := by decide +kernel
theorem k_78_58 : zD 78 58 = some (.invokestatic 101, 3, none) ∧ zAt.lookup (zOn 78, 101) = none ∧ zCk (zOn 78) 101 = some (3, 11) ∧ (3 = 1 ∨ 3 = 3) ∧ zNp 11 = 2 ∧ zML 11 = 2 ∧ (zRt 11 = some .int ∨ zRt 11 = some .boolean ∨ zRt 11 = some .char ∨ zRt 11 = some .byte) := by decide +kernel
theorem k_78_61 : zD 78 61 = some (.ifCond .ne (6), 3, none) ∧ zTg 61 (6) = some 67 := by decide +kernel
theorem k_78_64 : zD 78 64 = some (.goto (91), 3, none) ∧ zTg 64 (91) = some 155 := by decide +kernel
theorem k_78_67 : zD 78 67 = some (.iload 7, 2, none) := by decide +kernel
theorem k_78_69 : zD 78 69 = some (.iconst (5), 1, none) := by decide +kernel
theorem k_78_70 : zD 78 70 = some (.imul, 1, none) := by decide +kernel
theorem k_78_71 : zD 78 71 = some (.iload 8, 2, none) := by decide +kernel
theorem k_78_73 : zD 78 73 = some (.iadd, 1, none) := by decide +kernel
theorem k_78_74 : zD 78 74 = some (.istore 9, 2, none) := by decide +kernel
theorem k_78_76 : zD 78 76 = some (.iload 8, 2, none) := by decide +kernel
theorem k_78_78 : zD 78 78 = some (.iload_n 2, 1, none) := by decide +kernel
theorem k_78_79 : zD 78 79 = some (.if_icmp .ne (25), 3, none) ∧ zTg 79 (25) = some 104 := by decide +kernel
theorem k_78_82 : zD 78 82 = some (.aload_n 0, 1, none) := by decide +kernel
theorem k_78_83 : zD 78 83 = some (.getfield 21, 3, none) ∧ zFl (zOn 78) 21 = some (4, 3) ∧ zFc 4 3 = some 3 := by decide +kernel
theorem k_78_86 : zD 78 86 = some (.iload 9, 2, none) := by decide +kernel
theorem k_78_88 : zD 78 88 = some (.aload_n 0, 1, none) := by decide +kernel
theorem k_78_89 : zD 78 89 = some (.getfield 21, 3, none) ∧ zFl (zOn 78) 21 = some (4, 3) ∧ zFc 4 3 = some 3 := by decide +kernel
theorem k_78_92 : zD 78 92 = some (.iload 9, 2, none) := by decide +kernel
theorem k_78_94 : zD 78 94 = some (.laload, 1, none) := by decide +kernel
theorem k_78_95 : zD 78 95 = some (.iload 4, 2, none) := by decide +kernel
theorem k_78_97 : zD 78 97 = some (.invokestatic 117, 3, none) ∧ zAt.lookup (zOn 78, 117) = none ∧ zCk (zOn 78) 117 = some (1, 12) ∧ (1 = 1 ∨ 1 = 3) ∧ zNp 12 = 2 ∧ zML 12 = 3 ∧ zRt 12 = some .long := by decide +kernel
theorem k_78_100 : zD 78 100 = some (.lastore, 1, none) := by decide +kernel
theorem k_78_101 : zD 78 101 = some (.goto (54), 3, none) ∧ zTg 101 (54) = some 155 := by decide +kernel
theorem k_78_104 : zD 78 104 = some (.iload 8, 2, none) := by decide +kernel
theorem k_78_106 : zD 78 106 = some (.iload_n 3, 1, none) := by decide +kernel
theorem k_78_107 : zD 78 107 = some (.if_icmp .ne (28), 3, none) ∧ zTg 107 (28) = some 135 := by decide +kernel
theorem k_78_110 : zD 78 110 = some (.aload_n 0, 1, none) := by decide +kernel
theorem k_78_111 : zD 78 111 = some (.getfield 21, 3, none) ∧ zFl (zOn 78) 21 = some (4, 3) ∧ zFc 4 3 = some 3 := by decide +kernel
theorem k_78_114 : zD 78 114 = some (.iload 9, 2, none) := by decide +kernel
theorem k_78_116 : zD 78 116 = some (.aload_n 1, 1, none) := by decide +kernel
theorem k_78_117 : zD 78 117 = some (.aload_n 0, 1, none) := by decide +kernel
theorem k_78_118 : zD 78 118 = some (.getfield 21, 3, none) ∧ zFl (zOn 78) 21 = some (4, 3) ∧ zFc 4 3 = some 3 := by decide +kernel
theorem k_78_121 : zD 78 121 = some (.iload 9, 2, none) := by decide +kernel
theorem k_78_123 : zD 78 123 = some (.laload, 1, none) := by decide +kernel
theorem k_78_124 : zD 78 124 = some (.iload 4, 2, none) := by decide +kernel
theorem k_78_126 : zD 78 126 = some (.iload 6, 2, none) := by decide +kernel
theorem k_78_128 : zD 78 128 = some (.invokevirtual 120, 3, none) ∧ zCk (zOn 78) 120 = some (0, 79) ∧ zNp 79 = 3 ∧ zML 79 = 5 ∧ zCo[6]? = some (zOn 79) ∧ zRt 79 = some .long := by decide +kernel
theorem k_78_131 : zD 78 131 = some (.lastore, 1, none) := by decide +kernel
theorem k_78_132 : zD 78 132 = some (.goto (23), 3, none) ∧ zTg 132 (23) = some 155 := by decide +kernel
theorem k_78_135 : zD 78 135 = some (.aload_n 0, 1, none) := by decide +kernel
theorem k_78_136 : zD 78 136 = some (.getfield 21, 3, none) ∧ zFl (zOn 78) 21 = some (4, 3) ∧ zFc 4 3 = some 3 := by decide +kernel
theorem k_78_139 : zD 78 139 = some (.iload 9, 2, none) := by decide +kernel
theorem k_78_141 : zD 78 141 = some (.aload_n 1, 1, none) := by decide +kernel
theorem k_78_142 : zD 78 142 = some (.aload_n 0, 1, none) := by decide +kernel
theorem k_78_143 : zD 78 143 = some (.getfield 21, 3, none) ∧ zFl (zOn 78) 21 = some (4, 3) ∧ zFc 4 3 = some 3 := by decide +kernel
theorem k_78_146 : zD 78 146 = some (.iload 9, 2, none) := by decide +kernel
theorem k_78_148 : zD 78 148 = some (.laload, 1, none) := by decide +kernel
theorem k_78_149 : zD 78 149 = some (.iload 4, 2, none) := by decide +kernel
theorem k_78_151 : zD 78 151 = some (.invokevirtual 124, 3, none) ∧ zCk (zOn 78) 124 = some (0, 80) ∧ zNp 80 = 2 ∧ zML 80 = 9 ∧ zCo[6]? = some (zOn 80) ∧ zRt 80 = some .long := by decide +kernel
theorem k_78_154 : zD 78 154 = some (.lastore, 1, none) := by decide +kernel
theorem k_78_161 : zD 78 161 = some (.iinc 7 (1), 3, none) := by decide +kernel
theorem k_78_164 : zD 78 164 = some (.goto (-148), 3, none) ∧ zTg 164 (-148) = some 16 := by decide +kernel
theorem kd_78_16 : zD 78 16 = some (.iload 7, 2, some [true, true, true, true, true, true, true, true, false, false]) := k_78_16
theorem kd_78_28 : zD 78 28 = some (.iload 8, 2, some [true, true, true, true, true, true, true, true, true, false]) := k_78_28
theorem kd_78_155 : zD 78 155 = some (.iinc 8 (1), 3, some [true, true, true, true, true, true, true, true, true, false]) := k_78_155
theorem ml_82 : zML 82 = 7 := by decide +kernel
theorem rt_82 : zRt 82 = none := by decide +kernel
theorem k_82_0 : zD 82 0 = some (.aload_n 0, 1, none) := by decide +kernel
theorem k_82_1 : zD 82 1 = some (.getfield 34, 3, none) ∧ zFl (zOn 82) 34 = some (4, 5) ∧ zFc 4 5 = some 0 := by decide +kernel
theorem k_82_4 : zD 82 4 = some (.iconst (5), 1, none) := by decide +kernel
theorem k_82_5 : zD 82 5 = some (.imul, 1, none) := by decide +kernel
theorem k_82_6 : zD 82 6 = some (.istore 6, 2, none) := by decide +kernel
theorem k_82_8 : zD 82 8 = some (.aload_n 0, 1, none) := by decide +kernel
theorem k_82_9 : zD 82 9 = some (.getfield 25, 3, none) ∧ zFl (zOn 82) 25 = some (4, 4) ∧ zFc 4 4 = some 3 := by decide +kernel
theorem k_82_12 : zD 82 12 = some (.iload 6, 2, none) := by decide +kernel
theorem k_82_14 : zD 82 14 = some (.iload_n 1, 1, none) := by decide +kernel
theorem k_82_15 : zD 82 15 = some (.iastore, 1, none) := by decide +kernel
theorem k_82_16 : zD 82 16 = some (.aload_n 0, 1, none) := by decide +kernel
theorem k_82_17 : zD 82 17 = some (.getfield 25, 3, none) ∧ zFl (zOn 82) 25 = some (4, 4) ∧ zFc 4 4 = some 3 := by decide +kernel
theorem k_82_20 : zD 82 20 = some (.iload 6, 2, none) := by decide +kernel
theorem k_82_22 : zD 82 22 = some (.iconst (1), 1, none) := by decide +kernel
theorem k_82_23 : zD 82 23 = some (.iadd, 1, none) := by decide +kernel
theorem k_82_24 : zD 82 24 = some (.iload_n 2, 1, none) := by decide +kernel
theorem k_82_25 : zD 82 25 = some (.iastore, 1, none) := by decide +kernel
theorem k_82_26 : zD 82 26 = some (.aload_n 0, 1, none) := by decide +kernel
theorem k_82_27 : zD 82 27 = some (.getfield 25, 3, none) ∧ zFl (zOn 82) 25 = some (4, 4) ∧ zFc 4 4 = some 3 := by decide +kernel
theorem k_82_30 : zD 82 30 = some (.iload 6, 2, none) := by decide +kernel
theorem k_82_32 : zD 82 32 = some (.iconst (2), 1, none) := by decide +kernel
theorem k_82_33 : zD 82 33 = some (.iadd, 1, none) := by decide +kernel
theorem k_82_34 : zD 82 34 = some (.iload_n 3, 1, none) := by decide +kernel
theorem k_82_35 : zD 82 35 = some (.iastore, 1, none) := by decide +kernel
theorem k_82_36 : zD 82 36 = some (.aload_n 0, 1, none) := by decide +kernel
theorem k_82_37 : zD 82 37 = some (.getfield 25, 3, none) ∧ zFl (zOn 82) 25 = some (4, 4) ∧ zFc 4 4 = some 3 := by decide +kernel
theorem k_82_40 : zD 82 40 = some (.iload 6, 2, none) := by decide +kernel
theorem k_82_42 : zD 82 42 = some (.iconst (3), 1, none) := by decide +kernel
theorem k_82_43 : zD 82 43 = some (.iadd, 1, none) := by decide +kernel
theorem k_82_44 : zD 82 44 = some (.iload 4, 2, none) := by decide +kernel
theorem k_82_46 : zD 82 46 = some (.iastore, 1, none) := by decide +kernel
theorem k_82_47 : zD 82 47 = some (.aload_n 0, 1, none) := by decide +kernel
theorem k_82_48 : zD 82 48 = some (.getfield 25, 3, none) ∧ zFl (zOn 82) 25 = some (4, 4) ∧ zFc 4 4 = some 3 := by decide +kernel
theorem k_82_51 : zD 82 51 = some (.iload 6, 2, none) := by decide +kernel
theorem k_82_53 : zD 82 53 = some (.iconst (4), 1, none) := by decide +kernel
theorem k_82_54 : zD 82 54 = some (.iadd, 1, none) := by decide +kernel
theorem k_82_55 : zD 82 55 = some (.iload 5, 2, none) := by decide +kernel
theorem k_82_57 : zD 82 57 = some (.iastore, 1, none) := by decide +kernel
theorem k_82_58 : zD 82 58 = some (.aload_n 0, 1, none) := by decide +kernel
theorem k_82_59 : zD 82 59 = some (.dup, 1, none) := by decide +kernel
theorem k_82_60 : zD 82 60 = some (.getfield 34, 3, none) ∧ zFl (zOn 82) 34 = some (4, 5) ∧ zFc 4 5 = some 0 := by decide +kernel
theorem k_82_63 : zD 82 63 = some (.iconst (1), 1, none) := by decide +kernel
theorem k_82_64 : zD 82 64 = some (.iadd, 1, none) := by decide +kernel
theorem k_82_65 : zD 82 65 = some (.putfield 34, 3, none) ∧ zFl (zOn 82) 34 = some (4, 5) ∧ zFc 4 5 = some 0 := by decide +kernel
theorem k_82_68 : zD 82 68 = some (.return_, 1, none) := by decide +kernel
theorem ml_84 : zML 84 = 9 := by decide +kernel
theorem rt_84 : zRt 84 = some .int := by decide +kernel
theorem k_84_0 : zD 84 0 = some (.aload_n 0, 1, none) := by decide +kernel
theorem k_84_1 : zD 84 1 = some (.aload_n 1, 1, none) := by decide +kernel
theorem k_84_2 : zD 84 2 = some (.iload_n 3, 1, none) := by decide +kernel
theorem k_84_3 : zD 84 3 = some (.invokevirtual 127, 3, none) ∧ zCk (zOn 84) 127 = some (0, 56) ∧ zNp 56 = 2 ∧ zML 56 = 3 ∧ zCo[4]? = some (zOn 56) ∧ (zRt 56 = some .int ∨ zRt 56 = some .boolean ∨ zRt 56 = some .char ∨ zRt 56 = some .byte) := by decide +kernel
theorem k_84_6 : zD 84 6 = some (.aload_n 0, 1, none) := by decide +kernel
theorem k_84_7 : zD 84 7 = some (.getfield 9, 3, none) ∧ zFl (zOn 84) 9 = some (4, 0) ∧ zFc 4 0 = some 3 := by decide +kernel
theorem k_84_10 : zD 84 10 = some (.iload_n 3, 1, none) := by decide +kernel
theorem k_84_11 : zD 84 11 = some (.iaload, 1, none) := by decide +kernel
theorem k_84_12 : zD 84 12 = some (.iconst (-1), 1, none) := by decide +kernel
theorem k_84_13 : zD 84 13 = some (.ixor, 1, none) := by decide +kernel
theorem k_84_14 : zD 84 14 = some (.iand, 1, none) := by decide +kernel
theorem k_84_15 : zD 84 15 = some (.istore 4, 2, none) := by decide +kernel
theorem k_84_17 : zD 84 17 = some (.aload_n 0, 1, none) := by decide +kernel
theorem k_84_18 : zD 84 18 = some (.getfield 21, 3, none) ∧ zFl (zOn 84) 21 = some (4, 3) ∧ zFc 4 3 = some 3 := by decide +kernel
theorem k_84_21 : zD 84 21 = some (.iload_n 3, 1, none) := by decide +kernel
theorem k_84_22 : zD 84 22 = some (.iconst (5), 1, none) := by decide +kernel
theorem k_84_23 : zD 84 23 = some (.imul, 1, none) := by decide +kernel
theorem k_84_24 : zD 84 24 = some (.iload_n 2, 1, none) := by decide +kernel
theorem k_84_25 : zD 84 25 = some (.iadd, 1, none) := by decide +kernel
theorem k_84_26 : zD 84 26 = some (.laload, 1, none) := by decide +kernel
theorem k_84_27 : zD 84 27 = some (.lstore 5, 2, none) := by decide +kernel
theorem k_84_29 : zD 84 29 = some (.lload 5, 2, none) := by decide +kernel
theorem k_84_31 : zD 84 31 = some (.iload 4, 2, none) := by decide +kernel
theorem k_84_33 : zD 84 33 = some (.invokestatic 131, 3, none) ∧ zAt.lookup (zOn 84, 131) = none ∧ zCk (zOn 84) 131 = some (1, 85) ∧ (1 = 1 ∨ 1 = 3) ∧ zNp 85 = 2 ∧ zML 85 = 6 ∧ zRt 85 = some .long := by decide +kernel
theorem k_84_36 : zD 84 36 = some (.lstore 7, 2, none) := by decide +kernel
theorem k_84_38 : zD 84 38 = some (.aload_n 0, 1, none) := by decide +kernel
theorem k_84_39 : zD 84 39 = some (.getfield 21, 3, none) ∧ zFl (zOn 84) 21 = some (4, 3) ∧ zFc 4 3 = some 3 := by decide +kernel
theorem k_84_42 : zD 84 42 = some (.iload_n 3, 1, none) := by decide +kernel
theorem k_84_43 : zD 84 43 = some (.iconst (5), 1, none) := by decide +kernel
theorem k_84_44 : zD 84 44 = some (.imul, 1, none) := by decide +kernel
theorem k_84_45 : zD 84 45 = some (.iload_n 2, 1, none) := by decide +kernel
theorem k_84_46 : zD 84 46 = some (.iadd, 1, none) := by decide +kernel
theorem k_84_47 : zD 84 47 = some (.lload 7, 2, none) := by decide +kernel
theorem k_84_49 : zD 84 49 = some (.lastore, 1, none) := by decide +kernel
theorem k_84_50 : zD 84 50 = some (.lload 5, 2, none) := by decide +kernel
theorem k_84_52 : zD 84 52 = some (.invokestatic 92, 3, none) ∧ zAt.lookup (zOn 84, 92) = none ∧ zCk (zOn 84) 92 = some (1, 50) ∧ (1 = 1 ∨ 1 = 3) ∧ zNp 50 = 1 ∧ zML 50 = 2 ∧ (zRt 50 = some .int ∨ zRt 50 = some .boolean ∨ zRt 50 = some .char ∨ zRt 50 = some .byte) := by decide +kernel
theorem k_84_55 : zD 84 55 = some (.lload 7, 2, none) := by decide +kernel
theorem k_84_57 : zD 84 57 = some (.invokestatic 92, 3, none) ∧ zAt.lookup (zOn 84, 92) = none ∧ zCk (zOn 84) 92 = some (1, 50) ∧ (1 = 1 ∨ 1 = 3) ∧ zNp 50 = 1 ∧ zML 50 = 2 ∧ (zRt 50 = some .int ∨ zRt 50 = some .boolean ∨ zRt 50 = some .char ∨ zRt 50 = some .byte) := by decide +kernel
theorem k_84_60 : zD 84 60 = some (.isub, 1, none) := by decide +kernel
theorem k_84_61 : zD 84 61 = some (.ireturn, 1, none) := by decide +kernel
theorem ml_87 : zML 87 = 7 := by decide +kernel
theorem rt_87 : zRt 87 = some .int := by decide +kernel
theorem k_87_0 : zD 87 0 = some (.iconst (0), 1, none) := by decide +kernel
theorem k_87_1 : zD 87 1 = some (.istore_n 2, 1, none) := by decide +kernel
theorem k_87_2 : zD 87 2 = some (.iconst (0), 1, none) := by decide +kernel
theorem k_87_3 : zD 87 3 = some (.istore_n 3, 1, none) := by decide +kernel
theorem k_87_4 : zD 87 4 = some (.iload_n 3, 1, some [true, true, true, true, false, false, false]) := by decide +kernel
theorem k_87_5 : zD 87 5 = some (.aload_n 1, 1, none) := by decide +kernel
theorem k_87_6 : zD 87 6 = some (.getfield 41, 3, none) ∧ zFl (zOn 87) 41 = some (6, 1) ∧ zFc 6 1 = some 0 := by decide +kernel
theorem k_87_9 : zD 87 9 = some (.if_icmp .ge (46), 3, none) ∧ zTg 9 (46) = some 55 := by decide +kernel
theorem k_87_12 : zD 87 12 = some (.aload_n 1, 1, none) := by decide +kernel
theorem k_87_13 : zD 87 13 = some (.aload_n 0, 1, none) := by decide +kernel
theorem k_87_14 : zD 87 14 = some (.getfield 9, 3, none) ∧ zFl (zOn 87) 9 = some (4, 0) ∧ zFc 4 0 = some 3 := by decide +kernel
theorem k_87_17 : zD 87 17 = some (.iload_n 3, 1, none) := by decide +kernel
theorem k_87_18 : zD 87 18 = some (.iaload, 1, none) := by decide +kernel
theorem k_87_19 : zD 87 19 = some (.invokevirtual 53, 3, none) ∧ zCk (zOn 87) 53 = some (0, 15) ∧ zNp 15 = 1 ∧ zML 15 = 2 ∧ zCo[6]? = some (zOn 15) ∧ (zRt 15 = some .int ∨ zRt 15 = some .boolean ∨ zRt 15 = some .char ∨ zRt 15 = some .byte) := by decide +kernel
theorem k_87_22 : zD 87 22 = some (.istore 4, 2, none) := by decide +kernel
theorem k_87_24 : zD 87 24 = some (.iload 4, 2, none) := by decide +kernel
theorem k_87_26 : zD 87 26 = some (.aload_n 0, 1, none) := by decide +kernel
theorem k_87_27 : zD 87 27 = some (.getfield 15, 3, none) ∧ zFl (zOn 87) 15 = some (4, 1) ∧ zFc 4 1 = some 3 := by decide +kernel
theorem k_87_30 : zD 87 30 = some (.iload_n 3, 1, none) := by decide +kernel
theorem k_87_31 : zD 87 31 = some (.iaload, 1, none) := by decide +kernel
theorem k_87_32 : zD 87 32 = some (.if_icmp .eq (9), 3, none) ∧ zTg 32 (9) = some 41 := by decide +kernel
theorem k_87_41 : zD 87 41 = some (.aload_n 0, 1, some [true, true, true, true, true, false, false]) := by decide +kernel
theorem k_87_42 : zD 87 42 = some (.getfield 15, 3, none) ∧ zFl (zOn 87) 15 = some (4, 1) ∧ zFc 4 1 = some 3 := by decide +kernel
theorem k_87_45 : zD 87 45 = some (.iload_n 3, 1, none) := by decide +kernel
theorem k_87_46 : zD 87 46 = some (.iload 4, 2, none) := by decide +kernel
theorem k_87_48 : zD 87 48 = some (.iastore, 1, none) := by decide +kernel
theorem k_87_49 : zD 87 49 = some (.iinc 3 (1), 3, none) := by decide +kernel
theorem k_87_52 : zD 87 52 = some (.goto (-48), 3, none) ∧ zTg 52 (-48) = some 4 := by decide +kernel
theorem k_87_35 : zD 87 35 = some (.iload_n 2, 1, none) := by decide +kernel
theorem k_87_36 : zD 87 36 = some (.iconst (1), 1, none) := by decide +kernel
theorem k_87_37 : zD 87 37 = some (.iload_n 3, 1, none) := by decide +kernel
theorem k_87_38 : zD 87 38 = some (.ishl, 1, none) := by decide +kernel
theorem k_87_39 : zD 87 39 = some (.ior, 1, none) := by decide +kernel
theorem k_87_40 : zD 87 40 = some (.istore_n 2, 1, none) := by decide +kernel
theorem k_87_55 : zD 87 55 = some (.iconst (0), 1, none) := by decide +kernel
theorem k_87_56 : zD 87 56 = some (.istore_n 3, 1, none) := by decide +kernel
theorem k_87_57 : zD 87 57 = some (.iload_n 3, 1, some [true, true, true, true, false, false, false]) := by decide +kernel
theorem k_87_58 : zD 87 58 = some (.aload_n 1, 1, none) := by decide +kernel
theorem k_87_59 : zD 87 59 = some (.getfield 41, 3, none) ∧ zFl (zOn 87) 41 = some (6, 1) ∧ zFc 6 1 = some 0 := by decide +kernel
theorem k_87_62 : zD 87 62 = some (.if_icmp .ge (64), 3, none) ∧ zTg 62 (64) = some 126 := by decide +kernel
theorem k_87_65 : zD 87 65 = some (.iconst (0), 1, none) := by decide +kernel
theorem k_87_66 : zD 87 66 = some (.istore 4, 2, none) := by decide +kernel
theorem k_87_126 : zD 87 126 = some (.aload_n 0, 1, none) := by decide +kernel
theorem k_87_127 : zD 87 127 = some (.iconst (0), 1, none) := by decide +kernel
theorem k_87_128 : zD 87 128 = some (.putfield 34, 3, none) ∧ zFl (zOn 87) 34 = some (4, 5) ∧ zFc 4 5 = some 0 := by decide +kernel
theorem k_87_131 : zD 87 131 = some (.iload_n 2, 1, none) := by decide +kernel
theorem k_87_132 : zD 87 132 = some (.ireturn, 1, none) := by decide +kernel
theorem k_87_68 : zD 87 68 = some (.iload 4, 2, some [true, true, true, true, true, false, false]) := by decide +kernel
theorem k_87_70 : zD 87 70 = some (.aload_n 1, 1, none) := by decide +kernel
theorem k_87_71 : zD 87 71 = some (.getfield 41, 3, none) ∧ zFl (zOn 87) 41 = some (6, 1) ∧ zFc 6 1 = some 0 := by decide +kernel
theorem k_87_74 : zD 87 74 = some (.if_icmp .ge (46), 3, none) ∧ zTg 74 (46) = some 120 := by decide +kernel
theorem k_87_77 : zD 87 77 = some (.aload_n 1, 1, none) := by decide +kernel
theorem k_87_78 : zD 87 78 = some (.aload_n 0, 1, none) := by decide +kernel
theorem k_87_79 : zD 87 79 = some (.getfield 15, 3, none) ∧ zFl (zOn 87) 15 = some (4, 1) ∧ zFc 4 1 = some 3 := by decide +kernel
theorem k_87_82 : zD 87 82 = some (.iload 4, 2, none) := by decide +kernel
theorem k_87_84 : zD 87 84 = some (.iaload, 1, none) := by decide +kernel
theorem k_87_85 : zD 87 85 = some (.invokevirtual 56, 3, none) ∧ zCk (zOn 87) 56 = some (0, 19) ∧ zNp 19 = 1 ∧ zML 19 = 2 ∧ zCo[6]? = some (zOn 19) ∧ zRt 19 = some .long := by decide +kernel
theorem k_87_88 : zD 87 88 = some (.lstore 5, 2, none) := by decide +kernel
theorem k_87_90 : zD 87 90 = some (.aload_n 0, 1, none) := by decide +kernel
theorem k_87_91 : zD 87 91 = some (.getfield 21, 3, none) ∧ zFl (zOn 87) 21 = some (4, 3) ∧ zFc 4 3 = some 3 := by decide +kernel
theorem k_87_94 : zD 87 94 = some (.iload_n 3, 1, none) := by decide +kernel
theorem k_87_95 : zD 87 95 = some (.iconst (5), 1, none) := by decide +kernel
theorem k_87_96 : zD 87 96 = some (.imul, 1, none) := by decide +kernel
theorem k_87_97 : zD 87 97 = some (.iload 4, 2, none) := by decide +kernel
theorem k_87_99 : zD 87 99 = some (.iadd, 1, none) := by decide +kernel
theorem k_87_100 : zD 87 100 = some (.lload 5, 2, none) := by decide +kernel
theorem k_87_102 : zD 87 102 = some (.aload_n 0, 1, none) := by decide +kernel
theorem k_87_103 : zD 87 103 = some (.aload_n 1, 1, none) := by decide +kernel
theorem k_87_104 : zD 87 104 = some (.iload_n 3, 1, none) := by decide +kernel
theorem k_87_105 : zD 87 105 = some (.iload 4, 2, none) := by decide +kernel
theorem k_87_107 : zD 87 107 = some (.invokevirtual 60, 3, none) ∧ zCk (zOn 87) 60 = some (0, 65) ∧ zNp 65 = 3 ∧ zML 65 = 4 ∧ zCo[4]? = some (zOn 65) ∧ (zRt 65 = some .int ∨ zRt 65 = some .boolean ∨ zRt 65 = some .char ∨ zRt 65 = some .byte) := by decide +kernel
theorem k_87_110 : zD 87 110 = some (.invokestatic 64, 3, none) ∧ zAt.lookup (zOn 87, 64) = none ∧ zCk (zOn 87) 64 = some (1, 10) ∧ (1 = 1 ∨ 1 = 3) ∧ zNp 10 = 2 ∧ zML 10 = 6 ∧ zRt 10 = some .long := by decide +kernel
theorem k_87_113 : zD 87 113 = some (.lastore, 1, none) := by decide +kernel
theorem k_87_114 : zD 87 114 = some (.iinc 4 (1), 3, none) := by decide +kernel
theorem k_87_117 : zD 87 117 = some (.goto (-49), 3, none) ∧ zTg 117 (-49) = some 68 := by decide +kernel
theorem k_87_120 : zD 87 120 = some (.iinc 3 (1), 3, none) := by decide +kernel
theorem k_87_123 : zD 87 123 = some (.goto (-66), 3, none) ∧ zTg 123 (-66) = some 57 := by decide +kernel
theorem kd_87_4 : zD 87 4 = some (.iload_n 3, 1, some [true, true, true, true, false, false, false]) := k_87_4
theorem kd_87_57 : zD 87 57 = some (.iload_n 3, 1, some [true, true, true, true, false, false, false]) := k_87_57
theorem kd_87_68 : zD 87 68 = some (.iload 4, 2, some [true, true, true, true, true, false, false]) := k_87_68
theorem ml_107 : zML 107 = 8 := by decide +kernel
theorem rt_107 : zRt 107 = some .long := by decide +kernel
theorem k_107_0 : zD 107 0 = some (.aload_n 1, 1, none) := by decide +kernel
theorem k_107_1 : zD 107 1 = some (.aload_n 0, 1, none) := by decide +kernel
theorem k_107_2 : zD 107 2 = some (.getfield 15, 3, none) ∧ zFl (zOn 107) 15 = some (4, 1) ∧ zFc 4 1 = some 3 := by decide +kernel
theorem k_107_5 : zD 107 5 = some (.iload_n 2, 1, none) := by decide +kernel
theorem k_107_6 : zD 107 6 = some (.iaload, 1, none) := by decide +kernel
theorem k_107_7 : zD 107 7 = some (.invokevirtual 56, 3, none) ∧ zCk (zOn 107) 56 = some (0, 19) ∧ zNp 19 = 1 ∧ zML 19 = 2 ∧ zCo[6]? = some (zOn 19) ∧ zRt 19 = some .long := by decide +kernel
theorem k_107_10 : zD 107 10 = some (.lstore_n 3, 1, none) := by decide +kernel
theorem k_107_11 : zD 107 11 = some (.lconst 0, 1, none) := by decide +kernel
theorem k_107_12 : zD 107 12 = some (.lstore 5, 2, none) := by decide +kernel
theorem k_107_14 : zD 107 14 = some (.iconst (0), 1, none) := by decide +kernel
theorem k_107_15 : zD 107 15 = some (.istore 7, 2, none) := by decide +kernel
theorem k_107_17 : zD 107 17 = some (.iload 7, 2, some [true, true, true, true, false, true, false, true]) := by decide +kernel
theorem k_107_19 : zD 107 19 = some (.bipush (64), 2, none) := by decide +kernel
theorem k_107_21 : zD 107 21 = some (.if_icmp .ge (38), 3, none) ∧ zTg 21 (38) = some 59 := by decide +kernel
theorem k_107_24 : zD 107 24 = some (.lload_n 3, 1, none) := by decide +kernel
theorem k_107_25 : zD 107 25 = some (.iload 7, 2, none) := by decide +kernel
theorem k_107_27 : zD 107 27 = some (.invokestatic 134, 3, none) ∧ zAt.lookup (zOn 107, 134) = none ∧ zCk (zOn 107) 134 = some (1, 14) ∧ (1 = 1 ∨ 1 = 3) ∧ zNp 14 = 2 ∧ zML 14 = 3 ∧ (zRt 14 = some .int ∨ zRt 14 = some .boolean ∨ zRt 14 = some .char ∨ zRt 14 = some .byte) := by decide +kernel
theorem k_107_30 : zD 107 30 = some (.ifCond .eq (23), 3, none) ∧ zTg 30 (23) = some 53 := by decide +kernel
theorem k_107_53 : zD 107 53 = some (.iinc 7 (1), 3, some [true, true, true, true, false, true, false, true]) := by decide +kernel
theorem k_107_56 : zD 107 56 = some (.goto (-39), 3, none) ∧ zTg 56 (-39) = some 17 := by decide +kernel
theorem k_107_33 : zD 107 33 = some (.aload_n 0, 1, none) := by decide +kernel
theorem k_107_34 : zD 107 34 = some (.aload_n 1, 1, none) := by decide +kernel
theorem k_107_35 : zD 107 35 = some (.iload_n 2, 1, none) := by decide +kernel
theorem k_107_36 : zD 107 36 = some (.iload 7, 2, none) := by decide +kernel
theorem k_107_38 : zD 107 38 = some (.invokevirtual 138, 3, none) ∧ zCk (zOn 107) 138 = some (0, 108) ∧ zNp 108 = 3 ∧ zML 108 = 9 ∧ zCo[4]? = some (zOn 108) ∧ (zRt 108 = some .int ∨ zRt 108 = some .boolean ∨ zRt 108 = some .char ∨ zRt 108 = some .byte) := by decide +kernel
theorem k_107_41 : zD 107 41 = some (.ifCond .eq (12), 3, none) ∧ zTg 41 (12) = some 53 := by decide +kernel
theorem k_107_44 : zD 107 44 = some (.lload 5, 2, none) := by decide +kernel
theorem k_107_46 : zD 107 46 = some (.lconst 1, 1, none) := by decide +kernel
theorem k_107_47 : zD 107 47 = some (.iload 7, 2, none) := by decide +kernel
theorem k_107_49 : zD 107 49 = some (.lshl, 1, none) := by decide +kernel
theorem k_107_50 : zD 107 50 = some (.lor, 1, none) := by decide +kernel
theorem k_107_51 : zD 107 51 = some (.lstore 5, 2, none) := by decide +kernel
theorem k_107_59 : zD 107 59 = some (.lload 5, 2, none) := by decide +kernel
theorem k_107_61 : zD 107 61 = some (.lreturn, 1, none) := by decide +kernel
theorem kd_107_17 : zD 107 17 = some (.iload 7, 2, some [true, true, true, true, false, true, false, true]) := k_107_17
theorem ml_108 : zML 108 = 9 := by decide +kernel
theorem rt_108 : zRt 108 = some .boolean := by decide +kernel
theorem k_108_0 : zD 108 0 = some (.iload_n 3, 1, none) := by decide +kernel
theorem k_108_1 : zD 108 1 = some (.istore 4, 2, none) := by decide +kernel
theorem k_108_3 : zD 108 3 = some (.iconst (0), 1, none) := by decide +kernel
theorem k_108_4 : zD 108 4 = some (.istore 5, 2, none) := by decide +kernel
theorem k_108_6 : zD 108 6 = some (.iload 5, 2, some [true, true, true, false, true, true, false, false, false]) := by decide +kernel
theorem k_108_8 : zD 108 8 = some (.aload_n 0, 1, none) := by decide +kernel
theorem k_108_9 : zD 108 9 = some (.getfield 34, 3, none) ∧ zFl (zOn 108) 34 = some (4, 5) ∧ zFc 4 5 = some 0 := by decide +kernel
theorem k_108_12 : zD 108 12 = some (.if_icmp .ge (147), 3, none) ∧ zTg 12 (147) = some 159 := by decide +kernel
theorem k_108_15 : zD 108 15 = some (.iload 5, 2, none) := by decide +kernel
theorem k_108_17 : zD 108 17 = some (.bipush (60), 2, none) := by decide +kernel
theorem k_108_19 : zD 108 19 = some (.if_icmp .ge (140), 3, none) ∧ zTg 19 (140) = some 159 := by decide +kernel
theorem k_108_22 : zD 108 22 = some (.iload 5, 2, none) := by decide +kernel
theorem k_108_24 : zD 108 24 = some (.iconst (5), 1, none) := by decide +kernel
theorem k_108_25 : zD 108 25 = some (.imul, 1, none) := by decide +kernel
theorem k_108_26 : zD 108 26 = some (.istore 6, 2, none) := by decide +kernel
theorem k_108_28 : zD 108 28 = some (.iload 4, 2, none) := by decide +kernel
theorem k_108_30 : zD 108 30 = some (.aload_n 0, 1, none) := by decide +kernel
theorem k_108_31 : zD 108 31 = some (.getfield 25, 3, none) ∧ zFl (zOn 108) 25 = some (4, 4) ∧ zFc 4 4 = some 3 := by decide +kernel
theorem k_108_34 : zD 108 34 = some (.iload 6, 2, none) := by decide +kernel
theorem k_108_36 : zD 108 36 = some (.iconst (2), 1, none) := by decide +kernel
theorem k_108_37 : zD 108 37 = some (.iadd, 1, none) := by decide +kernel
theorem k_108_38 : zD 108 38 = some (.iaload, 1, none) := by decide +kernel
theorem k_108_39 : zD 108 39 = some (.invokestatic 101, 3, none) ∧ zAt.lookup (zOn 108, 101) = none ∧ zCk (zOn 108) 101 = some (3, 11) ∧ (3 = 1 ∨ 3 = 3) ∧ zNp 11 = 2 ∧ zML 11 = 2 ∧ (zRt 11 = some .int ∨ zRt 11 = some .boolean ∨ zRt 11 = some .char ∨ zRt 11 = some .byte) := by decide +kernel
theorem k_108_42 : zD 108 42 = some (.istore 7, 2, none) := by decide +kernel
theorem k_108_44 : zD 108 44 = some (.aload_n 0, 1, none) := by decide +kernel
theorem k_108_45 : zD 108 45 = some (.getfield 25, 3, none) ∧ zFl (zOn 108) 25 = some (4, 4) ∧ zFc 4 4 = some 3 := by decide +kernel
theorem k_108_48 : zD 108 48 = some (.iload 6, 2, none) := by decide +kernel
theorem k_108_50 : zD 108 50 = some (.iconst (1), 1, none) := by decide +kernel
theorem k_108_51 : zD 108 51 = some (.iadd, 1, none) := by decide +kernel
theorem k_108_52 : zD 108 52 = some (.iaload, 1, none) := by decide +kernel
theorem k_108_53 : zD 108 53 = some (.iload_n 2, 1, none) := by decide +kernel
theorem k_108_54 : zD 108 54 = some (.if_icmp .ne (7), 3, none) ∧ zTg 54 (7) = some 61 := by decide +kernel
theorem k_108_57 : zD 108 57 = some (.iconst (1), 1, none) := by decide +kernel
theorem k_108_58 : zD 108 58 = some (.goto (4), 3, none) ∧ zTg 58 (4) = some 62 := by decide +kernel
theorem k_108_61 : zD 108 61 = some (.iconst (0), 1, none) := by decide +kernel
theorem k_108_159 : zD 108 159 = some (.iconst (1), 1, some [false, false, false, false, false, false, false, false, false]) := by decide +kernel
theorem k_108_160 : zD 108 160 = some (.ireturn, 1, none) := by decide +kernel
theorem k_108_62 : zD 108 62 = some (.istore 8, 2, some [true, true, true, false, true, true, true, true, false]) := by decide +kernel
theorem k_108_64 : zD 108 64 = some (.aload_n 0, 1, none) := by decide +kernel
theorem k_108_65 : zD 108 65 = some (.getfield 25, 3, none) ∧ zFl (zOn 108) 25 = some (4, 4) ∧ zFc 4 4 = some 3 := by decide +kernel
theorem k_108_68 : zD 108 68 = some (.iload 6, 2, none) := by decide +kernel
theorem k_108_70 : zD 108 70 = some (.iaload, 1, none) := by decide +kernel
theorem k_108_71 : zD 108 71 = some (.iload_n 2, 1, none) := by decide +kernel
theorem k_108_72 : zD 108 72 = some (.if_icmp .ne (10), 3, none) ∧ zTg 72 (10) = some 82 := by decide +kernel
theorem k_108_75 : zD 108 75 = some (.iload 7, 2, none) := by decide +kernel
theorem k_108_77 : zD 108 77 = some (.ifCond .ne (5), 3, none) ∧ zTg 77 (5) = some 82 := by decide +kernel
theorem k_108_80 : zD 108 80 = some (.iconst (0), 1, none) := by decide +kernel
theorem k_108_81 : zD 108 81 = some (.ireturn, 1, none) := by decide +kernel
theorem k_108_82 : zD 108 82 = some (.iload 8, 2, some [true, true, true, false, true, true, true, true, true]) := by decide +kernel
theorem k_108_84 : zD 108 84 = some (.ifCond .eq (28), 3, none) ∧ zTg 84 (28) = some 112 := by decide +kernel
theorem k_108_87 : zD 108 87 = some (.iload 7, 2, none) := by decide +kernel
theorem k_108_89 : zD 108 89 = some (.aload_n 0, 1, none) := by decide +kernel
theorem k_108_90 : zD 108 90 = some (.getfield 25, 3, none) ∧ zFl (zOn 108) 25 = some (4, 4) ∧ zFc 4 4 = some 3 := by decide +kernel
theorem k_108_93 : zD 108 93 = some (.iload 6, 2, none) := by decide +kernel
theorem k_108_95 : zD 108 95 = some (.iconst (4), 1, none) := by decide +kernel
theorem k_108_96 : zD 108 96 = some (.iadd, 1, none) := by decide +kernel
theorem k_108_97 : zD 108 97 = some (.iaload, 1, none) := by decide +kernel
theorem k_108_98 : zD 108 98 = some (.iconst (1), 1, none) := by decide +kernel
theorem k_108_99 : zD 108 99 = some (.if_icmp .ne (7), 3, none) ∧ zTg 99 (7) = some 106 := by decide +kernel
theorem k_108_102 : zD 108 102 = some (.iconst (1), 1, none) := by decide +kernel
theorem k_108_103 : zD 108 103 = some (.goto (4), 3, none) ∧ zTg 103 (4) = some 107 := by decide +kernel
theorem k_108_106 : zD 108 106 = some (.iconst (0), 1, none) := by decide +kernel
theorem k_108_107 : zD 108 107 = some (.if_icmp .eq (5), 3, some [true, true, true, false, true, true, true, false, true]) ∧ zTg 107 (5) = some 112 := by decide +kernel
theorem k_108_110 : zD 108 110 = some (.iconst (0), 1, none) := by decide +kernel
theorem k_108_111 : zD 108 111 = some (.ireturn, 1, none) := by decide +kernel
theorem k_108_112 : zD 108 112 = some (.iload 8, 2, some [true, true, true, false, true, true, true, false, true]) := by decide +kernel
theorem k_108_114 : zD 108 114 = some (.ifCond .ne (19), 3, none) ∧ zTg 114 (19) = some 133 := by decide +kernel
theorem k_108_117 : zD 108 117 = some (.aload_n 0, 1, none) := by decide +kernel
theorem k_108_118 : zD 108 118 = some (.getfield 25, 3, none) ∧ zFl (zOn 108) 25 = some (4, 4) ∧ zFc 4 4 = some 3 := by decide +kernel
theorem k_108_121 : zD 108 121 = some (.iload 6, 2, none) := by decide +kernel
theorem k_108_123 : zD 108 123 = some (.iconst (3), 1, none) := by decide +kernel
theorem k_108_124 : zD 108 124 = some (.iadd, 1, none) := by decide +kernel
theorem k_108_125 : zD 108 125 = some (.iaload, 1, none) := by decide +kernel
theorem k_108_126 : zD 108 126 = some (.iload_n 2, 1, none) := by decide +kernel
theorem k_108_127 : zD 108 127 = some (.invokestatic 101, 3, none) ∧ zAt.lookup (zOn 108, 101) = none ∧ zCk (zOn 108) 101 = some (3, 11) ∧ (3 = 1 ∨ 3 = 3) ∧ zNp 11 = 2 ∧ zML 11 = 2 ∧ (zRt 11 = some .int ∨ zRt 11 = some .boolean ∨ zRt 11 = some .char ∨ zRt 11 = some .byte) := by decide +kernel
theorem k_108_130 : zD 108 130 = some (.ifCond .eq (23), 3, none) ∧ zTg 130 (23) = some 153 := by decide +kernel
theorem k_108_153 : zD 108 153 = some (.iinc 5 (1), 3, some [true, true, true, false, true, true, false, false, false]) := by decide +kernel
theorem k_108_156 : zD 108 156 = some (.goto (-150), 3, none) ∧ zTg 156 (-150) = some 6 := by decide +kernel
theorem k_108_133 : zD 108 133 = some (.aload_n 1, 1, some [true, true, true, false, true, true, true, false, false]) := by decide +kernel
theorem k_108_134 : zD 108 134 = some (.iload 4, 2, none) := by decide +kernel
theorem k_108_136 : zD 108 136 = some (.iconst (1), 1, none) := by decide +kernel
theorem k_108_137 : zD 108 137 = some (.aload_n 0, 1, none) := by decide +kernel
theorem k_108_138 : zD 108 138 = some (.getfield 25, 3, none) ∧ zFl (zOn 108) 25 = some (4, 4) ∧ zFc 4 4 = some 3 := by decide +kernel
theorem k_108_141 : zD 108 141 = some (.iload 6, 2, none) := by decide +kernel
theorem k_108_143 : zD 108 143 = some (.iconst (2), 1, none) := by decide +kernel
theorem k_108_144 : zD 108 144 = some (.iadd, 1, none) := by decide +kernel
theorem k_108_145 : zD 108 145 = some (.iaload, 1, none) := by decide +kernel
theorem k_108_146 : zD 108 146 = some (.ishl, 1, none) := by decide +kernel
theorem k_108_147 : zD 108 147 = some (.ior, 1, none) := by decide +kernel
theorem k_108_148 : zD 108 148 = some (.invokevirtual 49, 3, none) ∧ zCk (zOn 108) 49 = some (0, 18) ∧ zNp 18 = 1 ∧ zML 18 = 4 ∧ zCo[6]? = some (zOn 18) ∧ (zRt 18 = some .int ∨ zRt 18 = some .boolean ∨ zRt 18 = some .char ∨ zRt 18 = some .byte) := by decide +kernel
theorem k_108_151 : zD 108 151 = some (.istore 4, 2, none) := by decide +kernel
theorem kd_108_6 : zD 108 6 = some (.iload 5, 2, some [true, true, true, false, true, true, false, false, false]) := k_108_6
theorem kd_108_62 : zD 108 62 = some (.istore 8, 2, some [true, true, true, false, true, true, true, true, false]) := k_108_62
theorem kd_108_82 : zD 108 82 = some (.iload 8, 2, some [true, true, true, false, true, true, true, true, true]) := k_108_82
theorem kd_108_107 : zD 108 107 = some (.if_icmp .eq (5), 3, some [true, true, true, false, true, true, true, false, true]) := k_108_107.1
theorem kd_108_112 : zD 108 112 = some (.iload 8, 2, some [true, true, true, false, true, true, true, false, true]) := k_108_112
theorem kd_108_133 : zD 108 133 = some (.aload_n 1, 1, some [true, true, true, false, true, true, true, false, false]) := k_108_133
theorem kd_108_153 : zD 108 153 = some (.iinc 5 (1), 3, some [true, true, true, false, true, true, false, false, false]) := k_108_153
theorem kd_108_159 : zD 108 159 = some (.iconst (1), 1, some [false, false, false, false, false, false, false, false, false]) := k_108_159
theorem ml_110 : zML 110 = 5 := by decide +kernel
theorem rt_110 : zRt 110 = some .int := by decide +kernel
theorem k_110_0 : zD 110 0 = some (.iconst (0), 1, none) := by decide +kernel
theorem k_110_1 : zD 110 1 = some (.istore_n 3, 1, none) := by decide +kernel
theorem k_110_2 : zD 110 2 = some (.iconst (0), 1, none) := by decide +kernel
theorem k_110_3 : zD 110 3 = some (.istore 4, 2, none) := by decide +kernel
theorem k_110_5 : zD 110 5 = some (.iload 4, 2, some [true, true, true, true, true]) := by decide +kernel
theorem k_110_7 : zD 110 7 = some (.aload_n 1, 1, none) := by decide +kernel
theorem k_110_8 : zD 110 8 = some (.getfield 41, 3, none) ∧ zFl (zOn 110) 41 = some (6, 1) ∧ zFc 6 1 = some 0 := by decide +kernel
theorem k_110_11 : zD 110 11 = some (.if_icmp .ge (43), 3, none) ∧ zTg 11 (43) = some 54 := by decide +kernel
theorem k_110_14 : zD 110 14 = some (.iload 4, 2, none) := by decide +kernel
theorem k_110_16 : zD 110 16 = some (.iload_n 2, 1, none) := by decide +kernel
theorem k_110_17 : zD 110 17 = some (.if_icmp .eq (31), 3, none) ∧ zTg 17 (31) = some 48 := by decide +kernel
theorem k_110_48 : zD 110 48 = some (.iinc 4 (1), 3, some [true, true, true, true, true]) := by decide +kernel
theorem k_110_51 : zD 110 51 = some (.goto (-46), 3, none) ∧ zTg 51 (-46) = some 5 := by decide +kernel
theorem k_110_20 : zD 110 20 = some (.iload_n 3, 1, none) := by decide +kernel
theorem k_110_21 : zD 110 21 = some (.aload_n 0, 1, none) := by decide +kernel
theorem k_110_22 : zD 110 22 = some (.aload_n 1, 1, none) := by decide +kernel
theorem k_110_23 : zD 110 23 = some (.iload_n 2, 1, none) := by decide +kernel
theorem k_110_24 : zD 110 24 = some (.iload 4, 2, none) := by decide +kernel
theorem k_110_26 : zD 110 26 = some (.invokevirtual 60, 3, none) ∧ zCk (zOn 110) 60 = some (0, 65) ∧ zNp 65 = 3 ∧ zML 65 = 4 ∧ zCo[4]? = some (zOn 65) ∧ (zRt 65 = some .int ∨ zRt 65 = some .boolean ∨ zRt 65 = some .char ∨ zRt 65 = some .byte) := by decide +kernel
theorem k_110_29 : zD 110 29 = some (.invokestatic 84, 3, none) ∧ zAt.lookup (zOn 110, 84) = none ∧ zCk (zOn 110) 84 = some (1, 96) ∧ (1 = 1 ∨ 1 = 3) ∧ zNp 96 = 1 ∧ zML 96 = 1 ∧ (zRt 96 = some .int ∨ zRt 96 = some .boolean ∨ zRt 96 = some .char ∨ zRt 96 = some .byte) := by decide +kernel
theorem k_110_32 : zD 110 32 = some (.iadd, 1, none) := by decide +kernel
theorem k_110_33 : zD 110 33 = some (.istore_n 3, 1, none) := by decide +kernel
theorem k_110_34 : zD 110 34 = some (.iload_n 3, 1, none) := by decide +kernel
theorem k_110_35 : zD 110 35 = some (.aload_n 0, 1, none) := by decide +kernel
theorem k_110_36 : zD 110 36 = some (.aload_n 1, 1, none) := by decide +kernel
theorem k_110_37 : zD 110 37 = some (.iload_n 2, 1, none) := by decide +kernel
theorem k_110_38 : zD 110 38 = some (.iload 4, 2, none) := by decide +kernel
theorem k_110_40 : zD 110 40 = some (.invokevirtual 89, 3, none) ∧ zCk (zOn 110) 89 = some (0, 67) ∧ zNp 67 = 3 ∧ zML 67 = 4 ∧ zCo[4]? = some (zOn 67) ∧ (zRt 67 = some .int ∨ zRt 67 = some .boolean ∨ zRt 67 = some .char ∨ zRt 67 = some .byte) := by decide +kernel
theorem k_110_43 : zD 110 43 = some (.invokestatic 84, 3, none) ∧ zAt.lookup (zOn 110, 84) = none ∧ zCk (zOn 110) 84 = some (1, 96) ∧ (1 = 1 ∨ 1 = 3) ∧ zNp 96 = 1 ∧ zML 96 = 1 ∧ (zRt 96 = some .int ∨ zRt 96 = some .boolean ∨ zRt 96 = some .char ∨ zRt 96 = some .byte) := by decide +kernel
theorem k_110_46 : zD 110 46 = some (.iadd, 1, none) := by decide +kernel
theorem k_110_47 : zD 110 47 = some (.istore_n 3, 1, none) := by decide +kernel
theorem k_110_54 : zD 110 54 = some (.iload_n 3, 1, none) := by decide +kernel
theorem k_110_55 : zD 110 55 = some (.ireturn, 1, none) := by decide +kernel
theorem kd_110_5 : zD 110 5 = some (.iload 4, 2, some [true, true, true, true, true]) := k_110_5
theorem ml_119 : zML 119 = 2 := by decide +kernel
theorem rt_119 : zRt 119 = some .int := by decide +kernel
theorem k_119_0 : zD 119 0 = some (.aload_n 0, 1, none) := by decide +kernel
theorem k_119_1 : zD 119 1 = some (.aload_n 0, 1, none) := by decide +kernel
theorem k_119_2 : zD 119 2 = some (.getfield 38, 3, none) ∧ zFl (zOn 119) 38 = some (4, 6) ∧ zFc 4 6 = some 0 := by decide +kernel
theorem k_119_5 : zD 119 5 = some (.i2l, 1, none) := by decide +kernel
theorem k_119_6 : zD 119 6 = some (.ldc2_w 142, 3, none) ∧ zKc (zOn 119) 142 = some (.inr 1103515245) := by decide +kernel
theorem k_119_9 : zD 119 9 = some (.lmul, 1, none) := by decide +kernel
theorem k_119_10 : zD 119 10 = some (.ldc2_w 144, 3, none) ∧ zKc (zOn 119) 144 = some (.inr 12345) := by decide +kernel
theorem k_119_13 : zD 119 13 = some (.ladd, 1, none) := by decide +kernel
theorem k_119_14 : zD 119 14 = some (.ldc2_w 146, 3, none) ∧ zKc (zOn 119) 146 = some (.inr 2147483647) := by decide +kernel
theorem k_119_17 : zD 119 17 = some (.land, 1, none) := by decide +kernel
theorem k_119_18 : zD 119 18 = some (.l2i, 1, none) := by decide +kernel
theorem k_119_19 : zD 119 19 = some (.putfield 38, 3, none) ∧ zFl (zOn 119) 38 = some (4, 6) ∧ zFc 4 6 = some 0 := by decide +kernel
theorem k_119_22 : zD 119 22 = some (.iload_n 1, 1, none) := by decide +kernel
theorem k_119_23 : zD 119 23 = some (.ifCond .le (15), 3, none) ∧ zTg 23 (15) = some 38 := by decide +kernel
theorem k_119_26 : zD 119 26 = some (.aload_n 0, 1, none) := by decide +kernel
theorem k_119_27 : zD 119 27 = some (.getfield 38, 3, none) ∧ zFl (zOn 119) 38 = some (4, 6) ∧ zFc 4 6 = some 0 := by decide +kernel
theorem k_119_30 : zD 119 30 = some (.ldc 148, 2, none) ∧ zKc (zOn 119) 148 = some (.inl 65536) := by decide +kernel
theorem k_119_32 : zD 119 32 = some (.idiv, 1, none) := by decide +kernel
theorem k_119_33 : zD 119 33 = some (.iload_n 1, 1, none) := by decide +kernel
theorem k_119_34 : zD 119 34 = some (.irem, 1, none) := by decide +kernel
theorem k_119_35 : zD 119 35 = some (.goto (4), 3, none) ∧ zTg 35 (4) = some 39 := by decide +kernel
theorem k_119_39 : zD 119 39 = some (.ireturn, 1, some [false, false]) := by decide +kernel
theorem k_119_38 : zD 119 38 = some (.iconst (0), 1, none) := by decide +kernel
theorem kd_119_39 : zD 119 39 = some (.ireturn, 1, some [false, false]) := k_119_39
theorem ml_123 : zML 123 = 2 := by decide +kernel
theorem rt_123 : zRt 123 = none := by decide +kernel
theorem k_123_0 : zD 123 0 = some (.aload_n 1, 1, none) := by decide +kernel
theorem k_123_1 : zD 123 1 = some (.getfield 9, 3, none) ∧ zFl (zOn 123) 9 = some (4, 0) ∧ zFc 4 0 = some 3 := by decide +kernel
theorem k_123_4 : zD 123 4 = some (.iconst (0), 1, none) := by decide +kernel
theorem k_123_5 : zD 123 5 = some (.aload_n 0, 1, none) := by decide +kernel
theorem k_123_6 : zD 123 6 = some (.getfield 9, 3, none) ∧ zFl (zOn 123) 9 = some (4, 0) ∧ zFc 4 0 = some 3 := by decide +kernel
theorem k_123_9 : zD 123 9 = some (.iconst (0), 1, none) := by decide +kernel
theorem k_123_10 : zD 123 10 = some (.iconst (5), 1, none) := by decide +kernel
theorem k_123_11 : zD 123 11 = some (.invokestatic 28, 3, none) ∧ (zAt.lookup (zOn 123, 28)).isSome = true := by decide +kernel
theorem k_123_14 : zD 123 14 = some (.aload_n 1, 1, none) := by decide +kernel
theorem k_123_15 : zD 123 15 = some (.getfield 15, 3, none) ∧ zFl (zOn 123) 15 = some (4, 1) ∧ zFc 4 1 = some 3 := by decide +kernel
theorem k_123_18 : zD 123 18 = some (.iconst (0), 1, none) := by decide +kernel
theorem k_123_19 : zD 123 19 = some (.aload_n 0, 1, none) := by decide +kernel
theorem k_123_20 : zD 123 20 = some (.getfield 15, 3, none) ∧ zFl (zOn 123) 15 = some (4, 1) ∧ zFc 4 1 = some 3 := by decide +kernel
theorem k_123_23 : zD 123 23 = some (.iconst (0), 1, none) := by decide +kernel
theorem k_123_24 : zD 123 24 = some (.iconst (5), 1, none) := by decide +kernel
theorem k_123_25 : zD 123 25 = some (.invokestatic 28, 3, none) ∧ (zAt.lookup (zOn 123, 28)).isSome = true := by decide +kernel
theorem k_123_28 : zD 123 28 = some (.aload_n 1, 1, none) := by decide +kernel
theorem k_123_29 : zD 123 29 = some (.getfield 18, 3, none) ∧ zFl (zOn 123) 18 = some (4, 2) ∧ zFc 4 2 = some 3 := by decide +kernel
theorem k_123_32 : zD 123 32 = some (.iconst (0), 1, none) := by decide +kernel
theorem k_123_33 : zD 123 33 = some (.aload_n 0, 1, none) := by decide +kernel
theorem k_123_34 : zD 123 34 = some (.getfield 18, 3, none) ∧ zFl (zOn 123) 18 = some (4, 2) ∧ zFc 4 2 = some 3 := by decide +kernel
theorem k_123_37 : zD 123 37 = some (.iconst (0), 1, none) := by decide +kernel
theorem k_123_38 : zD 123 38 = some (.iconst (5), 1, none) := by decide +kernel
theorem k_123_39 : zD 123 39 = some (.invokestatic 28, 3, none) ∧ (zAt.lookup (zOn 123, 28)).isSome = true := by decide +kernel
theorem k_123_42 : zD 123 42 = some (.aload_n 1, 1, none) := by decide +kernel
theorem k_123_43 : zD 123 43 = some (.getfield 21, 3, none) ∧ zFl (zOn 123) 21 = some (4, 3) ∧ zFc 4 3 = some 3 := by decide +kernel
theorem k_123_46 : zD 123 46 = some (.iconst (0), 1, none) := by decide +kernel
theorem k_123_47 : zD 123 47 = some (.aload_n 0, 1, none) := by decide +kernel
theorem k_123_48 : zD 123 48 = some (.getfield 21, 3, none) ∧ zFl (zOn 123) 21 = some (4, 3) ∧ zFc 4 3 = some 3 := by decide +kernel
theorem k_123_51 : zD 123 51 = some (.iconst (0), 1, none) := by decide +kernel
theorem k_123_52 : zD 123 52 = some (.bipush (25), 2, none) := by decide +kernel
theorem k_123_54 : zD 123 54 = some (.invokestatic 28, 3, none) ∧ (zAt.lookup (zOn 123, 28)).isSome = true := by decide +kernel
theorem k_123_57 : zD 123 57 = some (.aload_n 1, 1, none) := by decide +kernel
theorem k_123_58 : zD 123 58 = some (.getfield 25, 3, none) ∧ zFl (zOn 123) 25 = some (4, 4) ∧ zFc 4 4 = some 3 := by decide +kernel
theorem k_123_61 : zD 123 61 = some (.iconst (0), 1, none) := by decide +kernel
theorem k_123_62 : zD 123 62 = some (.aload_n 0, 1, none) := by decide +kernel
theorem k_123_63 : zD 123 63 = some (.getfield 25, 3, none) ∧ zFl (zOn 123) 25 = some (4, 4) ∧ zFc 4 4 = some 3 := by decide +kernel
theorem k_123_66 : zD 123 66 = some (.iconst (0), 1, none) := by decide +kernel
theorem k_123_67 : zD 123 67 = some (.sipush (300), 3, none) := by decide +kernel
theorem k_123_70 : zD 123 70 = some (.invokestatic 28, 3, none) ∧ (zAt.lookup (zOn 123, 28)).isSome = true := by decide +kernel
theorem k_123_73 : zD 123 73 = some (.aload_n 0, 1, none) := by decide +kernel
theorem k_123_74 : zD 123 74 = some (.aload_n 1, 1, none) := by decide +kernel
theorem k_123_75 : zD 123 75 = some (.getfield 34, 3, none) ∧ zFl (zOn 123) 34 = some (4, 5) ∧ zFc 4 5 = some 0 := by decide +kernel
theorem k_123_78 : zD 123 78 = some (.putfield 34, 3, none) ∧ zFl (zOn 123) 34 = some (4, 5) ∧ zFc 4 5 = some 0 := by decide +kernel
theorem k_123_81 : zD 123 81 = some (.aload_n 0, 1, none) := by decide +kernel
theorem k_123_82 : zD 123 82 = some (.aload_n 1, 1, none) := by decide +kernel
theorem k_123_83 : zD 123 83 = some (.getfield 38, 3, none) ∧ zFl (zOn 123) 38 = some (4, 6) ∧ zFc 4 6 = some 0 := by decide +kernel
theorem k_123_86 : zD 123 86 = some (.putfield 38, 3, none) ∧ zFl (zOn 123) 38 = some (4, 6) ∧ zFc 4 6 = some 0 := by decide +kernel
theorem k_123_89 : zD 123 89 = some (.return_, 1, none) := by decide +kernel
theorem ml_113 : zML 113 = 4 := by decide +kernel
theorem rt_113 : zRt 113 = some .boolean := by decide +kernel
theorem k_113_0 : zD 113 0 = some (.aload_n 0, 1, none) := by decide +kernel
theorem k_113_1 : zD 113 1 = some (.getfield 24, 3, none) ∧ zFl (zOn 113) 24 = some (0, 4) ∧ zFc 0 4 = some 0 := by decide +kernel
theorem k_113_4 : zD 113 4 = some (.bipush (30), 2, none) := by decide +kernel
theorem k_113_6 : zD 113 6 = some (.if_icmp .lt (5), 3, none) ∧ zTg 6 (5) = some 11 := by decide +kernel
theorem k_113_11 : zD 113 11 = some (.aload_n 0, 1, none) := by decide +kernel
theorem k_113_12 : zD 113 12 = some (.getfield 11, 3, none) ∧ zFl (zOn 113) 11 = some (0, 0) ∧ zFc 0 0 = some 3 := by decide +kernel
theorem k_113_15 : zD 113 15 = some (.aload_n 0, 1, none) := by decide +kernel
theorem k_113_16 : zD 113 16 = some (.getfield 24, 3, none) ∧ zFl (zOn 113) 24 = some (0, 4) ∧ zFc 0 4 = some 0 := by decide +kernel
theorem k_113_19 : zD 113 19 = some (.iload_n 1, 1, none) := by decide +kernel
theorem k_113_20 : zD 113 20 = some (.iastore, 1, none) := by decide +kernel
theorem k_113_21 : zD 113 21 = some (.aload_n 0, 1, none) := by decide +kernel
theorem k_113_22 : zD 113 22 = some (.getfield 15, 3, none) ∧ zFl (zOn 113) 15 = some (0, 1) ∧ zFc 0 1 = some 3 := by decide +kernel
theorem k_113_25 : zD 113 25 = some (.aload_n 0, 1, none) := by decide +kernel
theorem k_113_26 : zD 113 26 = some (.getfield 24, 3, none) ∧ zFl (zOn 113) 24 = some (0, 4) ∧ zFc 0 4 = some 0 := by decide +kernel
theorem k_113_29 : zD 113 29 = some (.iload_n 2, 1, none) := by decide +kernel
theorem k_113_30 : zD 113 30 = some (.iastore, 1, none) := by decide +kernel
theorem k_113_31 : zD 113 31 = some (.aload_n 0, 1, none) := by decide +kernel
theorem k_113_32 : zD 113 32 = some (.getfield 18, 3, none) ∧ zFl (zOn 113) 18 = some (0, 2) ∧ zFc 0 2 = some 3 := by decide +kernel
theorem k_113_35 : zD 113 35 = some (.aload_n 0, 1, none) := by decide +kernel
theorem k_113_36 : zD 113 36 = some (.getfield 24, 3, none) ∧ zFl (zOn 113) 24 = some (0, 4) ∧ zFc 0 4 = some 0 := by decide +kernel
theorem k_113_39 : zD 113 39 = some (.iload_n 3, 1, none) := by decide +kernel
theorem k_113_40 : zD 113 40 = some (.iastore, 1, none) := by decide +kernel
theorem k_113_41 : zD 113 41 = some (.aload_n 0, 1, none) := by decide +kernel
theorem k_113_42 : zD 113 42 = some (.dup, 1, none) := by decide +kernel
theorem k_113_43 : zD 113 43 = some (.getfield 24, 3, none) ∧ zFl (zOn 113) 24 = some (0, 4) ∧ zFc 0 4 = some 0 := by decide +kernel
theorem k_113_46 : zD 113 46 = some (.iconst (1), 1, none) := by decide +kernel
theorem k_113_47 : zD 113 47 = some (.iadd, 1, none) := by decide +kernel
theorem k_113_48 : zD 113 48 = some (.putfield 24, 3, none) ∧ zFl (zOn 113) 24 = some (0, 4) ∧ zFc 0 4 = some 0 := by decide +kernel
theorem k_113_51 : zD 113 51 = some (.iconst (1), 1, none) := by decide +kernel
theorem k_113_52 : zD 113 52 = some (.ireturn, 1, none) := by decide +kernel
theorem k_113_9 : zD 113 9 = some (.iconst (0), 1, none) := by decide +kernel
theorem k_113_10 : zD 113 10 = some (.ireturn, 1, none) := by decide +kernel
theorem ml_116 : zML 116 = 6 := by decide +kernel
theorem rt_116 : zRt 116 = some .int := by decide +kernel
theorem k_116_0 : zD 116 0 = some (.aload_n 2, 1, none) := by decide +kernel
theorem k_116_1 : zD 116 1 = some (.getfield 28, 3, none) ∧ zFl (zOn 116) 28 = some (4, 0) ∧ zFc 4 0 = some 3 := by decide +kernel
theorem k_116_4 : zD 116 4 = some (.iconst (0), 1, none) := by decide +kernel
theorem k_116_5 : zD 116 5 = some (.aload_n 0, 1, none) := by decide +kernel
theorem k_116_6 : zD 116 6 = some (.getfield 21, 3, none) ∧ zFl (zOn 116) 21 = some (0, 3) ∧ zFc 0 3 = some 3 := by decide +kernel
theorem k_116_9 : zD 116 9 = some (.iconst (0), 1, none) := by decide +kernel
theorem k_116_10 : zD 116 10 = some (.iconst (5), 1, none) := by decide +kernel
theorem k_116_11 : zD 116 11 = some (.invokestatic 31, 3, none) ∧ (zAt.lookup (zOn 116, 31)).isSome = true := by decide +kernel
theorem k_116_14 : zD 116 14 = some (.iconst (0), 1, none) := by decide +kernel
theorem k_116_15 : zD 116 15 = some (.istore_n 3, 1, none) := by decide +kernel
theorem k_116_16 : zD 116 16 = some (.iload_n 3, 1, some [true, true, false, true, false, false]) := by decide +kernel
theorem k_116_17 : zD 116 17 = some (.aload_n 0, 1, none) := by decide +kernel
theorem k_116_18 : zD 116 18 = some (.getfield 24, 3, none) ∧ zFl (zOn 116) 24 = some (0, 4) ∧ zFc 0 4 = some 0 := by decide +kernel
theorem k_116_21 : zD 116 21 = some (.if_icmp .ge (90), 3, none) ∧ zTg 21 (90) = some 111 := by decide +kernel
theorem k_116_24 : zD 116 24 = some (.iload_n 3, 1, none) := by decide +kernel
theorem k_116_25 : zD 116 25 = some (.bipush (30), 2, none) := by decide +kernel
theorem k_116_27 : zD 116 27 = some (.if_icmp .ge (84), 3, none) ∧ zTg 27 (84) = some 111 := by decide +kernel
theorem k_116_30 : zD 116 30 = some (.aload_n 0, 1, none) := by decide +kernel
theorem k_116_31 : zD 116 31 = some (.getfield 15, 3, none) ∧ zFl (zOn 116) 15 = some (0, 1) ∧ zFc 0 1 = some 3 := by decide +kernel
theorem k_116_34 : zD 116 34 = some (.iload_n 3, 1, none) := by decide +kernel
theorem k_116_35 : zD 116 35 = some (.iaload, 1, none) := by decide +kernel
theorem k_116_36 : zD 116 36 = some (.istore 4, 2, none) := by decide +kernel
theorem k_116_38 : zD 116 38 = some (.aload_n 0, 1, none) := by decide +kernel
theorem k_116_39 : zD 116 39 = some (.getfield 18, 3, none) ∧ zFl (zOn 116) 18 = some (0, 2) ∧ zFc 0 2 = some 3 := by decide +kernel
theorem k_116_42 : zD 116 42 = some (.iload_n 3, 1, none) := by decide +kernel
theorem k_116_43 : zD 116 43 = some (.iaload, 1, none) := by decide +kernel
theorem k_116_44 : zD 116 44 = some (.istore 5, 2, none) := by decide +kernel
theorem k_116_46 : zD 116 46 = some (.aload_n 0, 1, none) := by decide +kernel
theorem k_116_47 : zD 116 47 = some (.getfield 21, 3, none) ∧ zFl (zOn 116) 21 = some (0, 3) ∧ zFc 0 3 = some 3 := by decide +kernel
theorem k_116_50 : zD 116 50 = some (.aload_n 0, 1, none) := by decide +kernel
theorem k_116_51 : zD 116 51 = some (.getfield 11, 3, none) ∧ zFl (zOn 116) 11 = some (0, 0) ∧ zFc 0 0 = some 3 := by decide +kernel
theorem k_116_54 : zD 116 54 = some (.iload_n 3, 1, none) := by decide +kernel
theorem k_116_55 : zD 116 55 = some (.iaload, 1, none) := by decide +kernel
theorem k_116_56 : zD 116 56 = some (.iaload, 1, none) := by decide +kernel
theorem k_116_57 : zD 116 57 = some (.iload 5, 2, none) := by decide +kernel
theorem k_116_59 : zD 116 59 = some (.invokestatic 37, 3, none) ∧ zAt.lookup (zOn 116, 37) = none ∧ zCk (zOn 116) 37 = some (3, 11) ∧ (3 = 1 ∨ 3 = 3) ∧ zNp 11 = 2 ∧ zML 11 = 2 ∧ (zRt 11 = some .int ∨ zRt 11 = some .boolean ∨ zRt 11 = some .char ∨ zRt 11 = some .byte) := by decide +kernel
theorem k_116_62 : zD 116 62 = some (.ifCond .eq (18), 3, none) ∧ zTg 62 (18) = some 80 := by decide +kernel
theorem k_116_80 : zD 116 80 = some (.iload_n 3, 1, some [false, false, false, true, false, false]) := by decide +kernel
theorem k_116_81 : zD 116 81 = some (.ireturn, 1, none) := by decide +kernel
theorem k_116_65 : zD 116 65 = some (.aload_n 0, 1, none) := by decide +kernel
theorem k_116_66 : zD 116 66 = some (.getfield 21, 3, none) ∧ zFl (zOn 116) 21 = some (0, 3) ∧ zFc 0 3 = some 3 := by decide +kernel
theorem k_116_69 : zD 116 69 = some (.iload 4, 2, none) := by decide +kernel
theorem k_116_71 : zD 116 71 = some (.iaload, 1, none) := by decide +kernel
theorem k_116_72 : zD 116 72 = some (.iload 5, 2, none) := by decide +kernel
theorem k_116_74 : zD 116 74 = some (.invokestatic 37, 3, none) ∧ zAt.lookup (zOn 116, 37) = none ∧ zCk (zOn 116) 37 = some (3, 11) ∧ (3 = 1 ∨ 3 = 3) ∧ zNp 11 = 2 ∧ zML 11 = 2 ∧ (zRt 11 = some .int ∨ zRt 11 = some .boolean ∨ zRt 11 = some .char ∨ zRt 11 = some .byte) := by decide +kernel
theorem k_116_77 : zD 116 77 = some (.ifCond .eq (5), 3, none) ∧ zTg 77 (5) = some 82 := by decide +kernel
theorem k_116_82 : zD 116 82 = some (.aload_n 0, 1, none) := by decide +kernel
theorem k_116_83 : zD 116 83 = some (.getfield 21, 3, none) ∧ zFl (zOn 116) 21 = some (0, 3) ∧ zFc 0 3 = some 3 := by decide +kernel
theorem k_116_86 : zD 116 86 = some (.iload 4, 2, none) := by decide +kernel
theorem k_116_88 : zD 116 88 = some (.aload_n 1, 1, none) := by decide +kernel
theorem k_116_89 : zD 116 89 = some (.aload_n 0, 1, none) := by decide +kernel
theorem k_116_90 : zD 116 90 = some (.getfield 21, 3, none) ∧ zFl (zOn 116) 21 = some (0, 3) ∧ zFc 0 3 = some 3 := by decide +kernel
theorem k_116_93 : zD 116 93 = some (.iload 4, 2, none) := by decide +kernel
theorem k_116_95 : zD 116 95 = some (.iaload, 1, none) := by decide +kernel
theorem k_116_96 : zD 116 96 = some (.iconst (1), 1, none) := by decide +kernel
theorem k_116_97 : zD 116 97 = some (.iload 5, 2, none) := by decide +kernel
theorem k_116_99 : zD 116 99 = some (.ishl, 1, none) := by decide +kernel
theorem k_116_100 : zD 116 100 = some (.ior, 1, none) := by decide +kernel
theorem k_116_101 : zD 116 101 = some (.invokevirtual 41, 3, none) ∧ zCk (zOn 116) 41 = some (0, 18) ∧ zNp 18 = 1 ∧ zML 18 = 4 ∧ zCo[6]? = some (zOn 18) ∧ (zRt 18 = some .int ∨ zRt 18 = some .boolean ∨ zRt 18 = some .char ∨ zRt 18 = some .byte) := by decide +kernel
theorem k_116_104 : zD 116 104 = some (.iastore, 1, none) := by decide +kernel
theorem k_116_105 : zD 116 105 = some (.iinc 3 (1), 3, none) := by decide +kernel
theorem k_116_108 : zD 116 108 = some (.goto (-92), 3, none) ∧ zTg 108 (-92) = some 16 := by decide +kernel
theorem k_116_111 : zD 116 111 = some (.iconst (-1), 1, some [false, false, false, false, false, false]) := by decide +kernel
theorem k_116_112 : zD 116 112 = some (.ireturn, 1, none) := by decide +kernel
theorem kd_116_16 : zD 116 16 = some (.iload_n 3, 1, some [true, true, false, true, false, false]) := k_116_16
theorem kd_116_80 : zD 116 80 = some (.iload_n 3, 1, some [false, false, false, true, false, false]) := k_116_80
theorem kd_116_111 : zD 116 111 = some (.iconst (-1), 1, some [false, false, false, false, false, false]) := k_116_111
theorem ml_100 : zML 100 = 4 := by decide +kernel
theorem rt_100 : zRt 100 = some .int := by decide +kernel
theorem k_100_0 : zD 100 0 = some (.aload_n 0, 1, none) := by decide +kernel
theorem k_100_1 : zD 100 1 = some (.aload_n 1, 1, none) := by decide +kernel
theorem k_100_2 : zD 100 2 = some (.iload_n 2, 1, none) := by decide +kernel
theorem k_100_3 : zD 100 3 = some (.invokevirtual 15, 3, none) ∧ zCk (zOn 100) 15 = some (0, 101) ∧ zNp 101 = 2 ∧ zML 101 = 4 ∧ zCo[1]? = some (zOn 101) ∧ zRt 101 = none := by decide +kernel
theorem k_100_6 : zD 100 6 = some (.iconst (2), 1, none) := by decide +kernel
theorem k_100_7 : zD 100 7 = some (.istore_n 3, 1, none) := by decide +kernel
theorem k_100_8 : zD 100 8 = some (.iload_n 3, 1, some [true, false, false, true]) := by decide +kernel
theorem k_100_9 : zD 100 9 = some (.bipush (99), 2, none) := by decide +kernel
theorem k_100_11 : zD 100 11 = some (.if_icmp .gt (19), 3, none) ∧ zTg 11 (19) = some 30 := by decide +kernel
theorem k_100_30 : zD 100 30 = some (.iconst (-1), 1, none) := by decide +kernel
theorem k_100_31 : zD 100 31 = some (.ireturn, 1, none) := by decide +kernel
theorem k_100_14 : zD 100 14 = some (.aload_n 0, 1, none) := by decide +kernel
theorem k_100_15 : zD 100 15 = some (.iload_n 3, 1, none) := by decide +kernel
theorem k_100_16 : zD 100 16 = some (.invokevirtual 19, 3, none) ∧ zCk (zOn 100) 19 = some (0, 104) ∧ zNp 104 = 1 ∧ zML 104 = 3 ∧ zCo[1]? = some (zOn 104) ∧ (zRt 104 = some .int ∨ zRt 104 = some .boolean ∨ zRt 104 = some .char ∨ zRt 104 = some .byte) := by decide +kernel
theorem k_100_19 : zD 100 19 = some (.ifCond .eq (5), 3, none) ∧ zTg 19 (5) = some 24 := by decide +kernel
theorem k_100_24 : zD 100 24 = some (.iinc 3 (1), 3, none) := by decide +kernel
theorem k_100_27 : zD 100 27 = some (.goto (-19), 3, none) ∧ zTg 27 (-19) = some 8 := by decide +kernel
theorem k_100_22 : zD 100 22 = some (.iload_n 3, 1, none) := by decide +kernel
theorem k_100_23 : zD 100 23 = some (.ireturn, 1, none) := by decide +kernel
theorem kd_100_8 : zD 100 8 = some (.iload_n 3, 1, some [true, false, false, true]) := k_100_8
theorem ml_101 : zML 101 = 4 := by decide +kernel
theorem rt_101 : zRt 101 = none := by decide +kernel
theorem k_101_0 : zD 101 0 = some (.iconst (0), 1, none) := by decide +kernel
theorem k_101_1 : zD 101 1 = some (.istore_n 3, 1, none) := by decide +kernel
theorem k_101_2 : zD 101 2 = some (.iload_n 3, 1, some [true, true, true, true]) := by decide +kernel
theorem k_101_3 : zD 101 3 = some (.sipush (594), 3, none) := by decide +kernel
theorem k_101_6 : zD 101 6 = some (.if_icmp .gt (16), 3, none) ∧ zTg 6 (16) = some 22 := by decide +kernel
theorem k_101_22 : zD 101 22 = some (.iconst (0), 1, none) := by decide +kernel
theorem k_101_23 : zD 101 23 = some (.istore_n 3, 1, none) := by decide +kernel
theorem k_101_9 : zD 101 9 = some (.aload_n 0, 1, none) := by decide +kernel
theorem k_101_10 : zD 101 10 = some (.getfield 11, 3, none) ∧ zFl (zOn 101) 11 = some (1, 0) ∧ zFc 1 0 = some 3 := by decide +kernel
theorem k_101_13 : zD 101 13 = some (.iload_n 3, 1, none) := by decide +kernel
theorem k_101_14 : zD 101 14 = some (.iconst (0), 1, none) := by decide +kernel
theorem k_101_15 : zD 101 15 = some (.bastore, 1, none) := by decide +kernel
theorem k_101_16 : zD 101 16 = some (.iinc 3 (1), 3, none) := by decide +kernel
theorem k_101_19 : zD 101 19 = some (.goto (-17), 3, none) ∧ zTg 19 (-17) = some 2 := by decide +kernel
theorem k_101_24 : zD 101 24 = some (.iload_n 3, 1, some [true, true, true, true]) := by decide +kernel
theorem k_101_25 : zD 101 25 = some (.bipush (64), 2, none) := by decide +kernel
theorem k_101_27 : zD 101 27 = some (.if_icmp .ge (27), 3, none) ∧ zTg 27 (27) = some 54 := by decide +kernel
theorem k_101_30 : zD 101 30 = some (.aload_n 1, 1, none) := by decide +kernel
theorem k_101_31 : zD 101 31 = some (.getfield 25, 3, none) ∧ zFl (zOn 101) 25 = some (6, 8) ∧ zFc 6 8 = some 2 := by decide +kernel
theorem k_101_34 : zD 101 34 = some (.iload_n 3, 1, none) := by decide +kernel
theorem k_101_35 : zD 101 35 = some (.invokestatic 31, 3, none) ∧ zAt.lookup (zOn 101, 31) = none ∧ zCk (zOn 101) 31 = some (1, 14) ∧ (1 = 1 ∨ 1 = 3) ∧ zNp 14 = 2 ∧ zML 14 = 3 ∧ (zRt 14 = some .int ∨ zRt 14 = some .boolean ∨ zRt 14 = some .char ∨ zRt 14 = some .byte) := by decide +kernel
theorem k_101_38 : zD 101 38 = some (.ifCond .eq (10), 3, none) ∧ zTg 38 (10) = some 48 := by decide +kernel
theorem k_101_48 : zD 101 48 = some (.iinc 3 (1), 3, some [true, true, true, true]) := by decide +kernel
theorem k_101_51 : zD 101 51 = some (.goto (-27), 3, none) ∧ zTg 51 (-27) = some 24 := by decide +kernel
theorem k_101_41 : zD 101 41 = some (.aload_n 0, 1, none) := by decide +kernel
theorem k_101_42 : zD 101 42 = some (.aload_n 1, 1, none) := by decide +kernel
theorem k_101_43 : zD 101 43 = some (.iload_n 2, 1, none) := by decide +kernel
theorem k_101_44 : zD 101 44 = some (.iload_n 3, 1, none) := by decide +kernel
theorem k_101_45 : zD 101 45 = some (.invokevirtual 35, 3, none) ∧ zCk (zOn 101) 35 = some (0, 102) ∧ zNp 102 = 3 ∧ zML 102 = 7 ∧ zCo[1]? = some (zOn 102) ∧ zRt 102 = none := by decide +kernel
theorem k_101_54 : zD 101 54 = some (.return_, 1, none) := by decide +kernel
theorem kd_101_2 : zD 101 2 = some (.iload_n 3, 1, some [true, true, true, true]) := k_101_2
theorem kd_101_24 : zD 101 24 = some (.iload_n 3, 1, some [true, true, true, true]) := k_101_24
theorem ml_102 : zML 102 = 7 := by decide +kernel
theorem rt_102 : zRt 102 = none := by decide +kernel
theorem k_102_0 : zD 102 0 = some (.aload_n 1, 1, none) := by decide +kernel
theorem k_102_1 : zD 102 1 = some (.iload_n 3, 1, none) := by decide +kernel
theorem k_102_2 : zD 102 2 = some (.invokevirtual 39, 3, none) ∧ zCk (zOn 102) 39 = some (0, 16) ∧ zNp 16 = 1 ∧ zML 16 = 4 ∧ zCo[6]? = some (zOn 16) ∧ (zRt 16 = some .int ∨ zRt 16 = some .boolean ∨ zRt 16 = some .char ∨ zRt 16 = some .byte) := by decide +kernel
theorem k_102_5 : zD 102 5 = some (.istore 4, 2, none) := by decide +kernel
theorem k_102_7 : zD 102 7 = some (.iload_n 3, 1, none) := by decide +kernel
theorem k_102_8 : zD 102 8 = some (.iconst (1), 1, none) := by decide +kernel
theorem k_102_9 : zD 102 9 = some (.iadd, 1, none) := by decide +kernel
theorem k_102_10 : zD 102 10 = some (.istore 5, 2, none) := by decide +kernel
theorem k_102_12 : zD 102 12 = some (.iload 5, 2, some [true, true, true, true, true, true, false]) := by decide +kernel
theorem k_102_14 : zD 102 14 = some (.bipush (64), 2, none) := by decide +kernel
theorem k_102_16 : zD 102 16 = some (.if_icmp .ge (62), 3, none) ∧ zTg 16 (62) = some 78 := by decide +kernel
theorem k_102_19 : zD 102 19 = some (.aload_n 1, 1, none) := by decide +kernel
theorem k_102_20 : zD 102 20 = some (.getfield 25, 3, none) ∧ zFl (zOn 102) 25 = some (6, 8) ∧ zFc 6 8 = some 2 := by decide +kernel
theorem k_102_23 : zD 102 23 = some (.iload 5, 2, none) := by decide +kernel
theorem k_102_25 : zD 102 25 = some (.invokestatic 31, 3, none) ∧ zAt.lookup (zOn 102, 31) = none ∧ zCk (zOn 102) 31 = some (1, 14) ∧ (1 = 1 ∨ 1 = 3) ∧ zNp 14 = 2 ∧ zML 14 = 3 ∧ (zRt 14 = some .int ∨ zRt 14 = some .boolean ∨ zRt 14 = some .char ∨ zRt 14 = some .byte) := by decide +kernel
theorem k_102_28 : zD 102 28 = some (.ifCond .eq (44), 3, none) ∧ zTg 28 (44) = some 72 := by decide +kernel
theorem k_102_72 : zD 102 72 = some (.iinc 5 (1), 3, some [true, true, true, true, true, true, false]) := by decide +kernel
theorem k_102_75 : zD 102 75 = some (.goto (-63), 3, none) ∧ zTg 75 (-63) = some 12 := by decide +kernel
theorem k_102_31 : zD 102 31 = some (.iload_n 3, 1, none) := by decide +kernel
theorem k_102_32 : zD 102 32 = some (.iload 5, 2, none) := by decide +kernel
theorem k_102_34 : zD 102 34 = some (.ixor, 1, none) := by decide +kernel
theorem k_102_35 : zD 102 35 = some (.invokestatic 43, 3, none) ∧ zAt.lookup (zOn 102, 43) = none ∧ zCk (zOn 102) 43 = some (1, 96) ∧ (1 = 1 ∨ 1 = 3) ∧ zNp 96 = 1 ∧ zML 96 = 1 ∧ (zRt 96 = some .int ∨ zRt 96 = some .boolean ∨ zRt 96 = some .char ∨ zRt 96 = some .byte) := by decide +kernel
theorem k_102_38 : zD 102 38 = some (.iload_n 2, 1, none) := by decide +kernel
theorem k_102_39 : zD 102 39 = some (.if_icmp .gt (33), 3, none) ∧ zTg 39 (33) = some 72 := by decide +kernel
theorem k_102_42 : zD 102 42 = some (.iload 4, 2, none) := by decide +kernel
theorem k_102_44 : zD 102 44 = some (.aload_n 1, 1, none) := by decide +kernel
theorem k_102_45 : zD 102 45 = some (.iload 5, 2, none) := by decide +kernel
theorem k_102_47 : zD 102 47 = some (.invokevirtual 39, 3, none) ∧ zCk (zOn 102) 39 = some (0, 16) ∧ zNp 16 = 1 ∧ zML 16 = 4 ∧ zCo[6]? = some (zOn 16) ∧ (zRt 16 = some .int ∨ zRt 16 = some .boolean ∨ zRt 16 = some .char ∨ zRt 16 = some .byte) := by decide +kernel
theorem k_102_50 : zD 102 50 = some (.isub, 1, none) := by decide +kernel
theorem k_102_51 : zD 102 51 = some (.invokestatic 48, 3, none) ∧ zAt.lookup (zOn 102, 48) = none ∧ zCk (zOn 102) 48 = some (1, 103) ∧ (1 = 1 ∨ 1 = 3) ∧ zNp 103 = 1 ∧ zML 103 = 1 ∧ (zRt 103 = some .int ∨ zRt 103 = some .boolean ∨ zRt 103 = some .char ∨ zRt 103 = some .byte) := by decide +kernel
theorem k_102_54 : zD 102 54 = some (.istore 6, 2, none) := by decide +kernel
theorem k_102_56 : zD 102 56 = some (.iload 6, 2, none) := by decide +kernel
theorem k_102_58 : zD 102 58 = some (.sipush (594), 3, none) := by decide +kernel
theorem k_102_61 : zD 102 61 = some (.if_icmp .gt (11), 3, none) ∧ zTg 61 (11) = some 72 := by decide +kernel
theorem k_102_64 : zD 102 64 = some (.aload_n 0, 1, none) := by decide +kernel
theorem k_102_65 : zD 102 65 = some (.getfield 11, 3, none) ∧ zFl (zOn 102) 11 = some (1, 0) ∧ zFc 1 0 = some 3 := by decide +kernel
theorem k_102_68 : zD 102 68 = some (.iload 6, 2, none) := by decide +kernel
theorem k_102_70 : zD 102 70 = some (.iconst (1), 1, none) := by decide +kernel
theorem k_102_71 : zD 102 71 = some (.bastore, 1, none) := by decide +kernel
theorem k_102_78 : zD 102 78 = some (.return_, 1, none) := by decide +kernel
theorem kd_102_12 : zD 102 12 = some (.iload 5, 2, some [true, true, true, true, true, true, false]) := k_102_12
theorem kd_102_72 : zD 102 72 = some (.iinc 5 (1), 3, some [true, true, true, true, true, true, false]) := k_102_72
theorem ml_104 : zML 104 = 3 := by decide +kernel
theorem rt_104 : zRt 104 = some .boolean := by decide +kernel
theorem k_104_0 : zD 104 0 = some (.iconst (0), 1, none) := by decide +kernel
theorem k_104_1 : zD 104 1 = some (.istore_n 2, 1, none) := by decide +kernel
theorem k_104_2 : zD 104 2 = some (.iload_n 2, 1, some [true, true, true]) := by decide +kernel
theorem k_104_3 : zD 104 3 = some (.sipush (594), 3, none) := by decide +kernel
theorem k_104_6 : zD 104 6 = some (.if_icmp .gt (21), 3, none) ∧ zTg 6 (21) = some 27 := by decide +kernel
theorem k_104_27 : zD 104 27 = some (.iconst (1), 1, none) := by decide +kernel
theorem k_104_28 : zD 104 28 = some (.ireturn, 1, none) := by decide +kernel
theorem k_104_9 : zD 104 9 = some (.aload_n 0, 1, none) := by decide +kernel
theorem k_104_10 : zD 104 10 = some (.getfield 11, 3, none) ∧ zFl (zOn 104) 11 = some (1, 0) ∧ zFc 1 0 = some 3 := by decide +kernel
theorem k_104_13 : zD 104 13 = some (.iload_n 2, 1, none) := by decide +kernel
theorem k_104_14 : zD 104 14 = some (.baload, 1, none) := by decide +kernel
theorem k_104_15 : zD 104 15 = some (.ifCond .eq (5), 3, none) ∧ zTg 15 (5) = some 20 := by decide +kernel
theorem k_104_20 : zD 104 20 = some (.iload_n 2, 1, none) := by decide +kernel
theorem k_104_21 : zD 104 21 = some (.iload_n 1, 1, none) := by decide +kernel
theorem k_104_22 : zD 104 22 = some (.iadd, 1, none) := by decide +kernel
theorem k_104_23 : zD 104 23 = some (.istore_n 2, 1, none) := by decide +kernel
theorem k_104_24 : zD 104 24 = some (.goto (-22), 3, none) ∧ zTg 24 (-22) = some 2 := by decide +kernel
theorem k_104_18 : zD 104 18 = some (.iconst (0), 1, none) := by decide +kernel
theorem k_104_19 : zD 104 19 = some (.ireturn, 1, none) := by decide +kernel
theorem kd_104_2 : zD 104 2 = some (.iload_n 2, 1, some [true, true, true]) := k_104_2

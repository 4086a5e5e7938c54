theorem ml_92 : zML 92 = 6 := by decide +kernel
theorem rt_92 : zRt 92 = none := by decide +kernel
theorem k_92_0 : zD 92 0 = some (.aload_n 0, 1, none) := by decide +kernel
theorem k_92_1 : zD 92 1 = some (.aload_n 1, 1, none) := by decide +kernel
theorem k_92_2 : zD 92 2 = some (.putfield 18, 3, none) ∧ zFl (zOn 92) 18 = some (2, 2) ∧ zFc 2 2 = some 4 := by decide +kernel
theorem k_92_5 : zD 92 5 = some (.aload_n 0, 1, none) := by decide +kernel
theorem k_92_6 : zD 92 6 = some (.iload_n 3, 1, none) := by decide +kernel
theorem k_92_7 : zD 92 7 = some (.putfield 22, 3, none) ∧ zFl (zOn 92) 22 = some (2, 3) ∧ zFc 2 3 = some 0 := by decide +kernel
theorem k_92_10 : zD 92 10 = some (.aload_n 0, 1, none) := by decide +kernel
theorem k_92_11 : zD 92 11 = some (.iload 4, 2, none) := by decide +kernel
theorem k_92_13 : zD 92 13 = some (.putfield 26, 3, none) ∧ zFl (zOn 92) 26 = some (2, 4) ∧ zFc 2 4 = some 0 := by decide +kernel
theorem k_92_16 : zD 92 16 = some (.aload_n 0, 1, none) := by decide +kernel
theorem k_92_17 : zD 92 17 = some (.aload_n 2, 1, none) := by decide +kernel
theorem k_92_18 : zD 92 18 = some (.getfield 29, 3, none) ∧ zFl (zOn 92) 29 = some (4, 0) ∧ zFc 4 0 = some 3 := by decide +kernel
theorem k_92_21 : zD 92 21 = some (.iload_n 3, 1, none) := by decide +kernel
theorem k_92_22 : zD 92 22 = some (.iaload, 1, none) := by decide +kernel
theorem k_92_23 : zD 92 23 = some (.aload_n 2, 1, none) := by decide +kernel
theorem k_92_24 : zD 92 24 = some (.getfield 29, 3, none) ∧ zFl (zOn 92) 29 = some (4, 0) ∧ zFc 4 0 = some 3 := by decide +kernel
theorem k_92_27 : zD 92 27 = some (.iload 4, 2, none) := by decide +kernel
theorem k_92_29 : zD 92 29 = some (.iaload, 1, none) := by decide +kernel
theorem k_92_30 : zD 92 30 = some (.ior, 1, none) := by decide +kernel
theorem k_92_31 : zD 92 31 = some (.putfield 34, 3, none) ∧ zFl (zOn 92) 34 = some (2, 5) ∧ zFc 2 5 = some 0 := by decide +kernel
theorem k_92_34 : zD 92 34 = some (.aload_n 0, 1, none) := by decide +kernel
theorem k_92_35 : zD 92 35 = some (.aload_n 0, 1, none) := by decide +kernel
theorem k_92_36 : zD 92 36 = some (.getfield 34, 3, none) ∧ zFl (zOn 92) 34 = some (2, 5) ∧ zFc 2 5 = some 0 := by decide +kernel
theorem k_92_39 : zD 92 39 = some (.aload_n 1, 1, none) := by decide +kernel
theorem k_92_40 : zD 92 40 = some (.invokevirtual 37, 3, none) ∧ zCk (zOn 92) 37 = some (0, 93) ∧ zNp 93 = 0 ∧ zML 93 = 3 ∧ zCo[6]? = some (zOn 93) ∧ (zRt 93 = some .int ∨ zRt 93 = some .boolean ∨ zRt 93 = some .char ∨ zRt 93 = some .byte) := by decide +kernel
theorem k_92_43 : zD 92 43 = some (.iconst (-1), 1, none) := by decide +kernel
theorem k_92_44 : zD 92 44 = some (.ixor, 1, none) := by decide +kernel
theorem k_92_45 : zD 92 45 = some (.iand, 1, none) := by decide +kernel
theorem k_92_46 : zD 92 46 = some (.putfield 43, 3, none) ∧ zFl (zOn 92) 43 = some (2, 6) ∧ zFc 2 6 = some 0 := by decide +kernel
theorem k_92_49 : zD 92 49 = some (.aload_n 0, 1, none) := by decide +kernel
theorem k_92_50 : zD 92 50 = some (.iconst (-1), 1, none) := by decide +kernel
theorem k_92_51 : zD 92 51 = some (.putfield 46, 3, none) ∧ zFl (zOn 92) 46 = some (2, 8) ∧ zFc 2 8 = some 0 := by decide +kernel
theorem k_92_54 : zD 92 54 = some (.iconst (0), 1, none) := by decide +kernel
theorem k_92_55 : zD 92 55 = some (.istore 5, 2, none) := by decide +kernel
theorem k_92_57 : zD 92 57 = some (.iload 5, 2, some [true, false, true, true, true, true]) := by decide +kernel
theorem k_92_59 : zD 92 59 = some (.bipush (6), 2, none) := by decide +kernel
theorem k_92_61 : zD 92 61 = some (.if_icmp .gt (64), 3, none) ∧ zTg 61 (64) = some 125 := by decide +kernel
theorem k_92_125 : zD 92 125 = some (.return_, 1, some [false, false, false, false, false, false]) := by decide +kernel
theorem k_92_64 : zD 92 64 = some (.aload_n 0, 1, none) := by decide +kernel
theorem k_92_65 : zD 92 65 = some (.getfield 46, 3, none) ∧ zFl (zOn 92) 46 = some (2, 8) ∧ zFc 2 8 = some 0 := by decide +kernel
theorem k_92_68 : zD 92 68 = some (.iconst (-1), 1, none) := by decide +kernel
theorem k_92_69 : zD 92 69 = some (.if_icmp .ne (56), 3, none) ∧ zTg 69 (56) = some 125 := by decide +kernel
theorem k_92_72 : zD 92 72 = some (.aload_n 0, 1, none) := by decide +kernel
theorem k_92_73 : zD 92 73 = some (.iload 5, 2, none) := by decide +kernel
theorem k_92_75 : zD 92 75 = some (.putfield 49, 3, none) ∧ zFl (zOn 92) 49 = some (2, 7) ∧ zFc 2 7 = some 0 := by decide +kernel
theorem k_92_78 : zD 92 78 = some (.aload_n 0, 1, none) := by decide +kernel
theorem k_92_79 : zD 92 79 = some (.iconst (0), 1, none) := by decide +kernel
theorem k_92_80 : zD 92 80 = some (.aload_n 2, 1, none) := by decide +kernel
theorem k_92_81 : zD 92 81 = some (.getfield 29, 3, none) ∧ zFl (zOn 92) 29 = some (4, 0) ∧ zFc 4 0 = some 3 := by decide +kernel
theorem k_92_84 : zD 92 84 = some (.iload_n 3, 1, none) := by decide +kernel
theorem k_92_85 : zD 92 85 = some (.iaload, 1, none) := by decide +kernel
theorem k_92_86 : zD 92 86 = some (.aload_n 2, 1, none) := by decide +kernel
theorem k_92_87 : zD 92 87 = some (.getfield 29, 3, none) ∧ zFl (zOn 92) 29 = some (4, 0) ∧ zFc 4 0 = some 3 := by decide +kernel
theorem k_92_90 : zD 92 90 = some (.iload 4, 2, none) := by decide +kernel
theorem k_92_92 : zD 92 92 = some (.iaload, 1, none) := by decide +kernel
theorem k_92_93 : zD 92 93 = some (.aload_n 2, 1, none) := by decide +kernel
theorem k_92_94 : zD 92 94 = some (.iload_n 3, 1, none) := by decide +kernel
theorem k_92_95 : zD 92 95 = some (.iload 4, 2, none) := by decide +kernel
theorem k_92_97 : zD 92 97 = some (.invokevirtual 52, 3, none) ∧ zCk (zOn 92) 52 = some (0, 62) ∧ zNp 62 = 2 ∧ zML 62 = 4 ∧ zCo[4]? = some (zOn 62) ∧ zRt 62 = some .long := by decide +kernel
theorem k_92_100 : zD 92 100 = some (.aload_n 2, 1, none) := by decide +kernel
theorem k_92_101 : zD 92 101 = some (.iload 4, 2, none) := by decide +kernel
theorem k_92_103 : zD 92 103 = some (.iload_n 3, 1, none) := by decide +kernel
theorem k_92_104 : zD 92 104 = some (.invokevirtual 52, 3, none) ∧ zCk (zOn 92) 52 = some (0, 62) ∧ zNp 62 = 2 ∧ zML 62 = 4 ∧ zCo[4]? = some (zOn 62) ∧ zRt 62 = some .long := by decide +kernel
theorem k_92_107 : zD 92 107 = some (.invokevirtual 56, 3, none) ∧ zCk (zOn 92) 56 = some (0, 94) ∧ zNp 94 = 5 ∧ zML 94 = 8 ∧ zCo[2]? = some (zOn 94) ∧ (zRt 94 = some .int ∨ zRt 94 = some .boolean ∨ zRt 94 = some .char ∨ zRt 94 = some .byte) := by decide +kernel
theorem k_92_110 : zD 92 110 = some (.ifCond .eq (9), 3, none) ∧ zTg 110 (9) = some 119 := by decide +kernel
theorem k_92_119 : zD 92 119 = some (.iinc 5 (1), 3, some [true, false, true, true, true, true]) := by decide +kernel
theorem k_92_122 : zD 92 122 = some (.goto (-65), 3, none) ∧ zTg 122 (-65) = some 57 := by decide +kernel
theorem k_92_113 : zD 92 113 = some (.aload_n 0, 1, none) := by decide +kernel
theorem k_92_114 : zD 92 114 = some (.iload 5, 2, none) := by decide +kernel
theorem k_92_116 : zD 92 116 = some (.putfield 46, 3, none) ∧ zFl (zOn 92) 46 = some (2, 8) ∧ zFc 2 8 = some 0 := by decide +kernel
theorem kd_92_57 : zD 92 57 = some (.iload 5, 2, some [true, false, true, true, true, true]) := k_92_57
theorem kd_92_125 : zD 92 125 = some (.return_, 1, some [false, false, false, false, false, false]) := k_92_125
theorem ml_94 : zML 94 = 8 := by decide +kernel
theorem rt_94 : zRt 94 = some .boolean := by decide +kernel
theorem k_94_0 : zD 94 0 = some (.iload_n 1, 1, none) := by decide +kernel
theorem k_94_1 : zD 94 1 = some (.aload_n 0, 1, none) := by decide +kernel
theorem k_94_2 : zD 94 2 = some (.getfield 49, 3, none) ∧ zFl (zOn 94) 49 = some (2, 7) ∧ zFc 2 7 = some 0 := by decide +kernel
theorem k_94_5 : zD 94 5 = some (.if_icmp .ge (9), 3, none) ∧ zTg 5 (9) = some 14 := by decide +kernel
theorem k_94_8 : zD 94 8 = some (.iload_n 1, 1, none) := by decide +kernel
theorem k_94_9 : zD 94 9 = some (.bipush (6), 2, none) := by decide +kernel
theorem k_94_11 : zD 94 11 = some (.if_icmp .lt (24), 3, none) ∧ zTg 11 (24) = some 35 := by decide +kernel
theorem k_94_35 : zD 94 35 = some (.iload_n 1, 1, none) := by decide +kernel
theorem k_94_36 : zD 94 36 = some (.aload_n 0, 1, none) := by decide +kernel
theorem k_94_37 : zD 94 37 = some (.iload_n 2, 1, none) := by decide +kernel
theorem k_94_38 : zD 94 38 = some (.iload_n 3, 1, none) := by decide +kernel
theorem k_94_39 : zD 94 39 = some (.invokevirtual 60, 3, none) ∧ zCk (zOn 94) 60 = some (0, 95) ∧ zNp 95 = 2 ∧ zML 95 = 3 ∧ zCo[2]? = some (zOn 95) ∧ (zRt 95 = some .int ∨ zRt 95 = some .boolean ∨ zRt 95 = some .char ∨ zRt 95 = some .byte) := by decide +kernel
theorem k_94_42 : zD 94 42 = some (.iadd, 1, none) := by decide +kernel
theorem k_94_43 : zD 94 43 = some (.aload_n 0, 1, none) := by decide +kernel
theorem k_94_44 : zD 94 44 = some (.getfield 49, 3, none) ∧ zFl (zOn 94) 49 = some (2, 7) ∧ zFc 2 7 = some 0 := by decide +kernel
theorem k_94_47 : zD 94 47 = some (.if_icmp .le (5), 3, none) ∧ zTg 47 (5) = some 52 := by decide +kernel
theorem k_94_50 : zD 94 50 = some (.iconst (0), 1, none) := by decide +kernel
theorem k_94_51 : zD 94 51 = some (.ireturn, 1, none) := by decide +kernel
theorem k_94_52 : zD 94 52 = some (.aload_n 0, 1, none) := by decide +kernel
theorem k_94_53 : zD 94 53 = some (.iload_n 1, 1, none) := by decide +kernel
theorem k_94_54 : zD 94 54 = some (.iconst (1), 1, none) := by decide +kernel
theorem k_94_55 : zD 94 55 = some (.iload_n 2, 1, none) := by decide +kernel
theorem k_94_56 : zD 94 56 = some (.iload_n 3, 1, none) := by decide +kernel
theorem k_94_57 : zD 94 57 = some (.lload 4, 2, none) := by decide +kernel
theorem k_94_59 : zD 94 59 = some (.lload 6, 2, none) := by decide +kernel
theorem k_94_61 : zD 94 61 = some (.invokevirtual 64, 3, none) ∧ zCk (zOn 94) 64 = some (0, 97) ∧ zNp 97 = 6 ∧ zML 97 = 17 ∧ zCo[2]? = some (zOn 97) ∧ (zRt 97 = some .int ∨ zRt 97 = some .boolean ∨ zRt 97 = some .char ∨ zRt 97 = some .byte) := by decide +kernel
theorem k_94_64 : zD 94 64 = some (.ifCond .ne (18), 3, none) ∧ zTg 64 (18) = some 82 := by decide +kernel
theorem k_94_67 : zD 94 67 = some (.aload_n 0, 1, none) := by decide +kernel
theorem k_94_68 : zD 94 68 = some (.iload_n 1, 1, none) := by decide +kernel
theorem k_94_69 : zD 94 69 = some (.iconst (0), 1, none) := by decide +kernel
theorem k_94_70 : zD 94 70 = some (.iload_n 3, 1, none) := by decide +kernel
theorem k_94_71 : zD 94 71 = some (.iload_n 2, 1, none) := by decide +kernel
theorem k_94_72 : zD 94 72 = some (.lload 6, 2, none) := by decide +kernel
theorem k_94_74 : zD 94 74 = some (.lload 4, 2, none) := by decide +kernel
theorem k_94_76 : zD 94 76 = some (.invokevirtual 64, 3, none) ∧ zCk (zOn 94) 64 = some (0, 97) ∧ zNp 97 = 6 ∧ zML 97 = 17 ∧ zCo[2]? = some (zOn 97) ∧ (zRt 97 = some .int ∨ zRt 97 = some .boolean ∨ zRt 97 = some .char ∨ zRt 97 = some .byte) := by decide +kernel
theorem k_94_79 : zD 94 79 = some (.ifCond .eq (7), 3, none) ∧ zTg 79 (7) = some 86 := by decide +kernel
theorem k_94_86 : zD 94 86 = some (.iconst (0), 1, none) := by decide +kernel
theorem k_94_87 : zD 94 87 = some (.ireturn, 1, some [false, false, false, false, false, false, false, false]) := by decide +kernel
theorem k_94_82 : zD 94 82 = some (.iconst (1), 1, some [false, false, false, false, false, false, false, false]) := by decide +kernel
theorem k_94_83 : zD 94 83 = some (.goto (4), 3, none) ∧ zTg 83 (4) = some 87 := by decide +kernel
theorem k_94_14 : zD 94 14 = some (.iload_n 2, 1, some [true, false, true, true, false, false, false, false]) := by decide +kernel
theorem k_94_15 : zD 94 15 = some (.iload_n 3, 1, none) := by decide +kernel
theorem k_94_16 : zD 94 16 = some (.iand, 1, none) := by decide +kernel
theorem k_94_17 : zD 94 17 = some (.aload_n 0, 1, none) := by decide +kernel
theorem k_94_18 : zD 94 18 = some (.getfield 34, 3, none) ∧ zFl (zOn 94) 34 = some (2, 5) ∧ zFc 2 5 = some 0 := by decide +kernel
theorem k_94_21 : zD 94 21 = some (.iand, 1, none) := by decide +kernel
theorem k_94_22 : zD 94 22 = some (.aload_n 0, 1, none) := by decide +kernel
theorem k_94_23 : zD 94 23 = some (.getfield 34, 3, none) ∧ zFl (zOn 94) 34 = some (2, 5) ∧ zFc 2 5 = some 0 := by decide +kernel
theorem k_94_26 : zD 94 26 = some (.if_icmp .ne (7), 3, none) ∧ zTg 26 (7) = some 33 := by decide +kernel
theorem k_94_29 : zD 94 29 = some (.iconst (1), 1, none) := by decide +kernel
theorem k_94_30 : zD 94 30 = some (.goto (4), 3, none) ∧ zTg 30 (4) = some 34 := by decide +kernel
theorem k_94_34 : zD 94 34 = some (.ireturn, 1, some [false, false, false, false, false, false, false, false]) := by decide +kernel
theorem k_94_33 : zD 94 33 = some (.iconst (0), 1, none) := by decide +kernel
theorem kd_94_14 : zD 94 14 = some (.iload_n 2, 1, some [true, false, true, true, false, false, false, false]) := k_94_14
theorem kd_94_34 : zD 94 34 = some (.ireturn, 1, some [false, false, false, false, false, false, false, false]) := k_94_34
theorem kd_94_82 : zD 94 82 = some (.iconst (1), 1, some [false, false, false, false, false, false, false, false]) := k_94_82
theorem kd_94_87 : zD 94 87 = some (.ireturn, 1, some [false, false, false, false, false, false, false, false]) := k_94_87
theorem ml_95 : zML 95 = 3 := by decide +kernel
theorem rt_95 : zRt 95 = some .int := by decide +kernel
theorem k_95_0 : zD 95 0 = some (.aload_n 0, 1, none) := by decide +kernel
theorem k_95_1 : zD 95 1 = some (.getfield 43, 3, none) ∧ zFl (zOn 95) 43 = some (2, 6) ∧ zFc 2 6 = some 0 := by decide +kernel
theorem k_95_4 : zD 95 4 = some (.iload_n 1, 1, none) := by decide +kernel
theorem k_95_5 : zD 95 5 = some (.iconst (-1), 1, none) := by decide +kernel
theorem k_95_6 : zD 95 6 = some (.ixor, 1, none) := by decide +kernel
theorem k_95_7 : zD 95 7 = some (.iand, 1, none) := by decide +kernel
theorem k_95_8 : zD 95 8 = some (.invokestatic 68, 3, none) ∧ zAt.lookup (zOn 95, 68) = none ∧ zCk (zOn 95) 68 = some (1, 96) ∧ (1 = 1 ∨ 1 = 3) ∧ zNp 96 = 1 ∧ zML 96 = 1 ∧ (zRt 96 = some .int ∨ zRt 96 = some .boolean ∨ zRt 96 = some .char ∨ zRt 96 = some .byte) := by decide +kernel
theorem k_95_11 : zD 95 11 = some (.aload_n 0, 1, none) := by decide +kernel
theorem k_95_12 : zD 95 12 = some (.getfield 43, 3, none) ∧ zFl (zOn 95) 43 = some (2, 6) ∧ zFc 2 6 = some 0 := by decide +kernel
theorem k_95_15 : zD 95 15 = some (.iload_n 2, 1, none) := by decide +kernel
theorem k_95_16 : zD 95 16 = some (.iconst (-1), 1, none) := by decide +kernel
theorem k_95_17 : zD 95 17 = some (.ixor, 1, none) := by decide +kernel
theorem k_95_18 : zD 95 18 = some (.iand, 1, none) := by decide +kernel
theorem k_95_19 : zD 95 19 = some (.invokestatic 68, 3, none) ∧ zAt.lookup (zOn 95, 68) = none ∧ zCk (zOn 95) 68 = some (1, 96) ∧ (1 = 1 ∨ 1 = 3) ∧ zNp 96 = 1 ∧ zML 96 = 1 ∧ (zRt 96 = some .int ∨ zRt 96 = some .boolean ∨ zRt 96 = some .char ∨ zRt 96 = some .byte) := by decide +kernel
theorem k_95_22 : zD 95 22 = some (.iadd, 1, none) := by decide +kernel
theorem k_95_23 : zD 95 23 = some (.ireturn, 1, none) := by decide +kernel
theorem ml_97 : zML 97 = 17 := by decide +kernel
theorem rt_97 : zRt 97 = some .boolean := by decide +kernel
theorem k_97_0 : zD 97 0 = some (.iload_n 3, 1, none) := by decide +kernel
theorem k_97_1 : zD 97 1 = some (.lload 5, 2, none) := by decide +kernel
theorem k_97_3 : zD 97 3 = some (.aload_n 0, 1, none) := by decide +kernel
theorem k_97_4 : zD 97 4 = some (.getfield 18, 3, none) ∧ zFl (zOn 97) 18 = some (2, 2) ∧ zFc 2 2 = some 4 := by decide +kernel
theorem k_97_7 : zD 97 7 = some (.getfield 74, 3, none) ∧ zFl (zOn 97) 74 = some (6, 0) ∧ zFc 6 0 = some 0 := by decide +kernel
theorem k_97_10 : zD 97 10 = some (.invokestatic 77, 3, none) ∧ zAt.lookup (zOn 97, 77) = none ∧ zCk (zOn 97) 77 = some (1, 57) ∧ (1 = 1 ∨ 1 = 3) ∧ zNp 57 = 2 ∧ zML 57 = 5 ∧ (zRt 57 = some .int ∨ zRt 57 = some .boolean ∨ zRt 57 = some .char ∨ zRt 57 = some .byte) := by decide +kernel
theorem k_97_13 : zD 97 13 = some (.iand, 1, none) := by decide +kernel
theorem k_97_14 : zD 97 14 = some (.istore 9, 2, none) := by decide +kernel
theorem k_97_16 : zD 97 16 = some (.iconst (0), 1, none) := by decide +kernel
theorem k_97_17 : zD 97 17 = some (.istore 10, 2, none) := by decide +kernel
theorem k_97_19 : zD 97 19 = some (.iload 10, 2, some [true, true, true, true, true, true, false, true, false, true, true, false, false, false, false, false, false]) := by decide +kernel
theorem k_97_21 : zD 97 21 = some (.aload_n 0, 1, none) := by decide +kernel
theorem k_97_22 : zD 97 22 = some (.getfield 18, 3, none) ∧ zFl (zOn 97) 18 = some (2, 2) ∧ zFc 2 2 = some 4 := by decide +kernel
theorem k_97_25 : zD 97 25 = some (.getfield 74, 3, none) ∧ zFl (zOn 97) 74 = some (6, 0) ∧ zFc 6 0 = some 0 := by decide +kernel
theorem k_97_28 : zD 97 28 = some (.if_icmp .ge (140), 3, none) ∧ zTg 28 (140) = some 168 := by decide +kernel
theorem k_97_31 : zD 97 31 = some (.iload 9, 2, none) := by decide +kernel
theorem k_97_33 : zD 97 33 = some (.iload 10, 2, none) := by decide +kernel
theorem k_97_35 : zD 97 35 = some (.invokestatic 83, 3, none) ∧ zAt.lookup (zOn 97, 83) = none ∧ zCk (zOn 97) 83 = some (3, 11) ∧ (3 = 1 ∨ 3 = 3) ∧ zNp 11 = 2 ∧ zML 11 = 2 ∧ (zRt 11 = some .int ∨ zRt 11 = some .boolean ∨ zRt 11 = some .char ∨ zRt 11 = some .byte) := by decide +kernel
theorem k_97_38 : zD 97 38 = some (.ifCond .ne (6), 3, none) ∧ zTg 38 (6) = some 44 := by decide +kernel
theorem k_97_41 : zD 97 41 = some (.goto (121), 3, none) ∧ zTg 41 (121) = some 162 := by decide +kernel
theorem k_97_162 : zD 97 162 = some (.iinc 10 (1), 3, some [true, true, true, true, true, true, false, true, false, true, true, false, false, false, false, false, false]) := by decide +kernel
theorem k_97_165 : zD 97 165 = some (.goto (-146), 3, none) ∧ zTg 165 (-146) = some 19 := by decide +kernel
theorem k_97_44 : zD 97 44 = some (.aload_n 0, 1, none) := by decide +kernel
theorem k_97_45 : zD 97 45 = some (.getfield 11, 3, none) ∧ zFl (zOn 97) 11 = some (2, 0) ∧ zFc 2 0 = some 3 := by decide +kernel
theorem k_97_48 : zD 97 48 = some (.iload_n 1, 1, none) := by decide +kernel
theorem k_97_49 : zD 97 49 = some (.iload_n 2, 1, none) := by decide +kernel
theorem k_97_50 : zD 97 50 = some (.ifCond .eq (10), 3, none) ∧ zTg 50 (10) = some 60 := by decide +kernel
theorem k_97_60 : zD 97 60 = some (.aload_n 0, 1, none) := by decide +kernel
theorem k_97_61 : zD 97 61 = some (.getfield 26, 3, none) ∧ zFl (zOn 97) 26 = some (2, 4) ∧ zFc 2 4 = some 0 := by decide +kernel
theorem k_97_53 : zD 97 53 = some (.aload_n 0, 1, none) := by decide +kernel
theorem k_97_54 : zD 97 54 = some (.getfield 22, 3, none) ∧ zFl (zOn 97) 22 = some (2, 3) ∧ zFc 2 3 = some 0 := by decide +kernel
theorem k_97_57 : zD 97 57 = some (.goto (7), 3, none) ∧ zTg 57 (7) = some 64 := by decide +kernel
theorem k_97_168 : zD 97 168 = some (.iconst (0), 1, none) := by decide +kernel
theorem k_97_169 : zD 97 169 = some (.ireturn, 1, none) := by decide +kernel
theorem k_97_64 : zD 97 64 = some (.iastore, 1, some [true, true, true, true, true, true, false, true, false, true, true, false, false, false, false, false, false]) := by decide +kernel
theorem k_97_65 : zD 97 65 = some (.aload_n 0, 1, none) := by decide +kernel
theorem k_97_66 : zD 97 66 = some (.getfield 15, 3, none) ∧ zFl (zOn 97) 15 = some (2, 1) ∧ zFc 2 1 = some 3 := by decide +kernel
theorem k_97_69 : zD 97 69 = some (.iload_n 1, 1, none) := by decide +kernel
theorem k_97_70 : zD 97 70 = some (.iload 10, 2, none) := by decide +kernel
theorem k_97_72 : zD 97 72 = some (.iastore, 1, none) := by decide +kernel
theorem k_97_73 : zD 97 73 = some (.aload_n 0, 1, none) := by decide +kernel
theorem k_97_74 : zD 97 74 = some (.getfield 18, 3, none) ∧ zFl (zOn 97) 18 = some (2, 2) ∧ zFc 2 2 = some 4 := by decide +kernel
theorem k_97_77 : zD 97 77 = some (.iload 4, 2, none) := by decide +kernel
theorem k_97_79 : zD 97 79 = some (.iconst (1), 1, none) := by decide +kernel
theorem k_97_80 : zD 97 80 = some (.iload 10, 2, none) := by decide +kernel
theorem k_97_82 : zD 97 82 = some (.ishl, 1, none) := by decide +kernel
theorem k_97_83 : zD 97 83 = some (.ior, 1, none) := by decide +kernel
theorem k_97_84 : zD 97 84 = some (.invokevirtual 87, 3, none) ∧ zCk (zOn 97) 87 = some (0, 18) ∧ zNp 18 = 1 ∧ zML 18 = 4 ∧ zCo[6]? = some (zOn 18) ∧ (zRt 18 = some .int ∨ zRt 18 = some .boolean ∨ zRt 18 = some .char ∨ zRt 18 = some .byte) := by decide +kernel
theorem k_97_87 : zD 97 87 = some (.istore 11, 2, none) := by decide +kernel
theorem k_97_89 : zD 97 89 = some (.aload_n 0, 1, none) := by decide +kernel
theorem k_97_90 : zD 97 90 = some (.getfield 18, 3, none) ∧ zFl (zOn 97) 18 = some (2, 2) ∧ zFc 2 2 = some 4 := by decide +kernel
theorem k_97_93 : zD 97 93 = some (.lload 5, 2, none) := by decide +kernel
theorem k_97_95 : zD 97 95 = some (.iload 10, 2, none) := by decide +kernel
theorem k_97_97 : zD 97 97 = some (.iload 4, 2, none) := by decide +kernel
theorem k_97_99 : zD 97 99 = some (.iload 10, 2, none) := by decide +kernel
theorem k_97_101 : zD 97 101 = some (.invokestatic 83, 3, none) ∧ zAt.lookup (zOn 97, 83) = none ∧ zCk (zOn 97) 83 = some (3, 11) ∧ (3 = 1 ∨ 3 = 3) ∧ zNp 11 = 2 ∧ zML 11 = 2 ∧ (zRt 11 = some .int ∨ zRt 11 = some .boolean ∨ zRt 11 = some .char ∨ zRt 11 = some .byte) := by decide +kernel
theorem k_97_104 : zD 97 104 = some (.invokevirtual 90, 3, none) ∧ zCk (zOn 97) 90 = some (0, 79) ∧ zNp 79 = 3 ∧ zML 79 = 5 ∧ zCo[6]? = some (zOn 79) ∧ zRt 79 = some .long := by decide +kernel
theorem k_97_107 : zD 97 107 = some (.lstore 12, 2, none) := by decide +kernel
theorem k_97_109 : zD 97 109 = some (.lload 7, 2, none) := by decide +kernel
theorem k_97_111 : zD 97 111 = some (.iload 10, 2, none) := by decide +kernel
theorem k_97_113 : zD 97 113 = some (.invokestatic 94, 3, none) ∧ zAt.lookup (zOn 97, 94) = none ∧ zCk (zOn 97) 94 = some (1, 12) ∧ (1 = 1 ∨ 1 = 3) ∧ zNp 12 = 2 ∧ zML 12 = 3 ∧ zRt 12 = some .long := by decide +kernel
theorem k_97_116 : zD 97 116 = some (.lstore 14, 2, none) := by decide +kernel
theorem k_97_118 : zD 97 118 = some (.iload_n 2, 1, none) := by decide +kernel
theorem k_97_119 : zD 97 119 = some (.ifCond .eq (20), 3, none) ∧ zTg 119 (20) = some 139 := by decide +kernel
theorem k_97_139 : zD 97 139 = some (.aload_n 0, 1, none) := by decide +kernel
theorem k_97_140 : zD 97 140 = some (.iload_n 1, 1, none) := by decide +kernel
theorem k_97_141 : zD 97 141 = some (.iconst (1), 1, none) := by decide +kernel
theorem k_97_142 : zD 97 142 = some (.iadd, 1, none) := by decide +kernel
theorem k_97_143 : zD 97 143 = some (.iload 11, 2, none) := by decide +kernel
theorem k_97_145 : zD 97 145 = some (.iload_n 3, 1, none) := by decide +kernel
theorem k_97_146 : zD 97 146 = some (.lload 14, 2, none) := by decide +kernel
theorem k_97_148 : zD 97 148 = some (.lload 12, 2, none) := by decide +kernel
theorem k_97_150 : zD 97 150 = some (.invokevirtual 56, 3, none) ∧ zCk (zOn 97) 56 = some (0, 94) ∧ zNp 94 = 5 ∧ zML 94 = 8 ∧ zCo[2]? = some (zOn 94) ∧ (zRt 94 = some .int ∨ zRt 94 = some .boolean ∨ zRt 94 = some .char ∨ zRt 94 = some .byte) := by decide +kernel
theorem k_97_122 : zD 97 122 = some (.aload_n 0, 1, none) := by decide +kernel
theorem k_97_123 : zD 97 123 = some (.iload_n 1, 1, none) := by decide +kernel
theorem k_97_124 : zD 97 124 = some (.iconst (1), 1, none) := by decide +kernel
theorem k_97_125 : zD 97 125 = some (.iadd, 1, none) := by decide +kernel
theorem k_97_126 : zD 97 126 = some (.iload_n 3, 1, none) := by decide +kernel
theorem k_97_127 : zD 97 127 = some (.iload 11, 2, none) := by decide +kernel
theorem k_97_129 : zD 97 129 = some (.lload 12, 2, none) := by decide +kernel
theorem k_97_131 : zD 97 131 = some (.lload 14, 2, none) := by decide +kernel
theorem k_97_133 : zD 97 133 = some (.invokevirtual 56, 3, none) ∧ zCk (zOn 97) 56 = some (0, 94) ∧ zNp 94 = 5 ∧ zML 94 = 8 ∧ zCo[2]? = some (zOn 94) ∧ (zRt 94 = some .int ∨ zRt 94 = some .boolean ∨ zRt 94 = some .char ∨ zRt 94 = some .byte) := by decide +kernel
theorem k_97_136 : zD 97 136 = some (.goto (17), 3, none) ∧ zTg 136 (17) = some 153 := by decide +kernel
theorem k_97_153 : zD 97 153 = some (.istore 16, 2, some [true, true, true, true, true, true, false, true, false, true, true, false, false, false, false, false, false]) := by decide +kernel
theorem k_97_155 : zD 97 155 = some (.iload 16, 2, none) := by decide +kernel
theorem k_97_157 : zD 97 157 = some (.ifCond .eq (5), 3, none) ∧ zTg 157 (5) = some 162 := by decide +kernel
theorem k_97_160 : zD 97 160 = some (.iconst (1), 1, none) := by decide +kernel
theorem k_97_161 : zD 97 161 = some (.ireturn, 1, none) := by decide +kernel
theorem kd_97_19 : zD 97 19 = some (.iload 10, 2, some [true, true, true, true, true, true, false, true, false, true, true, false, false, false, false, false, false]) := k_97_19
theorem kd_97_64 : zD 97 64 = some (.iastore, 1, some [true, true, true, true, true, true, false, true, false, true, true, false, false, false, false, false, false]) := k_97_64
theorem kd_97_153 : zD 97 153 = some (.istore 16, 2, some [true, true, true, true, true, true, false, true, false, true, true, false, false, false, false, false, false]) := k_97_153
theorem kd_97_162 : zD 97 162 = some (.iinc 10 (1), 3, some [true, true, true, true, true, true, false, true, false, true, true, false, false, false, false, false, false]) := k_97_162
theorem ml_98 : zML 98 = 2 := by decide +kernel
theorem rt_98 : zRt 98 = some .int := by decide +kernel
theorem k_98_0 : zD 98 0 = some (.iload_n 1, 1, none) := by decide +kernel
theorem k_98_1 : zD 98 1 = some (.ifCond .lt (21), 3, none) ∧ zTg 1 (21) = some 22 := by decide +kernel
theorem k_98_22 : zD 98 22 = some (.iconst (-1), 1, some [false, false]) := by decide +kernel
theorem k_98_23 : zD 98 23 = some (.ireturn, 1, none) := by decide +kernel
theorem k_98_4 : zD 98 4 = some (.iload_n 1, 1, none) := by decide +kernel
theorem k_98_5 : zD 98 5 = some (.iconst (2), 1, none) := by decide +kernel
theorem k_98_6 : zD 98 6 = some (.idiv, 1, none) := by decide +kernel
theorem k_98_7 : zD 98 7 = some (.aload_n 0, 1, none) := by decide +kernel
theorem k_98_8 : zD 98 8 = some (.getfield 46, 3, none) ∧ zFl (zOn 98) 46 = some (2, 8) ∧ zFc 2 8 = some 0 := by decide +kernel
theorem k_98_11 : zD 98 11 = some (.if_icmp .ge (11), 3, none) ∧ zTg 11 (11) = some 22 := by decide +kernel
theorem k_98_14 : zD 98 14 = some (.iload_n 1, 1, none) := by decide +kernel
theorem k_98_15 : zD 98 15 = some (.iconst (2), 1, none) := by decide +kernel
theorem k_98_16 : zD 98 16 = some (.idiv, 1, none) := by decide +kernel
theorem k_98_17 : zD 98 17 = some (.bipush (6), 2, none) := by decide +kernel
theorem k_98_19 : zD 98 19 = some (.if_icmp .lt (5), 3, none) ∧ zTg 19 (5) = some 24 := by decide +kernel
theorem k_98_24 : zD 98 24 = some (.iload_n 1, 1, none) := by decide +kernel
theorem k_98_25 : zD 98 25 = some (.iconst (2), 1, none) := by decide +kernel
theorem k_98_26 : zD 98 26 = some (.irem, 1, none) := by decide +kernel
theorem k_98_27 : zD 98 27 = some (.ifCond .ne (14), 3, none) ∧ zTg 27 (14) = some 41 := by decide +kernel
theorem k_98_30 : zD 98 30 = some (.aload_n 0, 1, none) := by decide +kernel
theorem k_98_31 : zD 98 31 = some (.getfield 11, 3, none) ∧ zFl (zOn 98) 11 = some (2, 0) ∧ zFc 2 0 = some 3 := by decide +kernel
theorem k_98_34 : zD 98 34 = some (.iload_n 1, 1, none) := by decide +kernel
theorem k_98_35 : zD 98 35 = some (.iconst (2), 1, none) := by decide +kernel
theorem k_98_36 : zD 98 36 = some (.idiv, 1, none) := by decide +kernel
theorem k_98_37 : zD 98 37 = some (.iaload, 1, none) := by decide +kernel
theorem k_98_38 : zD 98 38 = some (.goto (11), 3, none) ∧ zTg 38 (11) = some 49 := by decide +kernel
theorem k_98_49 : zD 98 49 = some (.ireturn, 1, some [false, false]) := by decide +kernel
theorem k_98_41 : zD 98 41 = some (.aload_n 0, 1, none) := by decide +kernel
theorem k_98_42 : zD 98 42 = some (.getfield 15, 3, none) ∧ zFl (zOn 98) 15 = some (2, 1) ∧ zFc 2 1 = some 3 := by decide +kernel
theorem k_98_45 : zD 98 45 = some (.iload_n 1, 1, none) := by decide +kernel
theorem k_98_46 : zD 98 46 = some (.iconst (2), 1, none) := by decide +kernel
theorem k_98_47 : zD 98 47 = some (.idiv, 1, none) := by decide +kernel
theorem k_98_48 : zD 98 48 = some (.iaload, 1, none) := by decide +kernel
theorem kd_98_22 : zD 98 22 = some (.iconst (-1), 1, some [false, false]) := k_98_22
theorem kd_98_49 : zD 98 49 = some (.ireturn, 1, some [false, false]) := k_98_49
theorem ml_23 : zML 23 = 3 := by decide +kernel
theorem rt_23 : zRt 23 = some .int := by decide +kernel
theorem k_23_0 : zD 23 0 = some (.aload_n 0, 1, none) := by decide +kernel
theorem k_23_1 : zD 23 1 = some (.aload_n 1, 1, none) := by decide +kernel
theorem k_23_2 : zD 23 2 = some (.putfield 15, 3, none) ∧ zFl (zOn 23) 15 = some (3, 1) ∧ zFc 3 1 = some 4 := by decide +kernel
theorem k_23_5 : zD 23 5 = some (.aload_n 0, 1, none) := by decide +kernel
theorem k_23_6 : zD 23 6 = some (.getfield 15, 3, none) ∧ zFl (zOn 23) 15 = some (3, 1) ∧ zFc 3 1 = some 4 := by decide +kernel
theorem k_23_9 : zD 23 9 = some (.invokevirtual 19, 3, none) ∧ zCk (zOn 23) 19 = some (0, 8) ∧ zNp 8 = 0 ∧ zML 8 = 1 ∧ zCo[6]? = some (zOn 8) ∧ zRt 8 = none := by decide +kernel
theorem k_23_12 : zD 23 12 = some (.aload_n 0, 1, none) := by decide +kernel
theorem k_23_13 : zD 23 13 = some (.iconst (0), 1, none) := by decide +kernel
theorem k_23_14 : zD 23 14 = some (.putfield 24, 3, none) ∧ zFl (zOn 23) 24 = some (3, 2) ∧ zFc 3 2 = some 1 := by decide +kernel
theorem k_23_17 : zD 23 17 = some (.aload_n 0, 1, none) := by decide +kernel
theorem k_23_18 : zD 23 18 = some (.iconst (0), 1, none) := by decide +kernel
theorem k_23_19 : zD 23 19 = some (.putfield 28, 3, none) ∧ zFl (zOn 23) 28 = some (3, 7) ∧ zFc 3 7 = some 0 := by decide +kernel
theorem k_23_22 : zD 23 22 = some (.aload_n 0, 1, none) := by decide +kernel
theorem k_23_23 : zD 23 23 = some (.iconst (-1), 1, none) := by decide +kernel
theorem k_23_24 : zD 23 24 = some (.putfield 32, 3, none) ∧ zFl (zOn 23) 32 = some (3, 8) ∧ zFc 3 8 = some 0 := by decide +kernel
theorem k_23_27 : zD 23 27 = some (.aload_n 0, 1, none) := by decide +kernel
theorem k_23_28 : zD 23 28 = some (.iconst (0), 1, none) := by decide +kernel
theorem k_23_29 : zD 23 29 = some (.putfield 35, 3, none) ∧ zFl (zOn 23) 35 = some (3, 5) ∧ zFc 3 5 = some 0 := by decide +kernel
theorem k_23_32 : zD 23 32 = some (.aload_n 0, 1, none) := by decide +kernel
theorem k_23_33 : zD 23 33 = some (.invokevirtual 38, 3, none) ∧ zCk (zOn 23) 38 = some (0, 24) ∧ zNp 24 = 0 ∧ zML 24 = 1 ∧ zCo[3]? = some (zOn 24) ∧ zRt 24 = none := by decide +kernel
theorem k_23_36 : zD 23 36 = some (.iconst (0), 1, none) := by decide +kernel
theorem k_23_37 : zD 23 37 = some (.istore_n 2, 1, none) := by decide +kernel
theorem k_23_38 : zD 23 38 = some (.iload_n 2, 1, some [true, false, true]) := by decide +kernel
theorem k_23_39 : zD 23 39 = some (.sipush (400), 3, none) := by decide +kernel
theorem k_23_42 : zD 23 42 = some (.if_icmp .ge (27), 3, none) ∧ zTg 42 (27) = some 69 := by decide +kernel
theorem k_23_45 : zD 23 45 = some (.aload_n 0, 1, none) := by decide +kernel
theorem k_23_46 : zD 23 46 = some (.getfield 43, 3, none) ∧ zFl (zOn 23) 43 = some (3, 3) ∧ zFc 3 3 = some 0 := by decide +kernel
theorem k_23_49 : zD 23 49 = some (.ifCond .eq (20), 3, none) ∧ zTg 49 (20) = some 69 := by decide +kernel
theorem k_23_69 : zD 23 69 = some (.aload_n 0, 1, some [true, false, false]) := by decide +kernel
theorem k_23_70 : zD 23 70 = some (.getfield 28, 3, none) ∧ zFl (zOn 23) 28 = some (3, 7) ∧ zFc 3 7 = some 0 := by decide +kernel
theorem k_23_73 : zD 23 73 = some (.ireturn, 1, none) := by decide +kernel
theorem k_23_52 : zD 23 52 = some (.aload_n 0, 1, none) := by decide +kernel
theorem k_23_53 : zD 23 53 = some (.getfield 28, 3, none) ∧ zFl (zOn 23) 28 = some (3, 7) ∧ zFc 3 7 = some 0 := by decide +kernel
theorem k_23_56 : zD 23 56 = some (.ifCond .ne (13), 3, none) ∧ zTg 56 (13) = some 69 := by decide +kernel
theorem k_23_59 : zD 23 59 = some (.aload_n 0, 1, none) := by decide +kernel
theorem k_23_60 : zD 23 60 = some (.invokevirtual 46, 3, none) ∧ zCk (zOn 23) 46 = some (0, 28) ∧ zNp 28 = 0 ∧ zML 28 = 1 ∧ zCo[3]? = some (zOn 28) ∧ zRt 28 = none := by decide +kernel
theorem k_23_63 : zD 23 63 = some (.iinc 2 (1), 3, none) := by decide +kernel
theorem k_23_66 : zD 23 66 = some (.goto (-28), 3, none) ∧ zTg 66 (-28) = some 38 := by decide +kernel
theorem kd_23_38 : zD 23 38 = some (.iload_n 2, 1, some [true, false, true]) := k_23_38
theorem kd_23_69 : zD 23 69 = some (.aload_n 0, 1, some [true, false, false]) := k_23_69
theorem ml_24 : zML 24 = 1 := by decide +kernel
theorem rt_24 : zRt 24 = none := by decide +kernel
theorem k_24_0 : zD 24 0 = some (.aload_n 0, 1, none) := by decide +kernel
theorem k_24_1 : zD 24 1 = some (.getfield 28, 3, none) ∧ zFl (zOn 24) 28 = some (3, 7) ∧ zFc 3 7 = some 0 := by decide +kernel
theorem k_24_4 : zD 24 4 = some (.ifCond .eq (4), 3, none) ∧ zTg 4 (4) = some 8 := by decide +kernel
theorem k_24_8 : zD 24 8 = some (.aload_n 0, 1, none) := by decide +kernel
theorem k_24_9 : zD 24 9 = some (.aload_n 0, 1, none) := by decide +kernel
theorem k_24_10 : zD 24 10 = some (.getfield 35, 3, none) ∧ zFl (zOn 24) 35 = some (3, 5) ∧ zFc 3 5 = some 0 := by decide +kernel
theorem k_24_13 : zD 24 13 = some (.putfield 103, 3, none) ∧ zFl (zOn 24) 103 = some (3, 4) ∧ zFc 3 4 = some 0 := by decide +kernel
theorem k_24_7 : zD 24 7 = some (.return_, 1, none) := by decide +kernel
theorem k_24_16 : zD 24 16 = some (.aload_n 0, 1, some [true]) := by decide +kernel
theorem k_24_17 : zD 24 17 = some (.getfield 103, 3, none) ∧ zFl (zOn 24) 103 = some (3, 4) ∧ zFc 3 4 = some 0 := by decide +kernel
theorem k_24_20 : zD 24 20 = some (.aload_n 0, 1, none) := by decide +kernel
theorem k_24_21 : zD 24 21 = some (.getfield 9, 3, none) ∧ zFl (zOn 24) 9 = some (3, 0) ∧ zFc 3 0 = some 3 := by decide +kernel
theorem k_24_24 : zD 24 24 = some (.getfield 120, 3, none) ∧ zFl (zOn 24) 120 = some (5, 1) ∧ zFc 5 1 = some 0 := by decide +kernel
theorem k_24_27 : zD 24 27 = some (.if_icmp .ge (29), 3, none) ∧ zTg 27 (29) = some 56 := by decide +kernel
theorem k_24_30 : zD 24 30 = some (.aload_n 0, 1, none) := by decide +kernel
theorem k_24_31 : zD 24 31 = some (.aload_n 0, 1, none) := by decide +kernel
theorem k_24_32 : zD 24 32 = some (.getfield 103, 3, none) ∧ zFl (zOn 24) 103 = some (3, 4) ∧ zFc 3 4 = some 0 := by decide +kernel
theorem k_24_35 : zD 24 35 = some (.invokevirtual 123, 3, none) ∧ zCk (zOn 24) 123 = some (0, 25) ∧ zNp 25 = 1 ∧ zML 25 = 2 ∧ zCo[3]? = some (zOn 25) ∧ (zRt 25 = some .int ∨ zRt 25 = some .boolean ∨ zRt 25 = some .char ∨ zRt 25 = some .byte) := by decide +kernel
theorem k_24_38 : zD 24 38 = some (.bipush (32), 2, none) := by decide +kernel
theorem k_24_40 : zD 24 40 = some (.if_icmp .ne (16), 3, none) ∧ zTg 40 (16) = some 56 := by decide +kernel
theorem k_24_43 : zD 24 43 = some (.aload_n 0, 1, none) := by decide +kernel
theorem k_24_44 : zD 24 44 = some (.dup, 1, none) := by decide +kernel
theorem k_24_45 : zD 24 45 = some (.getfield 103, 3, none) ∧ zFl (zOn 24) 103 = some (3, 4) ∧ zFc 3 4 = some 0 := by decide +kernel
theorem k_24_48 : zD 24 48 = some (.iconst (1), 1, none) := by decide +kernel
theorem k_24_49 : zD 24 49 = some (.iadd, 1, none) := by decide +kernel
theorem k_24_50 : zD 24 50 = some (.putfield 103, 3, none) ∧ zFl (zOn 24) 103 = some (3, 4) ∧ zFc 3 4 = some 0 := by decide +kernel
theorem k_24_53 : zD 24 53 = some (.goto (-37), 3, none) ∧ zTg 53 (-37) = some 16 := by decide +kernel
theorem k_24_56 : zD 24 56 = some (.aload_n 0, 1, some [true]) := by decide +kernel
theorem k_24_57 : zD 24 57 = some (.aload_n 0, 1, none) := by decide +kernel
theorem k_24_58 : zD 24 58 = some (.aload_n 0, 1, none) := by decide +kernel
theorem k_24_59 : zD 24 59 = some (.getfield 103, 3, none) ∧ zFl (zOn 24) 103 = some (3, 4) ∧ zFc 3 4 = some 0 := by decide +kernel
theorem k_24_62 : zD 24 62 = some (.invokevirtual 127, 3, none) ∧ zCk (zOn 24) 127 = some (0, 26) ∧ zNp 26 = 1 ∧ zML 26 = 3 ∧ zCo[3]? = some (zOn 26) ∧ (zRt 26 = some .int ∨ zRt 26 = some .boolean ∨ zRt 26 = some .char ∨ zRt 26 = some .byte) := by decide +kernel
theorem k_24_65 : zD 24 65 = some (.putfield 43, 3, none) ∧ zFl (zOn 24) 43 = some (3, 3) ∧ zFc 3 3 = some 0 := by decide +kernel
theorem k_24_68 : zD 24 68 = some (.aload_n 0, 1, none) := by decide +kernel
theorem k_24_69 : zD 24 69 = some (.aload_n 0, 1, none) := by decide +kernel
theorem k_24_70 : zD 24 70 = some (.getfield 43, 3, none) ∧ zFl (zOn 24) 43 = some (3, 3) ∧ zFc 3 3 = some 0 := by decide +kernel
theorem k_24_73 : zD 24 73 = some (.ifCond .ne (10), 3, none) ∧ zTg 73 (10) = some 83 := by decide +kernel
theorem k_24_76 : zD 24 76 = some (.aload_n 0, 1, none) := by decide +kernel
theorem k_24_77 : zD 24 77 = some (.getfield 103, 3, none) ∧ zFl (zOn 24) 103 = some (3, 4) ∧ zFc 3 4 = some 0 := by decide +kernel
theorem k_24_80 : zD 24 80 = some (.goto (9), 3, none) ∧ zTg 80 (9) = some 89 := by decide +kernel
theorem k_24_89 : zD 24 89 = some (.putfield 35, 3, some [true]) ∧ zFl (zOn 24) 35 = some (3, 5) ∧ zFc 3 5 = some 0 := by decide +kernel
theorem k_24_83 : zD 24 83 = some (.aload_n 0, 1, none) := by decide +kernel
theorem k_24_84 : zD 24 84 = some (.getfield 103, 3, none) ∧ zFl (zOn 24) 103 = some (3, 4) ∧ zFc 3 4 = some 0 := by decide +kernel
theorem k_24_87 : zD 24 87 = some (.iconst (1), 1, none) := by decide +kernel
theorem k_24_88 : zD 24 88 = some (.iadd, 1, none) := by decide +kernel
theorem k_24_92 : zD 24 92 = some (.aload_n 0, 1, some [true]) := by decide +kernel
theorem k_24_93 : zD 24 93 = some (.getfield 43, 3, none) ∧ zFl (zOn 24) 43 = some (3, 3) ∧ zFc 3 3 = some 0 := by decide +kernel
theorem k_24_96 : zD 24 96 = some (.iconst (3), 1, none) := by decide +kernel
theorem k_24_97 : zD 24 97 = some (.if_icmp .eq (45), 3, none) ∧ zTg 97 (45) = some 142 := by decide +kernel
theorem k_24_100 : zD 24 100 = some (.aload_n 0, 1, none) := by decide +kernel
theorem k_24_101 : zD 24 101 = some (.getfield 35, 3, none) ∧ zFl (zOn 24) 35 = some (3, 5) ∧ zFc 3 5 = some 0 := by decide +kernel
theorem k_24_104 : zD 24 104 = some (.aload_n 0, 1, none) := by decide +kernel
theorem k_24_105 : zD 24 105 = some (.getfield 9, 3, none) ∧ zFl (zOn 24) 9 = some (3, 0) ∧ zFc 3 0 = some 3 := by decide +kernel
theorem k_24_108 : zD 24 108 = some (.getfield 120, 3, none) ∧ zFl (zOn 24) 120 = some (5, 1) ∧ zFc 5 1 = some 0 := by decide +kernel
theorem k_24_111 : zD 24 111 = some (.if_icmp .ge (31), 3, none) ∧ zTg 111 (31) = some 142 := by decide +kernel
theorem k_24_114 : zD 24 114 = some (.aload_n 0, 1, none) := by decide +kernel
theorem k_24_115 : zD 24 115 = some (.aload_n 0, 1, none) := by decide +kernel
theorem k_24_116 : zD 24 116 = some (.getfield 35, 3, none) ∧ zFl (zOn 24) 35 = some (3, 5) ∧ zFc 3 5 = some 0 := by decide +kernel
theorem k_24_119 : zD 24 119 = some (.invokevirtual 127, 3, none) ∧ zCk (zOn 24) 127 = some (0, 26) ∧ zNp 26 = 1 ∧ zML 26 = 3 ∧ zCo[3]? = some (zOn 26) ∧ (zRt 26 = some .int ∨ zRt 26 = some .boolean ∨ zRt 26 = some .char ∨ zRt 26 = some .byte) := by decide +kernel
theorem k_24_122 : zD 24 122 = some (.aload_n 0, 1, none) := by decide +kernel
theorem k_24_123 : zD 24 123 = some (.getfield 43, 3, none) ∧ zFl (zOn 24) 43 = some (3, 3) ∧ zFc 3 3 = some 0 := by decide +kernel
theorem k_24_126 : zD 24 126 = some (.if_icmp .ne (16), 3, none) ∧ zTg 126 (16) = some 142 := by decide +kernel
theorem k_24_129 : zD 24 129 = some (.aload_n 0, 1, none) := by decide +kernel
theorem k_24_130 : zD 24 130 = some (.dup, 1, none) := by decide +kernel
theorem k_24_131 : zD 24 131 = some (.getfield 35, 3, none) ∧ zFl (zOn 24) 35 = some (3, 5) ∧ zFc 3 5 = some 0 := by decide +kernel
theorem k_24_134 : zD 24 134 = some (.iconst (1), 1, none) := by decide +kernel
theorem k_24_135 : zD 24 135 = some (.iadd, 1, none) := by decide +kernel
theorem k_24_136 : zD 24 136 = some (.putfield 35, 3, none) ∧ zFl (zOn 24) 35 = some (3, 5) ∧ zFc 3 5 = some 0 := by decide +kernel
theorem k_24_139 : zD 24 139 = some (.goto (-47), 3, none) ∧ zTg 139 (-47) = some 92 := by decide +kernel
theorem k_24_142 : zD 24 142 = some (.aload_n 0, 1, some [true]) := by decide +kernel
theorem k_24_143 : zD 24 143 = some (.aload_n 0, 1, none) := by decide +kernel
theorem k_24_144 : zD 24 144 = some (.getfield 43, 3, none) ∧ zFl (zOn 24) 43 = some (3, 3) ∧ zFc 3 3 = some 0 := by decide +kernel
theorem k_24_147 : zD 24 147 = some (.iconst (2), 1, none) := by decide +kernel
theorem k_24_148 : zD 24 148 = some (.if_icmp .ne (10), 3, none) ∧ zTg 148 (10) = some 158 := by decide +kernel
theorem k_24_151 : zD 24 151 = some (.aload_n 0, 1, none) := by decide +kernel
theorem k_24_152 : zD 24 152 = some (.invokevirtual 130, 3, none) ∧ zCk (zOn 24) 130 = some (0, 27) ∧ zNp 27 = 0 ∧ zML 27 = 3 ∧ zCo[3]? = some (zOn 27) ∧ (zRt 27 = some .int ∨ zRt 27 = some .boolean ∨ zRt 27 = some .char ∨ zRt 27 = some .byte) := by decide +kernel
theorem k_24_155 : zD 24 155 = some (.goto (4), 3, none) ∧ zTg 155 (4) = some 159 := by decide +kernel
theorem k_24_159 : zD 24 159 = some (.putfield 117, 3, some [false]) ∧ zFl (zOn 24) 117 = some (3, 6) ∧ zFc 3 6 = some 0 := by decide +kernel
theorem k_24_162 : zD 24 162 = some (.return_, 1, none) := by decide +kernel
theorem k_24_158 : zD 24 158 = some (.iconst (0), 1, none) := by decide +kernel
theorem kd_24_16 : zD 24 16 = some (.aload_n 0, 1, some [true]) := k_24_16
theorem kd_24_56 : zD 24 56 = some (.aload_n 0, 1, some [true]) := k_24_56
theorem kd_24_92 : zD 24 92 = some (.aload_n 0, 1, some [true]) := k_24_92
theorem kd_24_142 : zD 24 142 = some (.aload_n 0, 1, some [true]) := k_24_142
theorem kd_24_159 : zD 24 159 = some (.putfield 117, 3, some [false]) := k_24_159.1
theorem ml_25 : zML 25 = 2 := by decide +kernel
theorem rt_25 : zRt 25 = some .int := by decide +kernel
theorem k_25_0 : zD 25 0 = some (.iload_n 1, 1, none) := by decide +kernel
theorem k_25_1 : zD 25 1 = some (.ifCond .lt (26), 3, none) ∧ zTg 1 (26) = some 27 := by decide +kernel
theorem k_25_27 : zD 25 27 = some (.iconst (0), 1, some [false, false]) := by decide +kernel
theorem k_25_28 : zD 25 28 = some (.ireturn, 1, some [false, false]) := by decide +kernel
theorem k_25_4 : zD 25 4 = some (.iload_n 1, 1, none) := by decide +kernel
theorem k_25_5 : zD 25 5 = some (.aload_n 0, 1, none) := by decide +kernel
theorem k_25_6 : zD 25 6 = some (.getfield 9, 3, none) ∧ zFl (zOn 25) 9 = some (3, 0) ∧ zFc 3 0 = some 3 := by decide +kernel
theorem k_25_9 : zD 25 9 = some (.getfield 120, 3, none) ∧ zFl (zOn 25) 120 = some (5, 1) ∧ zFc 5 1 = some 0 := by decide +kernel
theorem k_25_12 : zD 25 12 = some (.if_icmp .ge (15), 3, none) ∧ zTg 12 (15) = some 27 := by decide +kernel
theorem k_25_15 : zD 25 15 = some (.aload_n 0, 1, none) := by decide +kernel
theorem k_25_16 : zD 25 16 = some (.getfield 9, 3, none) ∧ zFl (zOn 25) 9 = some (3, 0) ∧ zFc 3 0 = some 3 := by decide +kernel
theorem k_25_19 : zD 25 19 = some (.getfield 133, 3, none) ∧ zFl (zOn 25) 133 = some (5, 0) ∧ zFc 5 0 = some 3 := by decide +kernel
theorem k_25_22 : zD 25 22 = some (.iload_n 1, 1, none) := by decide +kernel
theorem k_25_23 : zD 25 23 = some (.iaload, 1, none) := by decide +kernel
theorem k_25_24 : zD 25 24 = some (.goto (4), 3, none) ∧ zTg 24 (4) = some 28 := by decide +kernel
theorem kd_25_27 : zD 25 27 = some (.iconst (0), 1, some [false, false]) := k_25_27
theorem kd_25_28 : zD 25 28 = some (.ireturn, 1, some [false, false]) := k_25_28
theorem ml_26 : zML 26 = 3 := by decide +kernel
theorem rt_26 : zRt 26 = some .int := by decide +kernel
theorem k_26_0 : zD 26 0 = some (.iload_n 1, 1, none) := by decide +kernel
theorem k_26_1 : zD 26 1 = some (.ifCond .lt (14), 3, none) ∧ zTg 1 (14) = some 15 := by decide +kernel
theorem k_26_15 : zD 26 15 = some (.iconst (0), 1, some [false, false, false]) := by decide +kernel
theorem k_26_16 : zD 26 16 = some (.ireturn, 1, none) := by decide +kernel
theorem k_26_4 : zD 26 4 = some (.iload_n 1, 1, none) := by decide +kernel
theorem k_26_5 : zD 26 5 = some (.aload_n 0, 1, none) := by decide +kernel
theorem k_26_6 : zD 26 6 = some (.getfield 9, 3, none) ∧ zFl (zOn 26) 9 = some (3, 0) ∧ zFc 3 0 = some 3 := by decide +kernel
theorem k_26_9 : zD 26 9 = some (.getfield 120, 3, none) ∧ zFl (zOn 26) 120 = some (5, 1) ∧ zFc 5 1 = some 0 := by decide +kernel
theorem k_26_12 : zD 26 12 = some (.if_icmp .lt (5), 3, none) ∧ zTg 12 (5) = some 17 := by decide +kernel
theorem k_26_17 : zD 26 17 = some (.aload_n 0, 1, none) := by decide +kernel
theorem k_26_18 : zD 26 18 = some (.getfield 9, 3, none) ∧ zFl (zOn 26) 9 = some (3, 0) ∧ zFc 3 0 = some 3 := by decide +kernel
theorem k_26_21 : zD 26 21 = some (.getfield 133, 3, none) ∧ zFl (zOn 26) 133 = some (5, 0) ∧ zFc 5 0 = some 3 := by decide +kernel
theorem k_26_24 : zD 26 24 = some (.iload_n 1, 1, none) := by decide +kernel
theorem k_26_25 : zD 26 25 = some (.iaload, 1, none) := by decide +kernel
theorem k_26_26 : zD 26 26 = some (.istore_n 2, 1, none) := by decide +kernel
theorem k_26_27 : zD 26 27 = some (.iload_n 2, 1, none) := by decide +kernel
theorem k_26_28 : zD 26 28 = some (.bipush (97), 2, none) := by decide +kernel
theorem k_26_30 : zD 26 30 = some (.if_icmp .lt (11), 3, none) ∧ zTg 30 (11) = some 41 := by decide +kernel
theorem k_26_33 : zD 26 33 = some (.iload_n 2, 1, none) := by decide +kernel
theorem k_26_34 : zD 26 34 = some (.bipush (122), 2, none) := by decide +kernel
theorem k_26_36 : zD 26 36 = some (.if_icmp .gt (5), 3, none) ∧ zTg 36 (5) = some 41 := by decide +kernel
theorem k_26_39 : zD 26 39 = some (.iconst (1), 1, none) := by decide +kernel
theorem k_26_40 : zD 26 40 = some (.ireturn, 1, none) := by decide +kernel
theorem k_26_41 : zD 26 41 = some (.iload_n 2, 1, some [false, false, true]) := by decide +kernel
theorem k_26_42 : zD 26 42 = some (.bipush (48), 2, none) := by decide +kernel
theorem k_26_44 : zD 26 44 = some (.if_icmp .lt (13), 3, none) ∧ zTg 44 (13) = some 57 := by decide +kernel
theorem k_26_57 : zD 26 57 = some (.iconst (3), 1, some [false, false, false]) := by decide +kernel
theorem k_26_58 : zD 26 58 = some (.ireturn, 1, some [false, false, false]) := by decide +kernel
theorem k_26_47 : zD 26 47 = some (.iload_n 2, 1, none) := by decide +kernel
theorem k_26_48 : zD 26 48 = some (.bipush (57), 2, none) := by decide +kernel
theorem k_26_50 : zD 26 50 = some (.if_icmp .gt (7), 3, none) ∧ zTg 50 (7) = some 57 := by decide +kernel
theorem k_26_53 : zD 26 53 = some (.iconst (2), 1, none) := by decide +kernel
theorem k_26_54 : zD 26 54 = some (.goto (4), 3, none) ∧ zTg 54 (4) = some 58 := by decide +kernel
theorem kd_26_15 : zD 26 15 = some (.iconst (0), 1, some [false, false, false]) := k_26_15
theorem kd_26_41 : zD 26 41 = some (.iload_n 2, 1, some [false, false, true]) := k_26_41
theorem kd_26_57 : zD 26 57 = some (.iconst (3), 1, some [false, false, false]) := k_26_57
theorem kd_26_58 : zD 26 58 = some (.ireturn, 1, some [false, false, false]) := k_26_58
theorem ml_27 : zML 27 = 3 := by decide +kernel
theorem rt_27 : zRt 27 = some .int := by decide +kernel
theorem k_27_0 : zD 27 0 = some (.iconst (0), 1, none) := by decide +kernel
theorem k_27_1 : zD 27 1 = some (.istore_n 1, 1, none) := by decide +kernel
theorem k_27_2 : zD 27 2 = some (.aload_n 0, 1, none) := by decide +kernel
theorem k_27_3 : zD 27 3 = some (.getfield 103, 3, none) ∧ zFl (zOn 27) 103 = some (3, 4) ∧ zFc 3 4 = some 0 := by decide +kernel
theorem k_27_6 : zD 27 6 = some (.istore_n 2, 1, none) := by decide +kernel
theorem k_27_7 : zD 27 7 = some (.iload_n 2, 1, some [true, true, true]) := by decide +kernel
theorem k_27_8 : zD 27 8 = some (.aload_n 0, 1, none) := by decide +kernel
theorem k_27_9 : zD 27 9 = some (.getfield 35, 3, none) ∧ zFl (zOn 27) 35 = some (3, 5) ∧ zFc 3 5 = some 0 := by decide +kernel
theorem k_27_12 : zD 27 12 = some (.if_icmp .ge (48), 3, none) ∧ zTg 12 (48) = some 60 := by decide +kernel
theorem k_27_15 : zD 27 15 = some (.iload_n 2, 1, none) := by decide +kernel
theorem k_27_16 : zD 27 16 = some (.aload_n 0, 1, none) := by decide +kernel
theorem k_27_17 : zD 27 17 = some (.getfield 9, 3, none) ∧ zFl (zOn 27) 9 = some (3, 0) ∧ zFc 3 0 = some 3 := by decide +kernel
theorem k_27_20 : zD 27 20 = some (.getfield 120, 3, none) ∧ zFl (zOn 27) 120 = some (5, 1) ∧ zFc 5 1 = some 0 := by decide +kernel
theorem k_27_23 : zD 27 23 = some (.if_icmp .ge (37), 3, none) ∧ zTg 23 (37) = some 60 := by decide +kernel
theorem k_27_26 : zD 27 26 = some (.iload_n 2, 1, none) := by decide +kernel
theorem k_27_27 : zD 27 27 = some (.aload_n 0, 1, none) := by decide +kernel
theorem k_27_28 : zD 27 28 = some (.getfield 103, 3, none) ∧ zFl (zOn 27) 103 = some (3, 4) ∧ zFc 3 4 = some 0 := by decide +kernel
theorem k_27_31 : zD 27 31 = some (.iconst (3), 1, none) := by decide +kernel
theorem k_27_32 : zD 27 32 = some (.iadd, 1, none) := by decide +kernel
theorem k_27_33 : zD 27 33 = some (.if_icmp .ge (27), 3, none) ∧ zTg 33 (27) = some 60 := by decide +kernel
theorem k_27_36 : zD 27 36 = some (.iload_n 1, 1, none) := by decide +kernel
theorem k_27_37 : zD 27 37 = some (.bipush (10), 2, none) := by decide +kernel
theorem k_27_39 : zD 27 39 = some (.imul, 1, none) := by decide +kernel
theorem k_27_40 : zD 27 40 = some (.aload_n 0, 1, none) := by decide +kernel
theorem k_27_41 : zD 27 41 = some (.getfield 9, 3, none) ∧ zFl (zOn 27) 9 = some (3, 0) ∧ zFc 3 0 = some 3 := by decide +kernel
theorem k_27_44 : zD 27 44 = some (.getfield 133, 3, none) ∧ zFl (zOn 27) 133 = some (5, 0) ∧ zFc 5 0 = some 3 := by decide +kernel
theorem k_27_47 : zD 27 47 = some (.iload_n 2, 1, none) := by decide +kernel
theorem k_27_48 : zD 27 48 = some (.iaload, 1, none) := by decide +kernel
theorem k_27_49 : zD 27 49 = some (.iadd, 1, none) := by decide +kernel
theorem k_27_50 : zD 27 50 = some (.bipush (48), 2, none) := by decide +kernel
theorem k_27_52 : zD 27 52 = some (.isub, 1, none) := by decide +kernel
theorem k_27_53 : zD 27 53 = some (.istore_n 1, 1, none) := by decide +kernel
theorem k_27_54 : zD 27 54 = some (.iinc 2 (1), 3, none) := by decide +kernel
theorem k_27_57 : zD 27 57 = some (.goto (-50), 3, none) ∧ zTg 57 (-50) = some 7 := by decide +kernel
theorem k_27_60 : zD 27 60 = some (.iload_n 1, 1, some [false, true, false]) := by decide +kernel
theorem k_27_61 : zD 27 61 = some (.ireturn, 1, none) := by decide +kernel
theorem kd_27_7 : zD 27 7 = some (.iload_n 2, 1, some [true, true, true]) := k_27_7
theorem kd_27_60 : zD 27 60 = some (.iload_n 1, 1, some [false, true, false]) := k_27_60
theorem ml_28 : zML 28 = 1 := by decide +kernel
theorem rt_28 : zRt 28 = none := by decide +kernel
theorem k_28_0 : zD 28 0 = some (.aload_n 0, 1, none) := by decide +kernel
theorem k_28_1 : zD 28 1 = some (.ldc 49, 2, none) ∧ zKc (zOn 28) 49 = none ∧ zTc (zOn 28) 49 = some 0 := by decide +kernel
theorem k_28_3 : zD 28 3 = some (.invokevirtual 51, 3, none) ∧ zCk (zOn 28) 51 = some (0, 29) ∧ zNp 29 = 1 ∧ zML 29 = 3 ∧ zCo[3]? = some (zOn 29) ∧ (zRt 29 = some .int ∨ zRt 29 = some .boolean ∨ zRt 29 = some .char ∨ zRt 29 = some .byte) := by decide +kernel
theorem k_28_6 : zD 28 6 = some (.ifCond .eq (10), 3, none) ∧ zTg 6 (10) = some 16 := by decide +kernel
theorem k_28_16 : zD 28 16 = some (.aload_n 0, 1, none) := by decide +kernel
theorem k_28_17 : zD 28 17 = some (.ldc 58, 2, none) ∧ zKc (zOn 28) 58 = none ∧ zTc (zOn 28) 58 = some 1 := by decide +kernel
theorem k_28_19 : zD 28 19 = some (.invokevirtual 51, 3, none) ∧ zCk (zOn 28) 51 = some (0, 29) ∧ zNp 29 = 1 ∧ zML 29 = 3 ∧ zCo[3]? = some (zOn 29) ∧ (zRt 29 = some .int ∨ zRt 29 = some .boolean ∨ zRt 29 = some .char ∨ zRt 29 = some .byte) := by decide +kernel
theorem k_28_22 : zD 28 22 = some (.ifCond .eq (10), 3, none) ∧ zTg 22 (10) = some 32 := by decide +kernel
theorem k_28_32 : zD 28 32 = some (.aload_n 0, 1, none) := by decide +kernel
theorem k_28_33 : zD 28 33 = some (.ldc 63, 2, none) ∧ zKc (zOn 28) 63 = none ∧ zTc (zOn 28) 63 = some 3 := by decide +kernel
theorem k_28_35 : zD 28 35 = some (.invokevirtual 51, 3, none) ∧ zCk (zOn 28) 51 = some (0, 29) ∧ zNp 29 = 1 ∧ zML 29 = 3 ∧ zCo[3]? = some (zOn 29) ∧ (zRt 29 = some .int ∨ zRt 29 = some .boolean ∨ zRt 29 = some .char ∨ zRt 29 = some .byte) := by decide +kernel
theorem k_28_38 : zD 28 38 = some (.ifCond .eq (10), 3, none) ∧ zTg 38 (10) = some 48 := by decide +kernel
theorem k_28_48 : zD 28 48 = some (.aload_n 0, 1, none) := by decide +kernel
theorem k_28_49 : zD 28 49 = some (.iconst (1), 1, none) := by decide +kernel
theorem k_28_50 : zD 28 50 = some (.invokevirtual 68, 3, none) ∧ zCk (zOn 28) 68 = some (0, 38) ∧ zNp 38 = 1 ∧ zML 38 = 2 ∧ zCo[3]? = some (zOn 38) ∧ zRt 38 = none := by decide +kernel
theorem k_28_53 : zD 28 53 = some (.return_, 1, some [false]) := by decide +kernel
theorem k_28_41 : zD 28 41 = some (.aload_n 0, 1, none) := by decide +kernel
theorem k_28_42 : zD 28 42 = some (.invokevirtual 65, 3, none) ∧ zCk (zOn 28) 65 = some (0, 46) ∧ zNp 46 = 0 ∧ zML 46 = 2 ∧ zCo[3]? = some (zOn 46) ∧ zRt 46 = none := by decide +kernel
theorem k_28_45 : zD 28 45 = some (.goto (8), 3, none) ∧ zTg 45 (8) = some 53 := by decide +kernel
theorem k_28_25 : zD 28 25 = some (.aload_n 0, 1, none) := by decide +kernel
theorem k_28_26 : zD 28 26 = some (.invokevirtual 60, 3, none) ∧ zCk (zOn 28) 60 = some (0, 43) ∧ zNp 43 = 0 ∧ zML 43 = 3 ∧ zCo[3]? = some (zOn 43) ∧ zRt 43 = none := by decide +kernel
theorem k_28_29 : zD 28 29 = some (.goto (24), 3, none) ∧ zTg 29 (24) = some 53 := by decide +kernel
theorem k_28_9 : zD 28 9 = some (.aload_n 0, 1, none) := by decide +kernel
theorem k_28_10 : zD 28 10 = some (.invokevirtual 55, 3, none) ∧ zCk (zOn 28) 55 = some (0, 37) ∧ zNp 37 = 0 ∧ zML 37 = 2 ∧ zCo[3]? = some (zOn 37) ∧ zRt 37 = none := by decide +kernel
theorem k_28_13 : zD 28 13 = some (.goto (40), 3, none) ∧ zTg 13 (40) = some 53 := by decide +kernel
theorem kd_28_53 : zD 28 53 = some (.return_, 1, some [false]) := k_28_53
theorem ml_29 : zML 29 = 3 := by decide +kernel
theorem rt_29 : zRt 29 = some .boolean := by decide +kernel
theorem k_29_0 : zD 29 0 = some (.aload_n 0, 1, none) := by decide +kernel
theorem k_29_1 : zD 29 1 = some (.getfield 43, 3, none) ∧ zFl (zOn 29) 43 = some (3, 3) ∧ zFc 3 3 = some 0 := by decide +kernel
theorem k_29_4 : zD 29 4 = some (.iconst (1), 1, none) := by decide +kernel
theorem k_29_5 : zD 29 5 = some (.if_icmp .ne (19), 3, none) ∧ zTg 5 (19) = some 24 := by decide +kernel
theorem k_29_8 : zD 29 8 = some (.aload_n 0, 1, none) := by decide +kernel
theorem k_29_9 : zD 29 9 = some (.getfield 35, 3, none) ∧ zFl (zOn 29) 35 = some (3, 5) ∧ zFc 3 5 = some 0 := by decide +kernel
theorem k_29_12 : zD 29 12 = some (.aload_n 0, 1, none) := by decide +kernel
theorem k_29_13 : zD 29 13 = some (.getfield 103, 3, none) ∧ zFl (zOn 29) 103 = some (3, 4) ∧ zFc 3 4 = some 0 := by decide +kernel
theorem k_29_16 : zD 29 16 = some (.isub, 1, none) := by decide +kernel
theorem k_29_17 : zD 29 17 = some (.aload_n 1, 1, none) := by decide +kernel
theorem k_29_18 : zD 29 18 = some (.invokevirtual 137, 3, none) ∧ zCk (zOn 29) 137 = some (0, 30) ∧ zNp 30 = 0 ∧ zML 30 = 1 ∧ zO (zOn 30) = "java/lang/String" ∧ (zRt 30 = some .int ∨ zRt 30 = some .boolean ∨ zRt 30 = some .char ∨ zRt 30 = some .byte) := by decide +kernel
theorem k_29_21 : zD 29 21 = some (.if_icmp .eq (5), 3, none) ∧ zTg 21 (5) = some 26 := by decide +kernel
theorem k_29_26 : zD 29 26 = some (.iconst (0), 1, none) := by decide +kernel
theorem k_29_27 : zD 29 27 = some (.istore_n 2, 1, none) := by decide +kernel
theorem k_29_24 : zD 29 24 = some (.iconst (0), 1, some [false, false, false]) := by decide +kernel
theorem k_29_25 : zD 29 25 = some (.ireturn, 1, none) := by decide +kernel
theorem k_29_28 : zD 29 28 = some (.iload_n 2, 1, some [true, true, true]) := by decide +kernel
theorem k_29_29 : zD 29 29 = some (.aload_n 1, 1, none) := by decide +kernel
theorem k_29_30 : zD 29 30 = some (.invokevirtual 137, 3, none) ∧ zCk (zOn 29) 137 = some (0, 30) ∧ zNp 30 = 0 ∧ zML 30 = 1 ∧ zO (zOn 30) = "java/lang/String" ∧ (zRt 30 = some .int ∨ zRt 30 = some .boolean ∨ zRt 30 = some .char ∨ zRt 30 = some .byte) := by decide +kernel
theorem k_29_33 : zD 29 33 = some (.if_icmp .ge (29), 3, none) ∧ zTg 33 (29) = some 62 := by decide +kernel
theorem k_29_36 : zD 29 36 = some (.aload_n 0, 1, none) := by decide +kernel
theorem k_29_37 : zD 29 37 = some (.aload_n 0, 1, none) := by decide +kernel
theorem k_29_38 : zD 29 38 = some (.getfield 103, 3, none) ∧ zFl (zOn 29) 103 = some (3, 4) ∧ zFc 3 4 = some 0 := by decide +kernel
theorem k_29_41 : zD 29 41 = some (.iload_n 2, 1, none) := by decide +kernel
theorem k_29_42 : zD 29 42 = some (.iadd, 1, none) := by decide +kernel
theorem k_29_43 : zD 29 43 = some (.invokevirtual 123, 3, none) ∧ zCk (zOn 29) 123 = some (0, 25) ∧ zNp 25 = 1 ∧ zML 25 = 2 ∧ zCo[3]? = some (zOn 25) ∧ (zRt 25 = some .int ∨ zRt 25 = some .boolean ∨ zRt 25 = some .char ∨ zRt 25 = some .byte) := by decide +kernel
theorem k_29_46 : zD 29 46 = some (.aload_n 1, 1, none) := by decide +kernel
theorem k_29_47 : zD 29 47 = some (.iload_n 2, 1, none) := by decide +kernel
theorem k_29_48 : zD 29 48 = some (.invokevirtual 141, 3, none) ∧ zCk (zOn 29) 141 = some (0, 32) ∧ zNp 32 = 1 ∧ zML 32 = 2 ∧ zO (zOn 32) = "java/lang/String" ∧ (zRt 32 = some .int ∨ zRt 32 = some .boolean ∨ zRt 32 = some .char ∨ zRt 32 = some .byte) := by decide +kernel
theorem k_29_51 : zD 29 51 = some (.if_icmp .eq (5), 3, none) ∧ zTg 51 (5) = some 56 := by decide +kernel
theorem k_29_56 : zD 29 56 = some (.iinc 2 (1), 3, none) := by decide +kernel
theorem k_29_59 : zD 29 59 = some (.goto (-31), 3, none) ∧ zTg 59 (-31) = some 28 := by decide +kernel
theorem k_29_54 : zD 29 54 = some (.iconst (0), 1, none) := by decide +kernel
theorem k_29_55 : zD 29 55 = some (.ireturn, 1, none) := by decide +kernel
theorem k_29_62 : zD 29 62 = some (.iconst (1), 1, none) := by decide +kernel
theorem k_29_63 : zD 29 63 = some (.ireturn, 1, none) := by decide +kernel
theorem kd_29_24 : zD 29 24 = some (.iconst (0), 1, some [false, false, false]) := k_29_24
theorem kd_29_28 : zD 29 28 = some (.iload_n 2, 1, some [true, true, true]) := k_29_28
theorem ml_37 : zML 37 = 2 := by decide +kernel
theorem rt_37 : zRt 37 = none := by decide +kernel
theorem k_37_0 : zD 37 0 = some (.aload_n 0, 1, none) := by decide +kernel
theorem k_37_1 : zD 37 1 = some (.getfield 24, 3, none) ∧ zFl (zOn 37) 24 = some (3, 2) ∧ zFc 3 2 = some 1 := by decide +kernel
theorem k_37_4 : zD 37 4 = some (.ifCond .eq (9), 3, none) ∧ zTg 4 (9) = some 13 := by decide +kernel
theorem k_37_13 : zD 37 13 = some (.aload_n 0, 1, none) := by decide +kernel
theorem k_37_14 : zD 37 14 = some (.iconst (1), 1, none) := by decide +kernel
theorem k_37_15 : zD 37 15 = some (.putfield 24, 3, none) ∧ zFl (zOn 37) 24 = some (3, 2) ∧ zFc 3 2 = some 1 := by decide +kernel
theorem k_37_18 : zD 37 18 = some (.aload_n 0, 1, none) := by decide +kernel
theorem k_37_19 : zD 37 19 = some (.invokevirtual 38, 3, none) ∧ zCk (zOn 37) 38 = some (0, 24) ∧ zNp 24 = 0 ∧ zML 24 = 1 ∧ zCo[3]? = some (zOn 24) ∧ zRt 24 = none := by decide +kernel
theorem k_37_22 : zD 37 22 = some (.aload_n 0, 1, none) := by decide +kernel
theorem k_37_23 : zD 37 23 = some (.iconst (2), 1, none) := by decide +kernel
theorem k_37_24 : zD 37 24 = some (.bipush (99), 2, none) := by decide +kernel
theorem k_37_26 : zD 37 26 = some (.invokevirtual 72, 3, none) ∧ zCk (zOn 37) 72 = some (0, 40) ∧ zNp 40 = 2 ∧ zML 40 = 4 ∧ zCo[3]? = some (zOn 40) ∧ (zRt 40 = some .int ∨ zRt 40 = some .boolean ∨ zRt 40 = some .char ∨ zRt 40 = some .byte) := by decide +kernel
theorem k_37_29 : zD 37 29 = some (.istore_n 1, 1, none) := by decide +kernel
theorem k_37_30 : zD 37 30 = some (.aload_n 0, 1, none) := by decide +kernel
theorem k_37_31 : zD 37 31 = some (.invokevirtual 76, 3, none) ∧ zCk (zOn 37) 76 = some (0, 41) ∧ zNp 41 = 0 ∧ zML 41 = 1 ∧ zCo[3]? = some (zOn 41) ∧ zRt 41 = none := by decide +kernel
theorem k_37_34 : zD 37 34 = some (.aload_n 0, 1, none) := by decide +kernel
theorem k_37_35 : zD 37 35 = some (.getfield 28, 3, none) ∧ zFl (zOn 37) 28 = some (3, 7) ∧ zFc 3 7 = some 0 := by decide +kernel
theorem k_37_38 : zD 37 38 = some (.ifCond .ne (11), 3, none) ∧ zTg 38 (11) = some 49 := by decide +kernel
theorem k_37_41 : zD 37 41 = some (.aload_n 0, 1, none) := by decide +kernel
theorem k_37_42 : zD 37 42 = some (.getfield 15, 3, none) ∧ zFl (zOn 37) 15 = some (3, 1) ∧ zFc 3 1 = some 4 := by decide +kernel
theorem k_37_45 : zD 37 45 = some (.iload_n 1, 1, none) := by decide +kernel
theorem k_37_46 : zD 37 46 = some (.putfield 79, 3, none) ∧ zFl (zOn 37) 79 = some (6, 2) ∧ zFc 6 2 = some 0 := by decide +kernel
theorem k_37_49 : zD 37 49 = some (.return_, 1, some [false, false]) := by decide +kernel
theorem k_37_7 : zD 37 7 = some (.aload_n 0, 1, none) := by decide +kernel
theorem k_37_8 : zD 37 8 = some (.iconst (3), 1, none) := by decide +kernel
theorem k_37_9 : zD 37 9 = some (.invokevirtual 68, 3, none) ∧ zCk (zOn 37) 68 = some (0, 38) ∧ zNp 38 = 1 ∧ zML 38 = 2 ∧ zCo[3]? = some (zOn 38) ∧ zRt 38 = none := by decide +kernel
theorem k_37_12 : zD 37 12 = some (.return_, 1, none) := by decide +kernel
theorem kd_37_49 : zD 37 49 = some (.return_, 1, some [false, false]) := k_37_49
theorem ml_38 : zML 38 = 2 := by decide +kernel
theorem rt_38 : zRt 38 = none := by decide +kernel
theorem k_38_0 : zD 38 0 = some (.aload_n 0, 1, none) := by decide +kernel
theorem k_38_1 : zD 38 1 = some (.iload_n 1, 1, none) := by decide +kernel
theorem k_38_2 : zD 38 2 = some (.aload_n 0, 1, none) := by decide +kernel
theorem k_38_3 : zD 38 3 = some (.getfield 103, 3, none) ∧ zFl (zOn 38) 103 = some (3, 4) ∧ zFc 3 4 = some 0 := by decide +kernel
theorem k_38_6 : zD 38 6 = some (.invokevirtual 110, 3, none) ∧ zCk (zOn 38) 110 = some (0, 39) ∧ zNp 39 = 2 ∧ zML 39 = 3 ∧ zCo[3]? = some (zOn 39) ∧ zRt 39 = none := by decide +kernel
theorem k_38_9 : zD 38 9 = some (.return_, 1, none) := by decide +kernel
theorem ml_39 : zML 39 = 3 := by decide +kernel
theorem rt_39 : zRt 39 = none := by decide +kernel
theorem k_39_0 : zD 39 0 = some (.aload_n 0, 1, none) := by decide +kernel
theorem k_39_1 : zD 39 1 = some (.getfield 28, 3, none) ∧ zFl (zOn 39) 28 = some (3, 7) ∧ zFc 3 7 = some 0 := by decide +kernel
theorem k_39_4 : zD 39 4 = some (.ifCond .ne (13), 3, none) ∧ zTg 4 (13) = some 17 := by decide +kernel
theorem k_39_7 : zD 39 7 = some (.aload_n 0, 1, none) := by decide +kernel
theorem k_39_8 : zD 39 8 = some (.iload_n 1, 1, none) := by decide +kernel
theorem k_39_9 : zD 39 9 = some (.putfield 28, 3, none) ∧ zFl (zOn 39) 28 = some (3, 7) ∧ zFc 3 7 = some 0 := by decide +kernel
theorem k_39_12 : zD 39 12 = some (.aload_n 0, 1, none) := by decide +kernel
theorem k_39_13 : zD 39 13 = some (.iload_n 2, 1, none) := by decide +kernel
theorem k_39_14 : zD 39 14 = some (.putfield 32, 3, none) ∧ zFl (zOn 39) 32 = some (3, 8) ∧ zFc 3 8 = some 0 := by decide +kernel
theorem k_39_17 : zD 39 17 = some (.return_, 1, some [false, false, false]) := by decide +kernel
theorem kd_39_17 : zD 39 17 = some (.return_, 1, some [false, false, false]) := k_39_17
theorem ml_40 : zML 40 = 4 := by decide +kernel
theorem rt_40 : zRt 40 = some .int := by decide +kernel
theorem k_40_0 : zD 40 0 = some (.aload_n 0, 1, none) := by decide +kernel
theorem k_40_1 : zD 40 1 = some (.getfield 117, 3, none) ∧ zFl (zOn 40) 117 = some (3, 6) ∧ zFc 3 6 = some 0 := by decide +kernel
theorem k_40_4 : zD 40 4 = some (.istore_n 3, 1, none) := by decide +kernel
theorem k_40_5 : zD 40 5 = some (.aload_n 0, 1, none) := by decide +kernel
theorem k_40_6 : zD 40 6 = some (.getfield 43, 3, none) ∧ zFl (zOn 40) 43 = some (3, 3) ∧ zFc 3 3 = some 0 := by decide +kernel
theorem k_40_9 : zD 40 9 = some (.iconst (2), 1, none) := by decide +kernel
theorem k_40_10 : zD 40 10 = some (.if_icmp .eq (11), 3, none) ∧ zTg 10 (11) = some 21 := by decide +kernel
theorem k_40_21 : zD 40 21 = some (.aload_n 0, 1, none) := by decide +kernel
theorem k_40_22 : zD 40 22 = some (.getfield 35, 3, none) ∧ zFl (zOn 40) 35 = some (3, 5) ∧ zFc 3 5 = some 0 := by decide +kernel
theorem k_40_25 : zD 40 25 = some (.aload_n 0, 1, none) := by decide +kernel
theorem k_40_26 : zD 40 26 = some (.getfield 103, 3, none) ∧ zFl (zOn 40) 103 = some (3, 4) ∧ zFc 3 4 = some 0 := by decide +kernel
theorem k_40_29 : zD 40 29 = some (.isub, 1, none) := by decide +kernel
theorem k_40_30 : zD 40 30 = some (.iconst (3), 1, none) := by decide +kernel
theorem k_40_31 : zD 40 31 = some (.if_icmp .gt (13), 3, none) ∧ zTg 31 (13) = some 44 := by decide +kernel
theorem k_40_34 : zD 40 34 = some (.iload_n 3, 1, none) := by decide +kernel
theorem k_40_35 : zD 40 35 = some (.iload_n 1, 1, none) := by decide +kernel
theorem k_40_36 : zD 40 36 = some (.if_icmp .lt (8), 3, none) ∧ zTg 36 (8) = some 44 := by decide +kernel
theorem k_40_39 : zD 40 39 = some (.iload_n 3, 1, none) := by decide +kernel
theorem k_40_40 : zD 40 40 = some (.iload_n 2, 1, none) := by decide +kernel
theorem k_40_41 : zD 40 41 = some (.if_icmp .le (8), 3, none) ∧ zTg 41 (8) = some 49 := by decide +kernel
theorem k_40_49 : zD 40 49 = some (.aload_n 0, 1, some [true, false, false, true]) := by decide +kernel
theorem k_40_50 : zD 40 50 = some (.invokevirtual 38, 3, none) ∧ zCk (zOn 40) 38 = some (0, 24) ∧ zNp 24 = 0 ∧ zML 24 = 1 ∧ zCo[3]? = some (zOn 24) ∧ zRt 24 = none := by decide +kernel
theorem k_40_53 : zD 40 53 = some (.iload_n 3, 1, none) := by decide +kernel
theorem k_40_54 : zD 40 54 = some (.ireturn, 1, none) := by decide +kernel
theorem k_40_13 : zD 40 13 = some (.aload_n 0, 1, none) := by decide +kernel
theorem k_40_14 : zD 40 14 = some (.iconst (1), 1, none) := by decide +kernel
theorem k_40_15 : zD 40 15 = some (.invokevirtual 68, 3, none) ∧ zCk (zOn 40) 68 = some (0, 38) ∧ zNp 38 = 1 ∧ zML 38 = 2 ∧ zCo[3]? = some (zOn 38) ∧ zRt 38 = none := by decide +kernel
theorem k_40_18 : zD 40 18 = some (.goto (31), 3, none) ∧ zTg 18 (31) = some 49 := by decide +kernel
theorem k_40_44 : zD 40 44 = some (.aload_n 0, 1, some [true, false, false, true]) := by decide +kernel
theorem k_40_45 : zD 40 45 = some (.iconst (2), 1, none) := by decide +kernel
theorem k_40_46 : zD 40 46 = some (.invokevirtual 68, 3, none) ∧ zCk (zOn 40) 68 = some (0, 38) ∧ zNp 38 = 1 ∧ zML 38 = 2 ∧ zCo[3]? = some (zOn 38) ∧ zRt 38 = none := by decide +kernel
theorem kd_40_44 : zD 40 44 = some (.aload_n 0, 1, some [true, false, false, true]) := k_40_44
theorem kd_40_49 : zD 40 49 = some (.aload_n 0, 1, some [true, false, false, true]) := k_40_49
theorem ml_41 : zML 41 = 1 := by decide +kernel
theorem rt_41 : zRt 41 = none := by decide +kernel
theorem k_41_0 : zD 41 0 = some (.aload_n 0, 1, none) := by decide +kernel
theorem k_41_1 : zD 41 1 = some (.bipush (59), 2, none) := by decide +kernel
theorem k_41_3 : zD 41 3 = some (.invokevirtual 113, 3, none) ∧ zCk (zOn 41) 113 = some (0, 42) ∧ zNp 42 = 1 ∧ zML 42 = 2 ∧ zCo[3]? = some (zOn 42) ∧ (zRt 42 = some .int ∨ zRt 42 = some .boolean ∨ zRt 42 = some .char ∨ zRt 42 = some .byte) := by decide +kernel
theorem k_41_6 : zD 41 6 = some (.ifCond .ne (8), 3, none) ∧ zTg 6 (8) = some 14 := by decide +kernel
theorem k_41_9 : zD 41 9 = some (.aload_n 0, 1, none) := by decide +kernel
theorem k_41_10 : zD 41 10 = some (.iconst (1), 1, none) := by decide +kernel
theorem k_41_11 : zD 41 11 = some (.invokevirtual 68, 3, none) ∧ zCk (zOn 41) 68 = some (0, 38) ∧ zNp 38 = 1 ∧ zML 38 = 2 ∧ zCo[3]? = some (zOn 38) ∧ zRt 38 = none := by decide +kernel
theorem k_41_14 : zD 41 14 = some (.aload_n 0, 1, some [true]) := by decide +kernel
theorem k_41_15 : zD 41 15 = some (.invokevirtual 38, 3, none) ∧ zCk (zOn 41) 38 = some (0, 24) ∧ zNp 24 = 0 ∧ zML 24 = 1 ∧ zCo[3]? = some (zOn 24) ∧ zRt 24 = none := by decide +kernel
theorem k_41_18 : zD 41 18 = some (.return_, 1, none) := by decide +kernel
theorem ml_42 : zML 42 = 2 := by decide +kernel
theorem rt_42 : zRt 42 = some .boolean := by decide +kernel
theorem k_42_0 : zD 42 0 = some (.aload_n 0, 1, none) := by decide +kernel
theorem k_42_1 : zD 42 1 = some (.getfield 43, 3, none) ∧ zFl (zOn 42) 43 = some (3, 3) ∧ zFc 3 3 = some 0 := by decide +kernel
theorem k_42_4 : zD 42 4 = some (.iconst (3), 1, none) := by decide +kernel
theorem k_42_5 : zD 42 5 = some (.if_icmp .ne (19), 3, none) ∧ zTg 5 (19) = some 24 := by decide +kernel
theorem k_42_8 : zD 42 8 = some (.aload_n 0, 1, none) := by decide +kernel
theorem k_42_9 : zD 42 9 = some (.aload_n 0, 1, none) := by decide +kernel
theorem k_42_10 : zD 42 10 = some (.getfield 103, 3, none) ∧ zFl (zOn 42) 103 = some (3, 4) ∧ zFc 3 4 = some 0 := by decide +kernel
theorem k_42_13 : zD 42 13 = some (.invokevirtual 123, 3, none) ∧ zCk (zOn 42) 123 = some (0, 25) ∧ zNp 25 = 1 ∧ zML 25 = 2 ∧ zCo[3]? = some (zOn 25) ∧ (zRt 25 = some .int ∨ zRt 25 = some .boolean ∨ zRt 25 = some .char ∨ zRt 25 = some .byte) := by decide +kernel
theorem k_42_16 : zD 42 16 = some (.iload_n 1, 1, none) := by decide +kernel
theorem k_42_17 : zD 42 17 = some (.if_icmp .ne (7), 3, none) ∧ zTg 17 (7) = some 24 := by decide +kernel
theorem k_42_20 : zD 42 20 = some (.iconst (1), 1, none) := by decide +kernel
theorem k_42_21 : zD 42 21 = some (.goto (4), 3, none) ∧ zTg 21 (4) = some 25 := by decide +kernel
theorem k_42_25 : zD 42 25 = some (.ireturn, 1, some [false, false]) := by decide +kernel
theorem k_42_24 : zD 42 24 = some (.iconst (0), 1, some [false, false]) := by decide +kernel
theorem kd_42_24 : zD 42 24 = some (.iconst (0), 1, some [false, false]) := k_42_24
theorem kd_42_25 : zD 42 25 = some (.ireturn, 1, some [false, false]) := k_42_25
theorem ml_43 : zML 43 = 3 := by decide +kernel
theorem rt_43 : zRt 43 = none := by decide +kernel
theorem k_43_0 : zD 43 0 = some (.aload_n 0, 1, none) := by decide +kernel
theorem k_43_1 : zD 43 1 = some (.getfield 15, 3, none) ∧ zFl (zOn 43) 15 = some (3, 1) ∧ zFc 3 1 = some 4 := by decide +kernel
theorem k_43_4 : zD 43 4 = some (.getfield 82, 3, none) ∧ zFl (zOn 43) 82 = some (6, 1) ∧ zFc 6 1 = some 0 := by decide +kernel
theorem k_43_7 : zD 43 7 = some (.ifCond .le (11), 3, none) ∧ zTg 7 (11) = some 18 := by decide +kernel
theorem k_43_10 : zD 43 10 = some (.aload_n 0, 1, none) := by decide +kernel
theorem k_43_11 : zD 43 11 = some (.iconst (1), 1, none) := by decide +kernel
theorem k_43_12 : zD 43 12 = some (.invokevirtual 68, 3, none) ∧ zCk (zOn 43) 68 = some (0, 38) ∧ zNp 38 = 1 ∧ zML 38 = 2 ∧ zCo[3]? = some (zOn 38) ∧ zRt 38 = none := by decide +kernel
theorem k_43_15 : zD 43 15 = some (.goto (20), 3, none) ∧ zTg 15 (20) = some 35 := by decide +kernel
theorem k_43_18 : zD 43 18 = some (.aload_n 0, 1, none) := by decide +kernel
theorem k_43_19 : zD 43 19 = some (.getfield 15, 3, none) ∧ zFl (zOn 43) 15 = some (3, 1) ∧ zFc 3 1 = some 4 := by decide +kernel
theorem k_43_22 : zD 43 22 = some (.getfield 85, 3, none) ∧ zFl (zOn 43) 85 = some (6, 0) ∧ zFc 6 0 = some 0 := by decide +kernel
theorem k_43_25 : zD 43 25 = some (.bipush (6), 2, none) := by decide +kernel
theorem k_43_27 : zD 43 27 = some (.if_icmp .ne (8), 3, none) ∧ zTg 27 (8) = some 35 := by decide +kernel
theorem k_43_30 : zD 43 30 = some (.aload_n 0, 1, none) := by decide +kernel
theorem k_43_31 : zD 43 31 = some (.iconst (3), 1, none) := by decide +kernel
theorem k_43_32 : zD 43 32 = some (.invokevirtual 68, 3, none) ∧ zCk (zOn 43) 68 = some (0, 38) ∧ zNp 38 = 1 ∧ zML 38 = 2 ∧ zCo[3]? = some (zOn 38) ∧ zRt 38 = none := by decide +kernel
theorem k_43_35 : zD 43 35 = some (.aload_n 0, 1, some [true, false, false]) := by decide +kernel
theorem k_43_36 : zD 43 36 = some (.invokevirtual 38, 3, none) ∧ zCk (zOn 43) 38 = some (0, 24) ∧ zNp 24 = 0 ∧ zML 24 = 1 ∧ zCo[3]? = some (zOn 24) ∧ zRt 24 = none := by decide +kernel
theorem k_43_39 : zD 43 39 = some (.aload_n 0, 1, none) := by decide +kernel
theorem k_43_40 : zD 43 40 = some (.iconst (1), 1, none) := by decide +kernel
theorem k_43_41 : zD 43 41 = some (.bipush (99), 2, none) := by decide +kernel
theorem k_43_43 : zD 43 43 = some (.invokevirtual 72, 3, none) ∧ zCk (zOn 43) 72 = some (0, 40) ∧ zNp 40 = 2 ∧ zML 40 = 4 ∧ zCo[3]? = some (zOn 40) ∧ (zRt 40 = some .int ∨ zRt 40 = some .boolean ∨ zRt 40 = some .char ∨ zRt 40 = some .byte) := by decide +kernel
theorem k_43_46 : zD 43 46 = some (.istore_n 1, 1, none) := by decide +kernel
theorem k_43_47 : zD 43 47 = some (.aload_n 0, 1, none) := by decide +kernel
theorem k_43_48 : zD 43 48 = some (.ldc 88, 2, none) ∧ zKc (zOn 43) 88 = none ∧ zTc (zOn 43) 88 = some 2 := by decide +kernel
theorem k_43_50 : zD 43 50 = some (.invokevirtual 51, 3, none) ∧ zCk (zOn 43) 51 = some (0, 29) ∧ zNp 29 = 1 ∧ zML 29 = 3 ∧ zCo[3]? = some (zOn 29) ∧ (zRt 29 = some .int ∨ zRt 29 = some .boolean ∨ zRt 29 = some .char ∨ zRt 29 = some .byte) := by decide +kernel
theorem k_43_53 : zD 43 53 = some (.ifCond .eq (10), 3, none) ∧ zTg 53 (10) = some 63 := by decide +kernel
theorem k_43_63 : zD 43 63 = some (.iconst (0), 1, none) := by decide +kernel
theorem k_43_56 : zD 43 56 = some (.aload_n 0, 1, none) := by decide +kernel
theorem k_43_57 : zD 43 57 = some (.invokevirtual 90, 3, none) ∧ zCk (zOn 43) 90 = some (0, 44) ∧ zNp 44 = 0 ∧ zML 44 = 6 ∧ zCo[3]? = some (zOn 44) ∧ (zRt 44 = some .int ∨ zRt 44 = some .boolean ∨ zRt 44 = some .char ∨ zRt 44 = some .byte) := by decide +kernel
theorem k_43_60 : zD 43 60 = some (.goto (4), 3, none) ∧ zTg 60 (4) = some 64 := by decide +kernel
theorem k_43_64 : zD 43 64 = some (.istore_n 2, 1, some [true, true, false]) := by decide +kernel
theorem k_43_65 : zD 43 65 = some (.aload_n 0, 1, none) := by decide +kernel
theorem k_43_66 : zD 43 66 = some (.invokevirtual 76, 3, none) ∧ zCk (zOn 43) 76 = some (0, 41) ∧ zNp 41 = 0 ∧ zML 41 = 1 ∧ zCo[3]? = some (zOn 41) ∧ zRt 41 = none := by decide +kernel
theorem k_43_69 : zD 43 69 = some (.aload_n 0, 1, none) := by decide +kernel
theorem k_43_70 : zD 43 70 = some (.getfield 28, 3, none) ∧ zFl (zOn 43) 28 = some (3, 7) ∧ zFc 3 7 = some 0 := by decide +kernel
theorem k_43_73 : zD 43 73 = some (.ifCond .ne (12), 3, none) ∧ zTg 73 (12) = some 85 := by decide +kernel
theorem k_43_76 : zD 43 76 = some (.aload_n 0, 1, none) := by decide +kernel
theorem k_43_77 : zD 43 77 = some (.getfield 15, 3, none) ∧ zFl (zOn 43) 15 = some (3, 1) ∧ zFc 3 1 = some 4 := by decide +kernel
theorem k_43_80 : zD 43 80 = some (.iload_n 1, 1, none) := by decide +kernel
theorem k_43_81 : zD 43 81 = some (.iload_n 2, 1, none) := by decide +kernel
theorem k_43_82 : zD 43 82 = some (.invokevirtual 94, 3, none) ∧ zCk (zOn 43) 94 = some (0, 45) ∧ zNp 45 = 2 ∧ zML 45 = 3 ∧ zCo[6]? = some (zOn 45) ∧ zRt 45 = none := by decide +kernel
theorem k_43_85 : zD 43 85 = some (.return_, 1, some [false, false, false]) := by decide +kernel
theorem kd_43_35 : zD 43 35 = some (.aload_n 0, 1, some [true, false, false]) := k_43_35
theorem kd_43_64 : zD 43 64 = some (.istore_n 2, 1, some [true, true, false]) := k_43_64
theorem kd_43_85 : zD 43 85 = some (.return_, 1, some [false, false, false]) := k_43_85
theorem ml_44 : zML 44 = 6 := by decide +kernel
theorem rt_44 : zRt 44 = some .int := by decide +kernel
theorem k_44_0 : zD 44 0 = some (.iconst (0), 1, none) := by decide +kernel
theorem k_44_1 : zD 44 1 = some (.istore_n 1, 1, none) := by decide +kernel
theorem k_44_2 : zD 44 2 = some (.iconst (1), 1, none) := by decide +kernel
theorem k_44_3 : zD 44 3 = some (.istore_n 2, 1, none) := by decide +kernel
theorem k_44_4 : zD 44 4 = some (.iconst (0), 1, none) := by decide +kernel
theorem k_44_5 : zD 44 5 = some (.istore_n 3, 1, none) := by decide +kernel
theorem k_44_6 : zD 44 6 = some (.iload_n 2, 1, some [true, true, true, true, false, false]) := by decide +kernel
theorem k_44_7 : zD 44 7 = some (.ifCond .eq (104), 3, none) ∧ zTg 7 (104) = some 111 := by decide +kernel
theorem k_44_111 : zD 44 111 = some (.iload_n 1, 1, some [false, true, false, false, false, false]) := by decide +kernel
theorem k_44_112 : zD 44 112 = some (.ireturn, 1, none) := by decide +kernel
theorem k_44_10 : zD 44 10 = some (.iload_n 3, 1, none) := by decide +kernel
theorem k_44_11 : zD 44 11 = some (.bipush (6), 2, none) := by decide +kernel
theorem k_44_13 : zD 44 13 = some (.if_icmp .gt (98), 3, none) ∧ zTg 13 (98) = some 111 := by decide +kernel
theorem k_44_16 : zD 44 16 = some (.aload_n 0, 1, none) := by decide +kernel
theorem k_44_17 : zD 44 17 = some (.invokevirtual 38, 3, none) ∧ zCk (zOn 44) 38 = some (0, 24) ∧ zNp 24 = 0 ∧ zML 24 = 1 ∧ zCo[3]? = some (zOn 24) ∧ zRt 24 = none := by decide +kernel
theorem k_44_20 : zD 44 20 = some (.aload_n 0, 1, none) := by decide +kernel
theorem k_44_21 : zD 44 21 = some (.getfield 103, 3, none) ∧ zFl (zOn 44) 103 = some (3, 4) ∧ zFc 3 4 = some 0 := by decide +kernel
theorem k_44_24 : zD 44 24 = some (.istore 4, 2, none) := by decide +kernel
theorem k_44_26 : zD 44 26 = some (.aload_n 0, 1, none) := by decide +kernel
theorem k_44_27 : zD 44 27 = some (.iconst (0), 1, none) := by decide +kernel
theorem k_44_28 : zD 44 28 = some (.aload_n 0, 1, none) := by decide +kernel
theorem k_44_29 : zD 44 29 = some (.getfield 15, 3, none) ∧ zFl (zOn 44) 15 = some (3, 1) ∧ zFc 3 1 = some 4 := by decide +kernel
theorem k_44_32 : zD 44 32 = some (.getfield 85, 3, none) ∧ zFl (zOn 44) 85 = some (6, 0) ∧ zFc 6 0 = some 0 := by decide +kernel
theorem k_44_35 : zD 44 35 = some (.iconst (1), 1, none) := by decide +kernel
theorem k_44_36 : zD 44 36 = some (.isub, 1, none) := by decide +kernel
theorem k_44_37 : zD 44 37 = some (.invokevirtual 72, 3, none) ∧ zCk (zOn 44) 72 = some (0, 40) ∧ zNp 40 = 2 ∧ zML 40 = 4 ∧ zCo[3]? = some (zOn 40) ∧ (zRt 40 = some .int ∨ zRt 40 = some .boolean ∨ zRt 40 = some .char ∨ zRt 40 = some .byte) := by decide +kernel
theorem k_44_40 : zD 44 40 = some (.istore 5, 2, none) := by decide +kernel
theorem k_44_42 : zD 44 42 = some (.aload_n 0, 1, none) := by decide +kernel
theorem k_44_43 : zD 44 43 = some (.getfield 28, 3, none) ∧ zFl (zOn 44) 28 = some (3, 7) ∧ zFc 3 7 = some 0 := by decide +kernel
theorem k_44_46 : zD 44 46 = some (.ifCond .ne (19), 3, none) ∧ zTg 46 (19) = some 65 := by decide +kernel
theorem k_44_49 : zD 44 49 = some (.iload_n 1, 1, none) := by decide +kernel
theorem k_44_50 : zD 44 50 = some (.iload 5, 2, none) := by decide +kernel
theorem k_44_52 : zD 44 52 = some (.invokestatic 106, 3, none) ∧ zAt.lookup (zOn 44, 106) = none ∧ zCk (zOn 44) 106 = some (3, 11) ∧ (3 = 1 ∨ 3 = 3) ∧ zNp 11 = 2 ∧ zML 11 = 2 ∧ (zRt 11 = some .int ∨ zRt 11 = some .boolean ∨ zRt 11 = some .char ∨ zRt 11 = some .byte) := by decide +kernel
theorem k_44_55 : zD 44 55 = some (.ifCond .eq (10), 3, none) ∧ zTg 55 (10) = some 65 := by decide +kernel
theorem k_44_58 : zD 44 58 = some (.aload_n 0, 1, none) := by decide +kernel
theorem k_44_59 : zD 44 59 = some (.iconst (4), 1, none) := by decide +kernel
theorem k_44_60 : zD 44 60 = some (.iload 4, 2, none) := by decide +kernel
theorem k_44_62 : zD 44 62 = some (.invokevirtual 110, 3, none) ∧ zCk (zOn 44) 110 = some (0, 39) ∧ zNp 39 = 2 ∧ zML 39 = 3 ∧ zCo[3]? = some (zOn 39) ∧ zRt 39 = none := by decide +kernel
theorem k_44_65 : zD 44 65 = some (.aload_n 0, 1, some [true, true, false, true, false, true]) := by decide +kernel
theorem k_44_66 : zD 44 66 = some (.getfield 28, 3, none) ∧ zFl (zOn 44) 28 = some (3, 7) ∧ zFc 3 7 = some 0 := by decide +kernel
theorem k_44_69 : zD 44 69 = some (.ifCond .ne (16), 3, none) ∧ zTg 69 (16) = some 85 := by decide +kernel
theorem k_44_72 : zD 44 72 = some (.aload_n 0, 1, none) := by decide +kernel
theorem k_44_73 : zD 44 73 = some (.bipush (44), 2, none) := by decide +kernel
theorem k_44_75 : zD 44 75 = some (.invokevirtual 113, 3, none) ∧ zCk (zOn 44) 113 = some (0, 42) ∧ zNp 42 = 1 ∧ zML 42 = 2 ∧ zCo[3]? = some (zOn 42) ∧ (zRt 42 = some .int ∨ zRt 42 = some .boolean ∨ zRt 42 = some .char ∨ zRt 42 = some .byte) := by decide +kernel
theorem k_44_78 : zD 44 78 = some (.ifCond .eq (7), 3, none) ∧ zTg 78 (7) = some 85 := by decide +kernel
theorem k_44_81 : zD 44 81 = some (.iconst (1), 1, none) := by decide +kernel
theorem k_44_82 : zD 44 82 = some (.goto (4), 3, none) ∧ zTg 82 (4) = some 86 := by decide +kernel
theorem k_44_85 : zD 44 85 = some (.iconst (0), 1, some [true, true, false, true, false, true]) := by decide +kernel
theorem k_44_86 : zD 44 86 = some (.istore_n 2, 1, some [true, true, false, true, false, true]) := by decide +kernel
theorem k_44_87 : zD 44 87 = some (.iload_n 1, 1, none) := by decide +kernel
theorem k_44_88 : zD 44 88 = some (.aload_n 0, 1, none) := by decide +kernel
theorem k_44_89 : zD 44 89 = some (.getfield 28, 3, none) ∧ zFl (zOn 44) 28 = some (3, 7) ∧ zFc 3 7 = some 0 := by decide +kernel
theorem k_44_92 : zD 44 92 = some (.ifCond .ne (10), 3, none) ∧ zTg 92 (10) = some 102 := by decide +kernel
theorem k_44_95 : zD 44 95 = some (.iconst (1), 1, none) := by decide +kernel
theorem k_44_96 : zD 44 96 = some (.iload 5, 2, none) := by decide +kernel
theorem k_44_98 : zD 44 98 = some (.ishl, 1, none) := by decide +kernel
theorem k_44_99 : zD 44 99 = some (.goto (4), 3, none) ∧ zTg 99 (4) = some 103 := by decide +kernel
theorem k_44_103 : zD 44 103 = some (.ior, 1, some [true, false, true, true, false, false]) := by decide +kernel
theorem k_44_104 : zD 44 104 = some (.istore_n 1, 1, none) := by decide +kernel
theorem k_44_105 : zD 44 105 = some (.iinc 3 (1), 3, none) := by decide +kernel
theorem k_44_108 : zD 44 108 = some (.goto (-102), 3, none) ∧ zTg 108 (-102) = some 6 := by decide +kernel
theorem k_44_102 : zD 44 102 = some (.iconst (0), 1, none) := by decide +kernel
theorem kd_44_6 : zD 44 6 = some (.iload_n 2, 1, some [true, true, true, true, false, false]) := k_44_6
theorem kd_44_65 : zD 44 65 = some (.aload_n 0, 1, some [true, true, false, true, false, true]) := k_44_65
theorem kd_44_85 : zD 44 85 = some (.iconst (0), 1, some [true, true, false, true, false, true]) := k_44_85
theorem kd_44_86 : zD 44 86 = some (.istore_n 2, 1, some [true, true, false, true, false, true]) := k_44_86
theorem kd_44_103 : zD 44 103 = some (.ior, 1, some [true, false, true, true, false, false]) := k_44_103
theorem kd_44_111 : zD 44 111 = some (.iload_n 1, 1, some [false, true, false, false, false, false]) := k_44_111
theorem ml_46 : zML 46 = 2 := by decide +kernel
theorem rt_46 : zRt 46 = none := by decide +kernel
theorem k_46_0 : zD 46 0 = some (.aload_n 0, 1, none) := by decide +kernel
theorem k_46_1 : zD 46 1 = some (.getfield 15, 3, none) ∧ zFl (zOn 46) 15 = some (3, 1) ∧ zFc 3 1 = some 4 := by decide +kernel
theorem k_46_4 : zD 46 4 = some (.getfield 82, 3, none) ∧ zFl (zOn 46) 82 = some (6, 1) ∧ zFc 6 1 = some 0 := by decide +kernel
theorem k_46_7 : zD 46 7 = some (.iconst (5), 1, none) := by decide +kernel
theorem k_46_8 : zD 46 8 = some (.if_icmp .ne (8), 3, none) ∧ zTg 8 (8) = some 16 := by decide +kernel
theorem k_46_11 : zD 46 11 = some (.aload_n 0, 1, none) := by decide +kernel
theorem k_46_12 : zD 46 12 = some (.iconst (3), 1, none) := by decide +kernel
theorem k_46_13 : zD 46 13 = some (.invokevirtual 68, 3, none) ∧ zCk (zOn 46) 68 = some (0, 38) ∧ zNp 38 = 1 ∧ zML 38 = 2 ∧ zCo[3]? = some (zOn 38) ∧ zRt 38 = none := by decide +kernel
theorem k_46_16 : zD 46 16 = some (.aload_n 0, 1, some [true, false]) := by decide +kernel
theorem k_46_17 : zD 46 17 = some (.invokevirtual 38, 3, none) ∧ zCk (zOn 46) 38 = some (0, 24) ∧ zNp 24 = 0 ∧ zML 24 = 1 ∧ zCo[3]? = some (zOn 24) ∧ zRt 24 = none := by decide +kernel
theorem k_46_20 : zD 46 20 = some (.aload_n 0, 1, none) := by decide +kernel
theorem k_46_21 : zD 46 21 = some (.ldc 98, 2, none) ∧ zKc (zOn 46) 98 = none ∧ zTc (zOn 46) 98 = some 4 := by decide +kernel
theorem k_46_23 : zD 46 23 = some (.invokevirtual 51, 3, none) ∧ zCk (zOn 46) 51 = some (0, 29) ∧ zNp 29 = 1 ∧ zML 29 = 3 ∧ zCo[3]? = some (zOn 29) ∧ (zRt 29 = some .int ∨ zRt 29 = some .boolean ∨ zRt 29 = some .char ∨ zRt 29 = some .byte) := by decide +kernel
theorem k_46_26 : zD 46 26 = some (.ifCond .eq (10), 3, none) ∧ zTg 26 (10) = some 36 := by decide +kernel
theorem k_46_36 : zD 46 36 = some (.iconst (0), 1, none) := by decide +kernel
theorem k_46_29 : zD 46 29 = some (.aload_n 0, 1, none) := by decide +kernel
theorem k_46_30 : zD 46 30 = some (.invokevirtual 90, 3, none) ∧ zCk (zOn 46) 90 = some (0, 44) ∧ zNp 44 = 0 ∧ zML 44 = 6 ∧ zCo[3]? = some (zOn 44) ∧ (zRt 44 = some .int ∨ zRt 44 = some .boolean ∨ zRt 44 = some .char ∨ zRt 44 = some .byte) := by decide +kernel
theorem k_46_33 : zD 46 33 = some (.goto (4), 3, none) ∧ zTg 33 (4) = some 37 := by decide +kernel
theorem k_46_37 : zD 46 37 = some (.istore_n 1, 1, some [true, false]) := by decide +kernel
theorem k_46_38 : zD 46 38 = some (.aload_n 0, 1, none) := by decide +kernel
theorem k_46_39 : zD 46 39 = some (.invokevirtual 76, 3, none) ∧ zCk (zOn 46) 76 = some (0, 41) ∧ zNp 41 = 0 ∧ zML 41 = 1 ∧ zCo[3]? = some (zOn 41) ∧ zRt 41 = none := by decide +kernel
theorem k_46_42 : zD 46 42 = some (.aload_n 0, 1, none) := by decide +kernel
theorem k_46_43 : zD 46 43 = some (.getfield 28, 3, none) ∧ zFl (zOn 46) 28 = some (3, 7) ∧ zFc 3 7 = some 0 := by decide +kernel
theorem k_46_46 : zD 46 46 = some (.ifCond .ne (11), 3, none) ∧ zTg 46 (11) = some 57 := by decide +kernel
theorem k_46_49 : zD 46 49 = some (.aload_n 0, 1, none) := by decide +kernel
theorem k_46_50 : zD 46 50 = some (.getfield 15, 3, none) ∧ zFl (zOn 46) 15 = some (3, 1) ∧ zFc 3 1 = some 4 := by decide +kernel
theorem k_46_53 : zD 46 53 = some (.iload_n 1, 1, none) := by decide +kernel
theorem k_46_54 : zD 46 54 = some (.invokevirtual 100, 3, none) ∧ zCk (zOn 46) 100 = some (0, 47) ∧ zNp 47 = 1 ∧ zML 47 = 2 ∧ zCo[6]? = some (zOn 47) ∧ zRt 47 = none := by decide +kernel
theorem k_46_57 : zD 46 57 = some (.return_, 1, some [false, false]) := by decide +kernel
theorem kd_46_16 : zD 46 16 = some (.aload_n 0, 1, some [true, false]) := k_46_16
theorem kd_46_37 : zD 46 37 = some (.istore_n 1, 1, some [true, false]) := k_46_37
theorem kd_46_57 : zD 46 57 = some (.return_, 1, some [false, false]) := k_46_57

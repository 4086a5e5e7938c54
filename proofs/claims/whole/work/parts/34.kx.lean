theorem ml_20 : zML 20 = 4 := by decide +kernel
theorem rt_20 : zRt 20 = some .int := by decide +kernel
theorem k_20_0 : zD 20 0 = some (.iload_n 1, 1, none) := by decide +kernel
theorem k_20_1 : zD 20 1 = some (.iconst (1), 1, none) := by decide +kernel
theorem k_20_2 : zD 20 2 = some (.if_icmp .lt (9), 3, none) ∧ zTg 2 (9) = some 11 := by decide +kernel
theorem k_20_11 : zD 20 11 = some (.ldc 86, 2, some [false, false, false, false]) ∧ zKc (zOn 20) 86 = some (.inl (-1000000002)) := by decide +kernel
theorem k_20_13 : zD 20 13 = some (.ireturn, 1, none) := by decide +kernel
theorem k_20_5 : zD 20 5 = some (.iload_n 1, 1, none) := by decide +kernel
theorem k_20_6 : zD 20 6 = some (.bipush (8), 2, none) := by decide +kernel
theorem k_20_8 : zD 20 8 = some (.if_icmp .le (6), 3, none) ∧ zTg 8 (6) = some 14 := by decide +kernel
theorem k_20_14 : zD 20 14 = some (.aload_n 0, 1, none) := by decide +kernel
theorem k_20_15 : zD 20 15 = some (.getfield 10, 3, none) ∧ zFl (zOn 20) 10 = some (7, 0) ∧ zFc 7 0 = some 3 := by decide +kernel
theorem k_20_18 : zD 20 18 = some (.iload_n 1, 1, none) := by decide +kernel
theorem k_20_19 : zD 20 19 = some (.lload_n 2, 1, none) := by decide +kernel
theorem k_20_20 : zD 20 20 = some (.invokevirtual 87, 3, none) ∧ zCk (zOn 20) 87 = some (0, 21) ∧ zNp 21 = 2 ∧ zML 21 = 5 ∧ zCo[5]? = some (zOn 21) ∧ (zRt 21 = some .int ∨ zRt 21 = some .boolean ∨ zRt 21 = some .char ∨ zRt 21 = some .byte) := by decide +kernel
theorem k_20_23 : zD 20 23 = some (.ifCond .eq (13), 3, none) ∧ zTg 23 (13) = some 36 := by decide +kernel
theorem k_20_36 : zD 20 36 = some (.ldc 94, 2, none) ∧ zKc (zOn 20) 94 = some (.inl (-1000000004)) := by decide +kernel
theorem k_20_38 : zD 20 38 = some (.ireturn, 1, some [false, false, false, false]) := by decide +kernel
theorem k_20_26 : zD 20 26 = some (.aload_n 0, 1, none) := by decide +kernel
theorem k_20_27 : zD 20 27 = some (.getfield 10, 3, none) ∧ zFl (zOn 20) 10 = some (7, 0) ∧ zFc 7 0 = some 3 := by decide +kernel
theorem k_20_30 : zD 20 30 = some (.getfield 91, 3, none) ∧ zFl (zOn 20) 91 = some (5, 1) ∧ zFc 5 1 = some 0 := by decide +kernel
theorem k_20_33 : zD 20 33 = some (.goto (5), 3, none) ∧ zTg 33 (5) = some 38 := by decide +kernel
theorem kd_20_11 : zD 20 11 = some (.ldc 86, 2, some [false, false, false, false]) := k_20_11.1
theorem kd_20_38 : zD 20 38 = some (.ireturn, 1, some [false, false, false, false]) := k_20_38
theorem ml_22 : zML 22 = 4 := by decide +kernel
theorem rt_22 : zRt 22 = some .int := by decide +kernel
theorem k_22_0 : zD 22 0 = some (.aload_n 0, 1, none) := by decide +kernel
theorem k_22_1 : zD 22 1 = some (.getfield 31, 3, none) ∧ zFl (zOn 22) 31 = some (7, 1) ∧ zFc 7 1 = some 3 := by decide +kernel
theorem k_22_4 : zD 22 4 = some (.aload_n 0, 1, none) := by decide +kernel
theorem k_22_5 : zD 22 5 = some (.getfield 23, 3, none) ∧ zFl (zOn 22) 23 = some (7, 9) ∧ zFc 7 9 = some 4 := by decide +kernel
theorem k_22_8 : zD 22 8 = some (.invokevirtual 95, 3, none) ∧ zCk (zOn 22) 95 = some (0, 23) ∧ zNp 23 = 1 ∧ zML 23 = 3 ∧ zCo[3]? = some (zOn 23) ∧ (zRt 23 = some .int ∨ zRt 23 = some .boolean ∨ zRt 23 = some .char ∨ zRt 23 = some .byte) := by decide +kernel
theorem k_22_11 : zD 22 11 = some (.istore_n 1, 1, none) := by decide +kernel
theorem k_22_12 : zD 22 12 = some (.aload_n 0, 1, none) := by decide +kernel
theorem k_22_13 : zD 22 13 = some (.getfield 10, 3, none) ∧ zFl (zOn 22) 10 = some (7, 0) ∧ zFc 7 0 = some 3 := by decide +kernel
theorem k_22_16 : zD 22 16 = some (.iconst (0), 1, none) := by decide +kernel
theorem k_22_17 : zD 22 17 = some (.putfield 91, 3, none) ∧ zFl (zOn 22) 91 = some (5, 1) ∧ zFc 5 1 = some 0 := by decide +kernel
theorem k_22_20 : zD 22 20 = some (.aload_n 0, 1, none) := by decide +kernel
theorem k_22_21 : zD 22 21 = some (.aload_n 0, 1, none) := by decide +kernel
theorem k_22_22 : zD 22 22 = some (.getfield 31, 3, none) ∧ zFl (zOn 22) 31 = some (7, 1) ∧ zFc 7 1 = some 3 := by decide +kernel
theorem k_22_25 : zD 22 25 = some (.getfield 99, 3, none) ∧ zFl (zOn 22) 99 = some (3, 8) ∧ zFc 3 8 = some 0 := by decide +kernel
theorem k_22_28 : zD 22 28 = some (.putfield 73, 3, none) ∧ zFl (zOn 22) 73 = some (7, 10) ∧ zFc 7 10 = some 0 := by decide +kernel
theorem k_22_31 : zD 22 31 = some (.iload_n 1, 1, none) := by decide +kernel
theorem k_22_32 : zD 22 32 = some (.ifCond .eq (8), 3, none) ∧ zTg 32 (8) = some 40 := by decide +kernel
theorem k_22_40 : zD 22 40 = some (.aload_n 0, 1, none) := by decide +kernel
theorem k_22_41 : zD 22 41 = some (.getfield 19, 3, none) ∧ zFl (zOn 22) 19 = some (7, 8) ∧ zFc 7 8 = some 4 := by decide +kernel
theorem k_22_44 : zD 22 44 = some (.astore_n 2, 1, none) := by decide +kernel
theorem k_22_45 : zD 22 45 = some (.aload_n 0, 1, none) := by decide +kernel
theorem k_22_46 : zD 22 46 = some (.aload_n 0, 1, none) := by decide +kernel
theorem k_22_47 : zD 22 47 = some (.getfield 23, 3, none) ∧ zFl (zOn 22) 23 = some (7, 9) ∧ zFc 7 9 = some 4 := by decide +kernel
theorem k_22_50 : zD 22 50 = some (.putfield 19, 3, none) ∧ zFl (zOn 22) 19 = some (7, 8) ∧ zFc 7 8 = some 4 := by decide +kernel
theorem k_22_53 : zD 22 53 = some (.aload_n 0, 1, none) := by decide +kernel
theorem k_22_54 : zD 22 54 = some (.aload_n 2, 1, none) := by decide +kernel
theorem k_22_55 : zD 22 55 = some (.putfield 23, 3, none) ∧ zFl (zOn 22) 23 = some (7, 9) ∧ zFc 7 9 = some 4 := by decide +kernel
theorem k_22_58 : zD 22 58 = some (.aload_n 0, 1, none) := by decide +kernel
theorem k_22_59 : zD 22 59 = some (.getfield 19, 3, none) ∧ zFl (zOn 22) 19 = some (7, 8) ∧ zFc 7 8 = some 4 := by decide +kernel
theorem k_22_62 : zD 22 62 = some (.invokevirtual 80, 3, none) ∧ zCk (zOn 22) 80 = some (0, 9) ∧ zNp 9 = 0 ∧ zML 9 = 3 ∧ zCo[6]? = some (zOn 9) ∧ zRt 9 = none := by decide +kernel
theorem k_22_65 : zD 22 65 = some (.aload_n 0, 1, none) := by decide +kernel
theorem k_22_66 : zD 22 66 = some (.getfield 61, 3, none) ∧ zFl (zOn 22) 61 = some (7, 5) ∧ zFc 7 5 = some 3 := by decide +kernel
theorem k_22_69 : zD 22 69 = some (.aload_n 0, 1, none) := by decide +kernel
theorem k_22_70 : zD 22 70 = some (.getfield 19, 3, none) ∧ zFl (zOn 22) 19 = some (7, 8) ∧ zFc 7 8 = some 4 := by decide +kernel
theorem k_22_73 : zD 22 73 = some (.invokevirtual 83, 3, none) ∧ zCk (zOn 22) 83 = some (0, 17) ∧ zNp 17 = 1 ∧ zML 17 = 4 ∧ zCo[4]? = some (zOn 17) ∧ zRt 17 = none := by decide +kernel
theorem k_22_76 : zD 22 76 = some (.aload_n 0, 1, none) := by decide +kernel
theorem k_22_77 : zD 22 77 = some (.getfield 54, 3, none) ∧ zFl (zOn 22) 54 = some (7, 4) ∧ zFc 7 4 = some 3 := by decide +kernel
theorem k_22_80 : zD 22 80 = some (.iconst (0), 1, none) := by decide +kernel
theorem k_22_81 : zD 22 81 = some (.putfield 100, 3, none) ∧ zFl (zOn 22) 100 = some (0, 4) ∧ zFc 0 4 = some 0 := by decide +kernel
theorem k_22_84 : zD 22 84 = some (.iconst (0), 1, none) := by decide +kernel
theorem k_22_85 : zD 22 85 = some (.istore_n 3, 1, none) := by decide +kernel
theorem k_22_35 : zD 22 35 = some (.bipush (-10), 2, none) := by decide +kernel
theorem k_22_37 : zD 22 37 = some (.iload_n 1, 1, none) := by decide +kernel
theorem k_22_38 : zD 22 38 = some (.isub, 1, none) := by decide +kernel
theorem k_22_39 : zD 22 39 = some (.ireturn, 1, none) := by decide +kernel
theorem k_22_86 : zD 22 86 = some (.iload_n 3, 1, some [true, false, false, true]) := by decide +kernel
theorem k_22_87 : zD 22 87 = some (.iconst (2), 1, none) := by decide +kernel
theorem k_22_88 : zD 22 88 = some (.if_icmp .ge (16), 3, none) ∧ zTg 88 (16) = some 104 := by decide +kernel
theorem k_22_91 : zD 22 91 = some (.aload_n 0, 1, none) := by decide +kernel
theorem k_22_92 : zD 22 92 = some (.getfield 69, 3, none) ∧ zFl (zOn 22) 69 = some (7, 7) ∧ zFc 7 7 = some 3 := by decide +kernel
theorem k_22_95 : zD 22 95 = some (.iload_n 3, 1, none) := by decide +kernel
theorem k_22_96 : zD 22 96 = some (.iconst (0), 1, none) := by decide +kernel
theorem k_22_97 : zD 22 97 = some (.bastore, 1, none) := by decide +kernel
theorem k_22_98 : zD 22 98 = some (.iinc 3 (1), 3, none) := by decide +kernel
theorem k_22_101 : zD 22 101 = some (.goto (-15), 3, none) ∧ zTg 101 (-15) = some 86 := by decide +kernel
theorem k_22_104 : zD 22 104 = some (.aload_n 0, 1, none) := by decide +kernel
theorem k_22_105 : zD 22 105 = some (.getfield 19, 3, none) ∧ zFl (zOn 22) 19 = some (7, 8) ∧ zFc 7 8 = some 4 := by decide +kernel
theorem k_22_108 : zD 22 108 = some (.getfield 103, 3, none) ∧ zFl (zOn 22) 103 = some (6, 1) ∧ zFc 6 1 = some 0 := by decide +kernel
theorem k_22_111 : zD 22 111 = some (.ireturn, 1, none) := by decide +kernel
theorem kd_22_86 : zD 22 86 = some (.iload_n 3, 1, some [true, false, false, true]) := k_22_86
theorem ml_48 : zML 48 = 1 := by decide +kernel
theorem rt_48 : zRt 48 = some .int := by decide +kernel
theorem k_48_0 : zD 48 0 = some (.aload_n 0, 1, none) := by decide +kernel
theorem k_48_1 : zD 48 1 = some (.getfield 73, 3, none) ∧ zFl (zOn 48) 73 = some (7, 10) ∧ zFc 7 10 = some 0 := by decide +kernel
theorem k_48_4 : zD 48 4 = some (.ireturn, 1, none) := by decide +kernel
theorem ml_49 : zML 49 = 2 := by decide +kernel
theorem rt_49 : zRt 49 = some .int := by decide +kernel
theorem k_49_0 : zD 49 0 = some (.iload_n 1, 1, none) := by decide +kernel
theorem k_49_1 : zD 49 1 = some (.tableswitch (102) (0) (6) #[43, 51, 59, 67, 75, 83, 91], 43, none) := by decide +kernel
theorem k_49_44 : zD 49 44 = some (.aload_n 0, 1, none) := by decide +kernel
theorem k_49_45 : zD 49 45 = some (.getfield 19, 3, none) ∧ zFl (zOn 49) 19 = some (7, 8) ∧ zFc 7 8 = some 4 := by decide +kernel
theorem k_49_48 : zD 49 48 = some (.getfield 106, 3, none) ∧ zFl (zOn 49) 106 = some (6, 0) ∧ zFc 6 0 = some 0 := by decide +kernel
theorem k_49_51 : zD 49 51 = some (.ireturn, 1, none) := by decide +kernel
theorem k_49_52 : zD 49 52 = some (.aload_n 0, 1, none) := by decide +kernel
theorem k_49_53 : zD 49 53 = some (.getfield 19, 3, none) ∧ zFl (zOn 49) 19 = some (7, 8) ∧ zFc 7 8 = some 4 := by decide +kernel
theorem k_49_56 : zD 49 56 = some (.getfield 103, 3, none) ∧ zFl (zOn 49) 103 = some (6, 1) ∧ zFc 6 1 = some 0 := by decide +kernel
theorem k_49_59 : zD 49 59 = some (.ireturn, 1, none) := by decide +kernel
theorem k_49_60 : zD 49 60 = some (.aload_n 0, 1, none) := by decide +kernel
theorem k_49_61 : zD 49 61 = some (.getfield 19, 3, none) ∧ zFl (zOn 49) 19 = some (7, 8) ∧ zFc 7 8 = some 4 := by decide +kernel
theorem k_49_64 : zD 49 64 = some (.getfield 109, 3, none) ∧ zFl (zOn 49) 109 = some (6, 2) ∧ zFc 6 2 = some 0 := by decide +kernel
theorem k_49_67 : zD 49 67 = some (.ireturn, 1, none) := by decide +kernel
theorem k_49_68 : zD 49 68 = some (.aload_n 0, 1, none) := by decide +kernel
theorem k_49_69 : zD 49 69 = some (.getfield 10, 3, none) ∧ zFl (zOn 49) 10 = some (7, 0) ∧ zFc 7 0 = some 3 := by decide +kernel
theorem k_49_72 : zD 49 72 = some (.getfield 91, 3, none) ∧ zFl (zOn 49) 91 = some (5, 1) ∧ zFc 5 1 = some 0 := by decide +kernel
theorem k_49_75 : zD 49 75 = some (.ireturn, 1, none) := by decide +kernel
theorem k_49_76 : zD 49 76 = some (.aload_n 0, 1, none) := by decide +kernel
theorem k_49_77 : zD 49 77 = some (.getfield 61, 3, none) ∧ zFl (zOn 49) 61 = some (7, 5) ∧ zFc 7 5 = some 3 := by decide +kernel
theorem k_49_80 : zD 49 80 = some (.getfield 112, 3, none) ∧ zFl (zOn 49) 112 = some (4, 5) ∧ zFc 4 5 = some 0 := by decide +kernel
theorem k_49_83 : zD 49 83 = some (.ireturn, 1, none) := by decide +kernel
theorem k_49_84 : zD 49 84 = some (.aload_n 0, 1, none) := by decide +kernel
theorem k_49_85 : zD 49 85 = some (.getfield 54, 3, none) ∧ zFl (zOn 49) 54 = some (7, 4) ∧ zFc 7 4 = some 3 := by decide +kernel
theorem k_49_88 : zD 49 88 = some (.getfield 100, 3, none) ∧ zFl (zOn 49) 100 = some (0, 4) ∧ zFc 0 4 = some 0 := by decide +kernel
theorem k_49_91 : zD 49 91 = some (.ireturn, 1, none) := by decide +kernel
theorem k_49_92 : zD 49 92 = some (.aload_n 0, 1, none) := by decide +kernel
theorem k_49_93 : zD 49 93 = some (.getfield 19, 3, none) ∧ zFl (zOn 49) 19 = some (7, 8) ∧ zFc 7 8 = some 4 := by decide +kernel
theorem k_49_96 : zD 49 96 = some (.getfield 115, 3, none) ∧ zFl (zOn 49) 115 = some (6, 8) ∧ zFc 6 8 = some 2 := by decide +kernel
theorem k_49_99 : zD 49 99 = some (.invokestatic 119, 3, none) ∧ zAt.lookup (zOn 49, 119) = none ∧ zCk (zOn 49) 119 = some (1, 50) ∧ (1 = 1 ∨ 1 = 3) ∧ zNp 50 = 1 ∧ zML 50 = 2 ∧ (zRt 50 = some .int ∨ zRt 50 = some .boolean ∨ zRt 50 = some .char ∨ zRt 50 = some .byte) := by decide +kernel
theorem k_49_102 : zD 49 102 = some (.ireturn, 1, none) := by decide +kernel
theorem k_49_103 : zD 49 103 = some (.ldc 86, 2, none) ∧ zKc (zOn 49) 86 = some (.inl (-1000000002)) := by decide +kernel
theorem k_49_105 : zD 49 105 = some (.ireturn, 1, none) := by decide +kernel
theorem ml_51 : zML 51 = 3 := by decide +kernel
theorem rt_51 : zRt 51 = some .int := by decide +kernel
theorem k_51_0 : zD 51 0 = some (.aload_n 0, 1, none) := by decide +kernel
theorem k_51_1 : zD 51 1 = some (.iload_n 1, 1, none) := by decide +kernel
theorem k_51_2 : zD 51 2 = some (.invokevirtual 125, 3, none) ∧ zCk (zOn 51) 125 = some (0, 52) ∧ zNp 52 = 1 ∧ zML 52 = 2 ∧ zCo[7]? = some (zOn 52) ∧ (zRt 52 = some .int ∨ zRt 52 = some .boolean ∨ zRt 52 = some .char ∨ zRt 52 = some .byte) := by decide +kernel
theorem k_51_5 : zD 51 5 = some (.ifCond .ne (6), 3, none) ∧ zTg 5 (6) = some 11 := by decide +kernel
theorem k_51_8 : zD 51 8 = some (.ldc 129, 2, none) ∧ zKc (zOn 51) 129 = some (.inl (-1000000001)) := by decide +kernel
theorem k_51_10 : zD 51 10 = some (.ireturn, 1, none) := by decide +kernel
theorem k_51_11 : zD 51 11 = some (.iload_n 2, 1, none) := by decide +kernel
theorem k_51_12 : zD 51 12 = some (.tableswitch (61) (0) (2) #[28, 38, 48], 28, none) := by decide +kernel
theorem k_51_40 : zD 51 40 = some (.aload_n 0, 1, none) := by decide +kernel
theorem k_51_41 : zD 51 41 = some (.getfield 19, 3, none) ∧ zFl (zOn 51) 19 = some (7, 8) ∧ zFc 7 8 = some 4 := by decide +kernel
theorem k_51_44 : zD 51 44 = some (.getfield 130, 3, none) ∧ zFl (zOn 51) 130 = some (6, 3) ∧ zFc 6 3 = some 3 := by decide +kernel
theorem k_51_47 : zD 51 47 = some (.iload_n 1, 1, none) := by decide +kernel
theorem k_51_48 : zD 51 48 = some (.iaload, 1, none) := by decide +kernel
theorem k_51_49 : zD 51 49 = some (.ireturn, 1, none) := by decide +kernel
theorem k_51_50 : zD 51 50 = some (.aload_n 0, 1, none) := by decide +kernel
theorem k_51_51 : zD 51 51 = some (.getfield 19, 3, none) ∧ zFl (zOn 51) 19 = some (7, 8) ∧ zFc 7 8 = some 4 := by decide +kernel
theorem k_51_54 : zD 51 54 = some (.getfield 134, 3, none) ∧ zFl (zOn 51) 134 = some (6, 4) ∧ zFc 6 4 = some 3 := by decide +kernel
theorem k_51_57 : zD 51 57 = some (.iload_n 1, 1, none) := by decide +kernel
theorem k_51_58 : zD 51 58 = some (.iaload, 1, none) := by decide +kernel
theorem k_51_59 : zD 51 59 = some (.ireturn, 1, none) := by decide +kernel
theorem k_51_60 : zD 51 60 = some (.aload_n 0, 1, none) := by decide +kernel
theorem k_51_61 : zD 51 61 = some (.getfield 61, 3, none) ∧ zFl (zOn 51) 61 = some (7, 5) ∧ zFc 7 5 = some 3 := by decide +kernel
theorem k_51_64 : zD 51 64 = some (.aload_n 0, 1, none) := by decide +kernel
theorem k_51_65 : zD 51 65 = some (.getfield 19, 3, none) ∧ zFl (zOn 51) 19 = some (7, 8) ∧ zFc 7 8 = some 4 := by decide +kernel
theorem k_51_68 : zD 51 68 = some (.iload_n 1, 1, none) := by decide +kernel
theorem k_51_69 : zD 51 69 = some (.invokevirtual 137, 3, none) ∧ zCk (zOn 51) 137 = some (0, 53) ∧ zNp 53 = 2 ∧ zML 53 = 5 ∧ zCo[4]? = some (zOn 53) ∧ (zRt 53 = some .int ∨ zRt 53 = some .boolean ∨ zRt 53 = some .char ∨ zRt 53 = some .byte) := by decide +kernel
theorem k_51_72 : zD 51 72 = some (.ireturn, 1, none) := by decide +kernel
theorem k_51_73 : zD 51 73 = some (.ldc 86, 2, none) ∧ zKc (zOn 51) 86 = some (.inl (-1000000002)) := by decide +kernel
theorem k_51_75 : zD 51 75 = some (.ireturn, 1, none) := by decide +kernel
theorem ml_52 : zML 52 = 2 := by decide +kernel
theorem rt_52 : zRt 52 = some .boolean := by decide +kernel
theorem k_52_0 : zD 52 0 = some (.iload_n 1, 1, none) := by decide +kernel
theorem k_52_1 : zD 52 1 = some (.ifCond .lt (18), 3, none) ∧ zTg 1 (18) = some 19 := by decide +kernel
theorem k_52_19 : zD 52 19 = some (.iconst (0), 1, some [false, false]) := by decide +kernel
theorem k_52_20 : zD 52 20 = some (.ireturn, 1, some [false, false]) := by decide +kernel
theorem k_52_4 : zD 52 4 = some (.iload_n 1, 1, none) := by decide +kernel
theorem k_52_5 : zD 52 5 = some (.aload_n 0, 1, none) := by decide +kernel
theorem k_52_6 : zD 52 6 = some (.getfield 19, 3, none) ∧ zFl (zOn 52) 19 = some (7, 8) ∧ zFc 7 8 = some 4 := by decide +kernel
theorem k_52_9 : zD 52 9 = some (.getfield 106, 3, none) ∧ zFl (zOn 52) 106 = some (6, 0) ∧ zFc 6 0 = some 0 := by decide +kernel
theorem k_52_12 : zD 52 12 = some (.if_icmp .ge (7), 3, none) ∧ zTg 12 (7) = some 19 := by decide +kernel
theorem k_52_15 : zD 52 15 = some (.iconst (1), 1, none) := by decide +kernel
theorem k_52_16 : zD 52 16 = some (.goto (4), 3, none) ∧ zTg 16 (4) = some 20 := by decide +kernel
theorem kd_52_19 : zD 52 19 = some (.iconst (0), 1, some [false, false]) := k_52_19
theorem kd_52_20 : zD 52 20 = some (.ireturn, 1, some [false, false]) := k_52_20
theorem ml_54 : zML 54 = 3 := by decide +kernel
theorem rt_54 : zRt 54 = some .int := by decide +kernel
theorem k_54_0 : zD 54 0 = some (.aload_n 0, 1, none) := by decide +kernel
theorem k_54_1 : zD 54 1 = some (.iload_n 1, 1, none) := by decide +kernel
theorem k_54_2 : zD 54 2 = some (.invokevirtual 141, 3, none) ∧ zCk (zOn 54) 141 = some (0, 55) ∧ zNp 55 = 1 ∧ zML 55 = 2 ∧ zCo[7]? = some (zOn 55) ∧ (zRt 55 = some .int ∨ zRt 55 = some .boolean ∨ zRt 55 = some .char ∨ zRt 55 = some .byte) := by decide +kernel
theorem k_54_5 : zD 54 5 = some (.ifCond .ne (6), 3, none) ∧ zTg 5 (6) = some 11 := by decide +kernel
theorem k_54_8 : zD 54 8 = some (.ldc 129, 2, none) ∧ zKc (zOn 54) 129 = some (.inl (-1000000001)) := by decide +kernel
theorem k_54_10 : zD 54 10 = some (.ireturn, 1, none) := by decide +kernel
theorem k_54_11 : zD 54 11 = some (.iload_n 2, 1, none) := by decide +kernel
theorem k_54_12 : zD 54 12 = some (.tableswitch (75) (0) (3) #[32, 42, 52, 62], 32, none) := by decide +kernel
theorem k_54_44 : zD 54 44 = some (.aload_n 0, 1, none) := by decide +kernel
theorem k_54_45 : zD 54 45 = some (.getfield 61, 3, none) ∧ zFl (zOn 54) 61 = some (7, 5) ∧ zFc 7 5 = some 3 := by decide +kernel
theorem k_54_48 : zD 54 48 = some (.getfield 144, 3, none) ∧ zFl (zOn 54) 144 = some (4, 0) ∧ zFc 4 0 = some 3 := by decide +kernel
theorem k_54_51 : zD 54 51 = some (.iload_n 1, 1, none) := by decide +kernel
theorem k_54_52 : zD 54 52 = some (.iaload, 1, none) := by decide +kernel
theorem k_54_53 : zD 54 53 = some (.ireturn, 1, none) := by decide +kernel
theorem k_54_54 : zD 54 54 = some (.aload_n 0, 1, none) := by decide +kernel
theorem k_54_55 : zD 54 55 = some (.getfield 61, 3, none) ∧ zFl (zOn 54) 61 = some (7, 5) ∧ zFc 7 5 = some 3 := by decide +kernel
theorem k_54_58 : zD 54 58 = some (.getfield 147, 3, none) ∧ zFl (zOn 54) 147 = some (4, 1) ∧ zFc 4 1 = some 3 := by decide +kernel
theorem k_54_61 : zD 54 61 = some (.iload_n 1, 1, none) := by decide +kernel
theorem k_54_62 : zD 54 62 = some (.iaload, 1, none) := by decide +kernel
theorem k_54_63 : zD 54 63 = some (.ireturn, 1, none) := by decide +kernel
theorem k_54_64 : zD 54 64 = some (.aload_n 0, 1, none) := by decide +kernel
theorem k_54_65 : zD 54 65 = some (.getfield 61, 3, none) ∧ zFl (zOn 54) 61 = some (7, 5) ∧ zFc 7 5 = some 3 := by decide +kernel
theorem k_54_68 : zD 54 68 = some (.getfield 150, 3, none) ∧ zFl (zOn 54) 150 = some (4, 2) ∧ zFc 4 2 = some 3 := by decide +kernel
theorem k_54_71 : zD 54 71 = some (.iload_n 1, 1, none) := by decide +kernel
theorem k_54_72 : zD 54 72 = some (.iaload, 1, none) := by decide +kernel
theorem k_54_73 : zD 54 73 = some (.ireturn, 1, none) := by decide +kernel
theorem k_54_74 : zD 54 74 = some (.aload_n 0, 1, none) := by decide +kernel
theorem k_54_75 : zD 54 75 = some (.getfield 61, 3, none) ∧ zFl (zOn 54) 61 = some (7, 5) ∧ zFc 7 5 = some 3 := by decide +kernel
theorem k_54_78 : zD 54 78 = some (.aload_n 0, 1, none) := by decide +kernel
theorem k_54_79 : zD 54 79 = some (.getfield 19, 3, none) ∧ zFl (zOn 54) 19 = some (7, 8) ∧ zFc 7 8 = some 4 := by decide +kernel
theorem k_54_82 : zD 54 82 = some (.iload_n 1, 1, none) := by decide +kernel
theorem k_54_83 : zD 54 83 = some (.invokevirtual 153, 3, none) ∧ zCk (zOn 54) 153 = some (0, 56) ∧ zNp 56 = 2 ∧ zML 56 = 3 ∧ zCo[4]? = some (zOn 56) ∧ (zRt 56 = some .int ∨ zRt 56 = some .boolean ∨ zRt 56 = some .char ∨ zRt 56 = some .byte) := by decide +kernel
theorem k_54_86 : zD 54 86 = some (.ireturn, 1, none) := by decide +kernel
theorem k_54_87 : zD 54 87 = some (.ldc 86, 2, none) ∧ zKc (zOn 54) 86 = some (.inl (-1000000002)) := by decide +kernel
theorem k_54_89 : zD 54 89 = some (.ireturn, 1, none) := by decide +kernel
theorem ml_55 : zML 55 = 2 := by decide +kernel
theorem rt_55 : zRt 55 = some .boolean := by decide +kernel
theorem k_55_0 : zD 55 0 = some (.iload_n 1, 1, none) := by decide +kernel
theorem k_55_1 : zD 55 1 = some (.ifCond .lt (18), 3, none) ∧ zTg 1 (18) = some 19 := by decide +kernel
theorem k_55_19 : zD 55 19 = some (.iconst (0), 1, some [false, false]) := by decide +kernel
theorem k_55_20 : zD 55 20 = some (.ireturn, 1, some [false, false]) := by decide +kernel
theorem k_55_4 : zD 55 4 = some (.iload_n 1, 1, none) := by decide +kernel
theorem k_55_5 : zD 55 5 = some (.aload_n 0, 1, none) := by decide +kernel
theorem k_55_6 : zD 55 6 = some (.getfield 19, 3, none) ∧ zFl (zOn 55) 19 = some (7, 8) ∧ zFc 7 8 = some 4 := by decide +kernel
theorem k_55_9 : zD 55 9 = some (.getfield 103, 3, none) ∧ zFl (zOn 55) 103 = some (6, 1) ∧ zFc 6 1 = some 0 := by decide +kernel
theorem k_55_12 : zD 55 12 = some (.if_icmp .ge (7), 3, none) ∧ zTg 12 (7) = some 19 := by decide +kernel
theorem k_55_15 : zD 55 15 = some (.iconst (1), 1, none) := by decide +kernel
theorem k_55_16 : zD 55 16 = some (.goto (4), 3, none) ∧ zTg 16 (4) = some 20 := by decide +kernel
theorem kd_55_19 : zD 55 19 = some (.iconst (0), 1, some [false, false]) := k_55_19
theorem kd_55_20 : zD 55 20 = some (.ireturn, 1, some [false, false]) := k_55_20
theorem ml_58 : zML 58 = 2 := by decide +kernel
theorem rt_58 : zRt 58 = some .int := by decide +kernel
theorem k_58_0 : zD 58 0 = some (.aload_n 0, 1, none) := by decide +kernel
theorem k_58_1 : zD 58 1 = some (.iload_n 1, 1, none) := by decide +kernel
theorem k_58_2 : zD 58 2 = some (.invokevirtual 156, 3, none) ∧ zCk (zOn 58) 156 = some (0, 59) ∧ zNp 59 = 1 ∧ zML 59 = 2 ∧ zCo[7]? = some (zOn 59) ∧ (zRt 59 = some .int ∨ zRt 59 = some .boolean ∨ zRt 59 = some .char ∨ zRt 59 = some .byte) := by decide +kernel
theorem k_58_5 : zD 58 5 = some (.ifCond .eq (14), 3, none) ∧ zTg 5 (14) = some 19 := by decide +kernel
theorem k_58_19 : zD 58 19 = some (.ldc 129, 2, none) ∧ zKc (zOn 58) 129 = some (.inl (-1000000001)) := by decide +kernel
theorem k_58_21 : zD 58 21 = some (.ireturn, 1, some [false, false]) := by decide +kernel
theorem k_58_8 : zD 58 8 = some (.aload_n 0, 1, none) := by decide +kernel
theorem k_58_9 : zD 58 9 = some (.getfield 19, 3, none) ∧ zFl (zOn 58) 19 = some (7, 8) ∧ zFc 7 8 = some 4 := by decide +kernel
theorem k_58_12 : zD 58 12 = some (.iload_n 1, 1, none) := by decide +kernel
theorem k_58_13 : zD 58 13 = some (.invokevirtual 159, 3, none) ∧ zCk (zOn 58) 159 = some (0, 18) ∧ zNp 18 = 1 ∧ zML 18 = 4 ∧ zCo[6]? = some (zOn 18) ∧ (zRt 18 = some .int ∨ zRt 18 = some .boolean ∨ zRt 18 = some .char ∨ zRt 18 = some .byte) := by decide +kernel
theorem k_58_16 : zD 58 16 = some (.goto (5), 3, none) ∧ zTg 16 (5) = some 21 := by decide +kernel
theorem kd_58_21 : zD 58 21 = some (.ireturn, 1, some [false, false]) := k_58_21
theorem ml_59 : zML 59 = 2 := by decide +kernel
theorem rt_59 : zRt 59 = some .boolean := by decide +kernel
theorem k_59_0 : zD 59 0 = some (.iload_n 1, 1, none) := by decide +kernel
theorem k_59_1 : zD 59 1 = some (.ifCond .lt (20), 3, none) ∧ zTg 1 (20) = some 21 := by decide +kernel
theorem k_59_21 : zD 59 21 = some (.iconst (0), 1, some [false, false]) := by decide +kernel
theorem k_59_22 : zD 59 22 = some (.ireturn, 1, some [false, false]) := by decide +kernel
theorem k_59_4 : zD 59 4 = some (.iload_n 1, 1, none) := by decide +kernel
theorem k_59_5 : zD 59 5 = some (.iconst (1), 1, none) := by decide +kernel
theorem k_59_6 : zD 59 6 = some (.aload_n 0, 1, none) := by decide +kernel
theorem k_59_7 : zD 59 7 = some (.getfield 19, 3, none) ∧ zFl (zOn 59) 19 = some (7, 8) ∧ zFc 7 8 = some 4 := by decide +kernel
theorem k_59_10 : zD 59 10 = some (.getfield 106, 3, none) ∧ zFl (zOn 59) 106 = some (6, 0) ∧ zFc 6 0 = some 0 := by decide +kernel
theorem k_59_13 : zD 59 13 = some (.ishl, 1, none) := by decide +kernel
theorem k_59_14 : zD 59 14 = some (.if_icmp .ge (7), 3, none) ∧ zTg 14 (7) = some 21 := by decide +kernel
theorem k_59_17 : zD 59 17 = some (.iconst (1), 1, none) := by decide +kernel
theorem k_59_18 : zD 59 18 = some (.goto (4), 3, none) ∧ zTg 18 (4) = some 22 := by decide +kernel
theorem kd_59_21 : zD 59 21 = some (.iconst (0), 1, some [false, false]) := k_59_21
theorem kd_59_22 : zD 59 22 = some (.ireturn, 1, some [false, false]) := k_59_22
theorem ml_60 : zML 60 = 4 := by decide +kernel
theorem rt_60 : zRt 60 = some .int := by decide +kernel
theorem k_60_0 : zD 60 0 = some (.aload_n 0, 1, none) := by decide +kernel
theorem k_60_1 : zD 60 1 = some (.iload_n 1, 1, none) := by decide +kernel
theorem k_60_2 : zD 60 2 = some (.iload_n 2, 1, none) := by decide +kernel
theorem k_60_3 : zD 60 3 = some (.invokevirtual 163, 3, none) ∧ zCk (zOn 60) 163 = some (0, 61) ∧ zNp 61 = 2 ∧ zML 61 = 3 ∧ zCo[7]? = some (zOn 61) ∧ (zRt 61 = some .int ∨ zRt 61 = some .boolean ∨ zRt 61 = some .char ∨ zRt 61 = some .byte) := by decide +kernel
theorem k_60_6 : zD 60 6 = some (.ifCond .eq (19), 3, none) ∧ zTg 6 (19) = some 25 := by decide +kernel
theorem k_60_25 : zD 60 25 = some (.ldc 129, 2, none) ∧ zKc (zOn 60) 129 = some (.inl (-1000000001)) := by decide +kernel
theorem k_60_27 : zD 60 27 = some (.ireturn, 1, some [false, false, false, false]) := by decide +kernel
theorem k_60_9 : zD 60 9 = some (.aload_n 0, 1, none) := by decide +kernel
theorem k_60_10 : zD 60 10 = some (.getfield 61, 3, none) ∧ zFl (zOn 60) 61 = some (7, 5) ∧ zFc 7 5 = some 3 := by decide +kernel
theorem k_60_13 : zD 60 13 = some (.iload_n 1, 1, none) := by decide +kernel
theorem k_60_14 : zD 60 14 = some (.iload_n 2, 1, none) := by decide +kernel
theorem k_60_15 : zD 60 15 = some (.invokevirtual 167, 3, none) ∧ zCk (zOn 60) 167 = some (0, 62) ∧ zNp 62 = 2 ∧ zML 62 = 4 ∧ zCo[4]? = some (zOn 62) ∧ zRt 62 = some .long := by decide +kernel
theorem k_60_18 : zD 60 18 = some (.iload_n 3, 1, none) := by decide +kernel
theorem k_60_19 : zD 60 19 = some (.invokestatic 171, 3, none) ∧ zAt.lookup (zOn 60, 171) = none ∧ zCk (zOn 60) 171 = some (1, 63) ∧ (1 = 1 ∨ 1 = 3) ∧ zNp 63 = 2 ∧ zML 63 = 5 ∧ (zRt 63 = some .int ∨ zRt 63 = some .boolean ∨ zRt 63 = some .char ∨ zRt 63 = some .byte) := by decide +kernel
theorem k_60_22 : zD 60 22 = some (.goto (5), 3, none) ∧ zTg 22 (5) = some 27 := by decide +kernel
theorem kd_60_27 : zD 60 27 = some (.ireturn, 1, some [false, false, false, false]) := k_60_27
theorem ml_61 : zML 61 = 3 := by decide +kernel
theorem rt_61 : zRt 61 = some .boolean := by decide +kernel
theorem k_61_0 : zD 61 0 = some (.aload_n 0, 1, none) := by decide +kernel
theorem k_61_1 : zD 61 1 = some (.iload_n 1, 1, none) := by decide +kernel
theorem k_61_2 : zD 61 2 = some (.invokevirtual 141, 3, none) ∧ zCk (zOn 61) 141 = some (0, 55) ∧ zNp 55 = 1 ∧ zML 55 = 2 ∧ zCo[7]? = some (zOn 55) ∧ (zRt 55 = some .int ∨ zRt 55 = some .boolean ∨ zRt 55 = some .char ∨ zRt 55 = some .byte) := by decide +kernel
theorem k_61_5 : zD 61 5 = some (.ifCond .eq (20), 3, none) ∧ zTg 5 (20) = some 25 := by decide +kernel
theorem k_61_25 : zD 61 25 = some (.iconst (0), 1, some [false, false, false]) := by decide +kernel
theorem k_61_26 : zD 61 26 = some (.ireturn, 1, some [false, false, false]) := by decide +kernel
theorem k_61_8 : zD 61 8 = some (.aload_n 0, 1, none) := by decide +kernel
theorem k_61_9 : zD 61 9 = some (.iload_n 2, 1, none) := by decide +kernel
theorem k_61_10 : zD 61 10 = some (.invokevirtual 141, 3, none) ∧ zCk (zOn 61) 141 = some (0, 55) ∧ zNp 55 = 1 ∧ zML 55 = 2 ∧ zCo[7]? = some (zOn 55) ∧ (zRt 55 = some .int ∨ zRt 55 = some .boolean ∨ zRt 55 = some .char ∨ zRt 55 = some .byte) := by decide +kernel
theorem k_61_13 : zD 61 13 = some (.ifCond .eq (12), 3, none) ∧ zTg 13 (12) = some 25 := by decide +kernel
theorem k_61_16 : zD 61 16 = some (.iload_n 1, 1, none) := by decide +kernel
theorem k_61_17 : zD 61 17 = some (.iload_n 2, 1, none) := by decide +kernel
theorem k_61_18 : zD 61 18 = some (.if_icmp .eq (7), 3, none) ∧ zTg 18 (7) = some 25 := by decide +kernel
theorem k_61_21 : zD 61 21 = some (.iconst (1), 1, none) := by decide +kernel
theorem k_61_22 : zD 61 22 = some (.goto (4), 3, none) ∧ zTg 22 (4) = some 26 := by decide +kernel
theorem kd_61_25 : zD 61 25 = some (.iconst (0), 1, some [false, false, false]) := k_61_25
theorem kd_61_26 : zD 61 26 = some (.ireturn, 1, some [false, false, false]) := k_61_26
theorem ml_64 : zML 64 = 4 := by decide +kernel
theorem rt_64 : zRt 64 = some .int := by decide +kernel
theorem k_64_0 : zD 64 0 = some (.aload_n 0, 1, none) := by decide +kernel
theorem k_64_1 : zD 64 1 = some (.iload_n 1, 1, none) := by decide +kernel
theorem k_64_2 : zD 64 2 = some (.iload_n 2, 1, none) := by decide +kernel
theorem k_64_3 : zD 64 3 = some (.invokevirtual 163, 3, none) ∧ zCk (zOn 64) 163 = some (0, 61) ∧ zNp 61 = 2 ∧ zML 61 = 3 ∧ zCo[7]? = some (zOn 61) ∧ (zRt 61 = some .int ∨ zRt 61 = some .boolean ∨ zRt 61 = some .char ∨ zRt 61 = some .byte) := by decide +kernel
theorem k_64_6 : zD 64 6 = some (.ifCond .ne (6), 3, none) ∧ zTg 6 (6) = some 12 := by decide +kernel
theorem k_64_9 : zD 64 9 = some (.ldc 129, 2, none) ∧ zKc (zOn 64) 129 = some (.inl (-1000000001)) := by decide +kernel
theorem k_64_11 : zD 64 11 = some (.ireturn, 1, none) := by decide +kernel
theorem k_64_12 : zD 64 12 = some (.iload_n 3, 1, none) := by decide +kernel
theorem k_64_13 : zD 64 13 = some (.lookupswitch (55) #[(0, 27), (1, 41)], 27, none) := by decide +kernel
theorem k_64_40 : zD 64 40 = some (.aload_n 0, 1, none) := by decide +kernel
theorem k_64_41 : zD 64 41 = some (.getfield 61, 3, none) ∧ zFl (zOn 64) 61 = some (7, 5) ∧ zFc 7 5 = some 3 := by decide +kernel
theorem k_64_44 : zD 64 44 = some (.aload_n 0, 1, none) := by decide +kernel
theorem k_64_45 : zD 64 45 = some (.getfield 19, 3, none) ∧ zFl (zOn 64) 19 = some (7, 8) ∧ zFc 7 8 = some 4 := by decide +kernel
theorem k_64_48 : zD 64 48 = some (.iload_n 1, 1, none) := by decide +kernel
theorem k_64_49 : zD 64 49 = some (.iload_n 2, 1, none) := by decide +kernel
theorem k_64_50 : zD 64 50 = some (.invokevirtual 177, 3, none) ∧ zCk (zOn 64) 177 = some (0, 65) ∧ zNp 65 = 3 ∧ zML 65 = 4 ∧ zCo[4]? = some (zOn 65) ∧ (zRt 65 = some .int ∨ zRt 65 = some .boolean ∨ zRt 65 = some .char ∨ zRt 65 = some .byte) := by decide +kernel
theorem k_64_53 : zD 64 53 = some (.ireturn, 1, none) := by decide +kernel
theorem k_64_54 : zD 64 54 = some (.aload_n 0, 1, none) := by decide +kernel
theorem k_64_55 : zD 64 55 = some (.getfield 61, 3, none) ∧ zFl (zOn 64) 61 = some (7, 5) ∧ zFc 7 5 = some 3 := by decide +kernel
theorem k_64_58 : zD 64 58 = some (.aload_n 0, 1, none) := by decide +kernel
theorem k_64_59 : zD 64 59 = some (.getfield 19, 3, none) ∧ zFl (zOn 64) 19 = some (7, 8) ∧ zFc 7 8 = some 4 := by decide +kernel
theorem k_64_62 : zD 64 62 = some (.iload_n 1, 1, none) := by decide +kernel
theorem k_64_63 : zD 64 63 = some (.iload_n 2, 1, none) := by decide +kernel
theorem k_64_64 : zD 64 64 = some (.invokevirtual 181, 3, none) ∧ zCk (zOn 64) 181 = some (0, 67) ∧ zNp 67 = 3 ∧ zML 67 = 4 ∧ zCo[4]? = some (zOn 67) ∧ (zRt 67 = some .int ∨ zRt 67 = some .boolean ∨ zRt 67 = some .char ∨ zRt 67 = some .byte) := by decide +kernel
theorem k_64_67 : zD 64 67 = some (.ireturn, 1, none) := by decide +kernel
theorem k_64_68 : zD 64 68 = some (.ldc 86, 2, none) ∧ zKc (zOn 64) 86 = some (.inl (-1000000002)) := by decide +kernel
theorem k_64_70 : zD 64 70 = some (.ireturn, 1, none) := by decide +kernel
theorem ml_68 : zML 68 = 3 := by decide +kernel
theorem rt_68 : zRt 68 = some .int := by decide +kernel
theorem k_68_0 : zD 68 0 = some (.aload_n 0, 1, none) := by decide +kernel
theorem k_68_1 : zD 68 1 = some (.iload_n 1, 1, none) := by decide +kernel
theorem k_68_2 : zD 68 2 = some (.iload_n 2, 1, none) := by decide +kernel
theorem k_68_3 : zD 68 3 = some (.invokevirtual 163, 3, none) ∧ zCk (zOn 68) 163 = some (0, 61) ∧ zNp 61 = 2 ∧ zML 61 = 3 ∧ zCo[7]? = some (zOn 61) ∧ (zRt 61 = some .int ∨ zRt 61 = some .boolean ∨ zRt 61 = some .char ∨ zRt 61 = some .byte) := by decide +kernel
theorem k_68_6 : zD 68 6 = some (.ifCond .eq (19), 3, none) ∧ zTg 6 (19) = some 25 := by decide +kernel
theorem k_68_25 : zD 68 25 = some (.ldc 129, 2, none) ∧ zKc (zOn 68) 129 = some (.inl (-1000000001)) := by decide +kernel
theorem k_68_27 : zD 68 27 = some (.ireturn, 1, some [false, false, false]) := by decide +kernel
theorem k_68_9 : zD 68 9 = some (.aload_n 0, 1, none) := by decide +kernel
theorem k_68_10 : zD 68 10 = some (.getfield 61, 3, none) ∧ zFl (zOn 68) 61 = some (7, 5) ∧ zFc 7 5 = some 3 := by decide +kernel
theorem k_68_13 : zD 68 13 = some (.aload_n 0, 1, none) := by decide +kernel
theorem k_68_14 : zD 68 14 = some (.getfield 19, 3, none) ∧ zFl (zOn 68) 19 = some (7, 8) ∧ zFc 7 8 = some 4 := by decide +kernel
theorem k_68_17 : zD 68 17 = some (.iload_n 1, 1, none) := by decide +kernel
theorem k_68_18 : zD 68 18 = some (.iload_n 2, 1, none) := by decide +kernel
theorem k_68_19 : zD 68 19 = some (.invokevirtual 184, 3, none) ∧ zCk (zOn 68) 184 = some (0, 69) ∧ zNp 69 = 3 ∧ zML 69 = 4 ∧ zCo[4]? = some (zOn 69) ∧ (zRt 69 = some .int ∨ zRt 69 = some .boolean ∨ zRt 69 = some .char ∨ zRt 69 = some .byte) := by decide +kernel
theorem k_68_22 : zD 68 22 = some (.goto (5), 3, none) ∧ zTg 22 (5) = some 27 := by decide +kernel
theorem kd_68_27 : zD 68 27 = some (.ireturn, 1, some [false, false, false]) := k_68_27
theorem ml_70 : zML 70 = 4 := by decide +kernel
theorem rt_70 : zRt 70 = some .int := by decide +kernel
theorem k_70_0 : zD 70 0 = some (.aload_n 0, 1, none) := by decide +kernel
theorem k_70_1 : zD 70 1 = some (.iload_n 1, 1, none) := by decide +kernel
theorem k_70_2 : zD 70 2 = some (.iload_n 2, 1, none) := by decide +kernel
theorem k_70_3 : zD 70 3 = some (.invokevirtual 163, 3, none) ∧ zCk (zOn 70) 163 = some (0, 61) ∧ zNp 61 = 2 ∧ zML 61 = 3 ∧ zCo[7]? = some (zOn 61) ∧ (zRt 61 = some .int ∨ zRt 61 = some .boolean ∨ zRt 61 = some .char ∨ zRt 61 = some .byte) := by decide +kernel
theorem k_70_6 : zD 70 6 = some (.ifCond .eq (24), 3, none) ∧ zTg 6 (24) = some 30 := by decide +kernel
theorem k_70_30 : zD 70 30 = some (.ldc 129, 2, some [false, false, false, false]) ∧ zKc (zOn 70) 129 = some (.inl (-1000000001)) := by decide +kernel
theorem k_70_32 : zD 70 32 = some (.ireturn, 1, some [false, false, false, false]) := by decide +kernel
theorem k_70_9 : zD 70 9 = some (.aload_n 0, 1, none) := by decide +kernel
theorem k_70_10 : zD 70 10 = some (.iload_n 3, 1, none) := by decide +kernel
theorem k_70_11 : zD 70 11 = some (.invokevirtual 125, 3, none) ∧ zCk (zOn 70) 125 = some (0, 52) ∧ zNp 52 = 1 ∧ zML 52 = 2 ∧ zCo[7]? = some (zOn 52) ∧ (zRt 52 = some .int ∨ zRt 52 = some .boolean ∨ zRt 52 = some .char ∨ zRt 52 = some .byte) := by decide +kernel
theorem k_70_14 : zD 70 14 = some (.ifCond .eq (16), 3, none) ∧ zTg 14 (16) = some 30 := by decide +kernel
theorem k_70_17 : zD 70 17 = some (.aload_n 0, 1, none) := by decide +kernel
theorem k_70_18 : zD 70 18 = some (.getfield 61, 3, none) ∧ zFl (zOn 70) 61 = some (7, 5) ∧ zFc 7 5 = some 3 := by decide +kernel
theorem k_70_21 : zD 70 21 = some (.iload_n 1, 1, none) := by decide +kernel
theorem k_70_22 : zD 70 22 = some (.iload_n 2, 1, none) := by decide +kernel
theorem k_70_23 : zD 70 23 = some (.iload_n 3, 1, none) := by decide +kernel
theorem k_70_24 : zD 70 24 = some (.invokevirtual 187, 3, none) ∧ zCk (zOn 70) 187 = some (0, 71) ∧ zNp 71 = 3 ∧ zML 71 = 7 ∧ zCo[4]? = some (zOn 71) ∧ (zRt 71 = some .int ∨ zRt 71 = some .boolean ∨ zRt 71 = some .char ∨ zRt 71 = some .byte) := by decide +kernel
theorem k_70_27 : zD 70 27 = some (.goto (5), 3, none) ∧ zTg 27 (5) = some 32 := by decide +kernel
theorem kd_70_30 : zD 70 30 = some (.ldc 129, 2, some [false, false, false, false]) := k_70_30.1
theorem kd_70_32 : zD 70 32 = some (.ireturn, 1, some [false, false, false, false]) := k_70_32
theorem ml_72 : zML 72 = 3 := by decide +kernel
theorem rt_72 : zRt 72 = some .int := by decide +kernel
theorem k_72_0 : zD 72 0 = some (.aload_n 0, 1, none) := by decide +kernel
theorem k_72_1 : zD 72 1 = some (.iload_n 1, 1, none) := by decide +kernel
theorem k_72_2 : zD 72 2 = some (.iload_n 2, 1, none) := by decide +kernel
theorem k_72_3 : zD 72 3 = some (.invokevirtual 163, 3, none) ∧ zCk (zOn 72) 163 = some (0, 61) ∧ zNp 61 = 2 ∧ zML 61 = 3 ∧ zCo[7]? = some (zOn 61) ∧ (zRt 61 = some .int ∨ zRt 61 = some .boolean ∨ zRt 61 = some .char ∨ zRt 61 = some .byte) := by decide +kernel
theorem k_72_6 : zD 72 6 = some (.ifCond .eq (19), 3, none) ∧ zTg 6 (19) = some 25 := by decide +kernel
theorem k_72_25 : zD 72 25 = some (.ldc 129, 2, none) ∧ zKc (zOn 72) 129 = some (.inl (-1000000001)) := by decide +kernel
theorem k_72_27 : zD 72 27 = some (.ireturn, 1, some [false, false, false]) := by decide +kernel
theorem k_72_9 : zD 72 9 = some (.aload_n 0, 1, none) := by decide +kernel
theorem k_72_10 : zD 72 10 = some (.getfield 61, 3, none) ∧ zFl (zOn 72) 61 = some (7, 5) ∧ zFc 7 5 = some 3 := by decide +kernel
theorem k_72_13 : zD 72 13 = some (.aload_n 0, 1, none) := by decide +kernel
theorem k_72_14 : zD 72 14 = some (.getfield 19, 3, none) ∧ zFl (zOn 72) 19 = some (7, 8) ∧ zFc 7 8 = some 4 := by decide +kernel
theorem k_72_17 : zD 72 17 = some (.iload_n 1, 1, none) := by decide +kernel
theorem k_72_18 : zD 72 18 = some (.iload_n 2, 1, none) := by decide +kernel
theorem k_72_19 : zD 72 19 = some (.invokevirtual 191, 3, none) ∧ zCk (zOn 72) 191 = some (0, 73) ∧ zNp 73 = 3 ∧ zML 73 = 7 ∧ zCo[4]? = some (zOn 73) ∧ (zRt 73 = some .int ∨ zRt 73 = some .boolean ∨ zRt 73 = some .char ∨ zRt 73 = some .byte) := by decide +kernel
theorem k_72_22 : zD 72 22 = some (.goto (5), 3, none) ∧ zTg 22 (5) = some 27 := by decide +kernel
theorem kd_72_27 : zD 72 27 = some (.ireturn, 1, some [false, false, false]) := k_72_27
theorem ml_74 : zML 74 = 5 := by decide +kernel
theorem rt_74 : zRt 74 = some .int := by decide +kernel
theorem k_74_0 : zD 74 0 = some (.aload_n 0, 1, none) := by decide +kernel
theorem k_74_1 : zD 74 1 = some (.iload_n 1, 1, none) := by decide +kernel
theorem k_74_2 : zD 74 2 = some (.iload_n 2, 1, none) := by decide +kernel
theorem k_74_3 : zD 74 3 = some (.invokevirtual 163, 3, none) ∧ zCk (zOn 74) 163 = some (0, 61) ∧ zNp 61 = 2 ∧ zML 61 = 3 ∧ zCo[7]? = some (zOn 61) ∧ (zRt 61 = some .int ∨ zRt 61 = some .boolean ∨ zRt 61 = some .char ∨ zRt 61 = some .byte) := by decide +kernel
theorem k_74_6 : zD 74 6 = some (.ifCond .eq (20), 3, none) ∧ zTg 6 (20) = some 26 := by decide +kernel
theorem k_74_26 : zD 74 26 = some (.ldc 129, 2, some [false, false, false, false, false]) ∧ zKc (zOn 74) 129 = some (.inl (-1000000001)) := by decide +kernel
theorem k_74_28 : zD 74 28 = some (.ireturn, 1, none) := by decide +kernel
theorem k_74_9 : zD 74 9 = some (.aload_n 0, 1, none) := by decide +kernel
theorem k_74_10 : zD 74 10 = some (.iload_n 3, 1, none) := by decide +kernel
theorem k_74_11 : zD 74 11 = some (.invokevirtual 125, 3, none) ∧ zCk (zOn 74) 125 = some (0, 52) ∧ zNp 52 = 1 ∧ zML 52 = 2 ∧ zCo[7]? = some (zOn 52) ∧ (zRt 52 = some .int ∨ zRt 52 = some .boolean ∨ zRt 52 = some .char ∨ zRt 52 = some .byte) := by decide +kernel
theorem k_74_14 : zD 74 14 = some (.ifCond .eq (12), 3, none) ∧ zTg 14 (12) = some 26 := by decide +kernel
theorem k_74_17 : zD 74 17 = some (.aload_n 0, 1, none) := by decide +kernel
theorem k_74_18 : zD 74 18 = some (.iload 4, 2, none) := by decide +kernel
theorem k_74_20 : zD 74 20 = some (.invokevirtual 194, 3, none) ∧ zCk (zOn 74) 194 = some (0, 75) ∧ zNp 75 = 1 ∧ zML 75 = 2 ∧ zCo[7]? = some (zOn 75) ∧ (zRt 75 = some .int ∨ zRt 75 = some .boolean ∨ zRt 75 = some .char ∨ zRt 75 = some .byte) := by decide +kernel
theorem k_74_23 : zD 74 23 = some (.ifCond .ne (6), 3, none) ∧ zTg 23 (6) = some 29 := by decide +kernel
theorem k_74_29 : zD 74 29 = some (.iload 4, 2, none) := by decide +kernel
theorem k_74_31 : zD 74 31 = some (.iload_n 1, 1, none) := by decide +kernel
theorem k_74_32 : zD 74 32 = some (.invokestatic 197, 3, none) ∧ zAt.lookup (zOn 74, 197) = none ∧ zCk (zOn 74) 197 = some (1, 11) ∧ (1 = 1 ∨ 1 = 3) ∧ zNp 11 = 2 ∧ zML 11 = 2 ∧ (zRt 11 = some .int ∨ zRt 11 = some .boolean ∨ zRt 11 = some .char ∨ zRt 11 = some .byte) := by decide +kernel
theorem k_74_35 : zD 74 35 = some (.ifCond .ne (12), 3, none) ∧ zTg 35 (12) = some 47 := by decide +kernel
theorem k_74_38 : zD 74 38 = some (.iload 4, 2, none) := by decide +kernel
theorem k_74_40 : zD 74 40 = some (.iload_n 2, 1, none) := by decide +kernel
theorem k_74_41 : zD 74 41 = some (.invokestatic 197, 3, none) ∧ zAt.lookup (zOn 74, 197) = none ∧ zCk (zOn 74) 197 = some (1, 11) ∧ (1 = 1 ∨ 1 = 3) ∧ zNp 11 = 2 ∧ zML 11 = 2 ∧ (zRt 11 = some .int ∨ zRt 11 = some .boolean ∨ zRt 11 = some .char ∨ zRt 11 = some .byte) := by decide +kernel
theorem k_74_44 : zD 74 44 = some (.ifCond .eq (6), 3, none) ∧ zTg 44 (6) = some 50 := by decide +kernel
theorem k_74_50 : zD 74 50 = some (.aload_n 0, 1, none) := by decide +kernel
theorem k_74_51 : zD 74 51 = some (.getfield 61, 3, none) ∧ zFl (zOn 74) 61 = some (7, 5) ∧ zFc 7 5 = some 3 := by decide +kernel
theorem k_74_54 : zD 74 54 = some (.getfield 144, 3, none) ∧ zFl (zOn 74) 144 = some (4, 0) ∧ zFc 4 0 = some 3 := by decide +kernel
theorem k_74_57 : zD 74 57 = some (.iload_n 1, 1, none) := by decide +kernel
theorem k_74_58 : zD 74 58 = some (.iaload, 1, none) := by decide +kernel
theorem k_74_59 : zD 74 59 = some (.iload_n 3, 1, none) := by decide +kernel
theorem k_74_60 : zD 74 60 = some (.invokestatic 197, 3, none) ∧ zAt.lookup (zOn 74, 197) = none ∧ zCk (zOn 74) 197 = some (1, 11) ∧ (1 = 1 ∨ 1 = 3) ∧ zNp 11 = 2 ∧ zML 11 = 2 ∧ (zRt 11 = some .int ∨ zRt 11 = some .boolean ∨ zRt 11 = some .char ∨ zRt 11 = some .byte) := by decide +kernel
theorem k_74_63 : zD 74 63 = some (.ifCond .eq (22), 3, none) ∧ zTg 63 (22) = some 85 := by decide +kernel
theorem k_74_85 : zD 74 85 = some (.ldc 204, 2, none) ∧ zKc (zOn 74) 204 = some (.inl (-1000000003)) := by decide +kernel
theorem k_74_87 : zD 74 87 = some (.ireturn, 1, some [false, false, false, false, false]) := by decide +kernel
theorem k_74_66 : zD 74 66 = some (.aload_n 0, 1, none) := by decide +kernel
theorem k_74_67 : zD 74 67 = some (.getfield 61, 3, none) ∧ zFl (zOn 74) 61 = some (7, 5) ∧ zFc 7 5 = some 3 := by decide +kernel
theorem k_74_70 : zD 74 70 = some (.aload_n 0, 1, none) := by decide +kernel
theorem k_74_71 : zD 74 71 = some (.getfield 19, 3, none) ∧ zFl (zOn 74) 19 = some (7, 8) ∧ zFc 7 8 = some 4 := by decide +kernel
theorem k_74_74 : zD 74 74 = some (.iload_n 1, 1, none) := by decide +kernel
theorem k_74_75 : zD 74 75 = some (.iload_n 2, 1, none) := by decide +kernel
theorem k_74_76 : zD 74 76 = some (.iload_n 3, 1, none) := by decide +kernel
theorem k_74_77 : zD 74 77 = some (.iload 4, 2, none) := by decide +kernel
theorem k_74_79 : zD 74 79 = some (.invokevirtual 200, 3, none) ∧ zCk (zOn 74) 200 = some (0, 77) ∧ zNp 77 = 5 ∧ zML 77 = 8 ∧ zCo[4]? = some (zOn 77) ∧ (zRt 77 = some .int ∨ zRt 77 = some .boolean ∨ zRt 77 = some .char ∨ zRt 77 = some .byte) := by decide +kernel
theorem k_74_82 : zD 74 82 = some (.goto (5), 3, none) ∧ zTg 82 (5) = some 87 := by decide +kernel
theorem k_74_47 : zD 74 47 = some (.ldc 129, 2, some [false, false, false, false, false]) ∧ zKc (zOn 74) 129 = some (.inl (-1000000001)) := by decide +kernel
theorem k_74_49 : zD 74 49 = some (.ireturn, 1, none) := by decide +kernel
theorem kd_74_26 : zD 74 26 = some (.ldc 129, 2, some [false, false, false, false, false]) := k_74_26.1
theorem kd_74_47 : zD 74 47 = some (.ldc 129, 2, some [false, false, false, false, false]) := k_74_47.1
theorem kd_74_87 : zD 74 87 = some (.ireturn, 1, some [false, false, false, false, false]) := k_74_87
theorem ml_75 : zML 75 = 2 := by decide +kernel
theorem rt_75 : zRt 75 = some .boolean := by decide +kernel
theorem k_75_0 : zD 75 0 = some (.iload_n 1, 1, none) := by decide +kernel
theorem k_75_1 : zD 75 1 = some (.ifCond .lt (15), 3, none) ∧ zTg 1 (15) = some 16 := by decide +kernel
theorem k_75_16 : zD 75 16 = some (.iconst (0), 1, some [false, false]) := by decide +kernel
theorem k_75_17 : zD 75 17 = some (.ireturn, 1, some [false, false]) := by decide +kernel
theorem k_75_4 : zD 75 4 = some (.iload_n 1, 1, none) := by decide +kernel
theorem k_75_5 : zD 75 5 = some (.aload_n 0, 1, none) := by decide +kernel
theorem k_75_6 : zD 75 6 = some (.invokevirtual 214, 3, none) ∧ zCk (zOn 75) 214 = some (0, 76) ∧ zNp 76 = 0 ∧ zML 76 = 1 ∧ zCo[7]? = some (zOn 76) ∧ (zRt 76 = some .int ∨ zRt 76 = some .boolean ∨ zRt 76 = some .char ∨ zRt 76 = some .byte) := by decide +kernel
theorem k_75_9 : zD 75 9 = some (.if_icmp .gt (7), 3, none) ∧ zTg 9 (7) = some 16 := by decide +kernel
theorem k_75_12 : zD 75 12 = some (.iconst (1), 1, none) := by decide +kernel
theorem k_75_13 : zD 75 13 = some (.goto (4), 3, none) ∧ zTg 13 (4) = some 17 := by decide +kernel
theorem kd_75_16 : zD 75 16 = some (.iconst (0), 1, some [false, false]) := k_75_16
theorem kd_75_17 : zD 75 17 = some (.ireturn, 1, some [false, false]) := k_75_17
theorem ml_76 : zML 76 = 1 := by decide +kernel
theorem rt_76 : zRt 76 = some .int := by decide +kernel
theorem k_76_0 : zD 76 0 = some (.iconst (1), 1, none) := by decide +kernel
theorem k_76_1 : zD 76 1 = some (.aload_n 0, 1, none) := by decide +kernel
theorem k_76_2 : zD 76 2 = some (.getfield 19, 3, none) ∧ zFl (zOn 76) 19 = some (7, 8) ∧ zFc 7 8 = some 4 := by decide +kernel
theorem k_76_5 : zD 76 5 = some (.getfield 103, 3, none) ∧ zFl (zOn 76) 103 = some (6, 1) ∧ zFc 6 1 = some 0 := by decide +kernel
theorem k_76_8 : zD 76 8 = some (.ishl, 1, none) := by decide +kernel
theorem k_76_9 : zD 76 9 = some (.iconst (1), 1, none) := by decide +kernel
theorem k_76_10 : zD 76 10 = some (.isub, 1, none) := by decide +kernel
theorem k_76_11 : zD 76 11 = some (.ireturn, 1, none) := by decide +kernel
theorem ml_83 : zML 83 = 3 := by decide +kernel
theorem rt_83 : zRt 83 = some .int := by decide +kernel
theorem k_83_0 : zD 83 0 = some (.aload_n 0, 1, none) := by decide +kernel
theorem k_83_1 : zD 83 1 = some (.iload_n 1, 1, none) := by decide +kernel
theorem k_83_2 : zD 83 2 = some (.iload_n 2, 1, none) := by decide +kernel
theorem k_83_3 : zD 83 3 = some (.invokevirtual 163, 3, none) ∧ zCk (zOn 83) 163 = some (0, 61) ∧ zNp 61 = 2 ∧ zML 61 = 3 ∧ zCo[7]? = some (zOn 61) ∧ (zRt 61 = some .int ∨ zRt 61 = some .boolean ∨ zRt 61 = some .char ∨ zRt 61 = some .byte) := by decide +kernel
theorem k_83_6 : zD 83 6 = some (.ifCond .eq (19), 3, none) ∧ zTg 6 (19) = some 25 := by decide +kernel
theorem k_83_25 : zD 83 25 = some (.ldc 129, 2, none) ∧ zKc (zOn 83) 129 = some (.inl (-1000000001)) := by decide +kernel
theorem k_83_27 : zD 83 27 = some (.ireturn, 1, some [false, false, false]) := by decide +kernel
theorem k_83_9 : zD 83 9 = some (.aload_n 0, 1, none) := by decide +kernel
theorem k_83_10 : zD 83 10 = some (.getfield 61, 3, none) ∧ zFl (zOn 83) 61 = some (7, 5) ∧ zFc 7 5 = some 3 := by decide +kernel
theorem k_83_13 : zD 83 13 = some (.aload_n 0, 1, none) := by decide +kernel
theorem k_83_14 : zD 83 14 = some (.getfield 19, 3, none) ∧ zFl (zOn 83) 19 = some (7, 8) ∧ zFc 7 8 = some 4 := by decide +kernel
theorem k_83_17 : zD 83 17 = some (.iload_n 1, 1, none) := by decide +kernel
theorem k_83_18 : zD 83 18 = some (.iload_n 2, 1, none) := by decide +kernel
theorem k_83_19 : zD 83 19 = some (.invokevirtual 205, 3, none) ∧ zCk (zOn 83) 205 = some (0, 84) ∧ zNp 84 = 3 ∧ zML 84 = 9 ∧ zCo[4]? = some (zOn 84) ∧ (zRt 84 = some .int ∨ zRt 84 = some .boolean ∨ zRt 84 = some .char ∨ zRt 84 = some .byte) := by decide +kernel
theorem k_83_22 : zD 83 22 = some (.goto (5), 3, none) ∧ zTg 22 (5) = some 27 := by decide +kernel
theorem kd_83_27 : zD 83 27 = some (.ireturn, 1, some [false, false, false]) := k_83_27
theorem ml_86 : zML 86 = 1 := by decide +kernel
theorem rt_86 : zRt 86 = some .int := by decide +kernel
theorem k_86_0 : zD 86 0 = some (.aload_n 0, 1, none) := by decide +kernel
theorem k_86_1 : zD 86 1 = some (.getfield 61, 3, none) ∧ zFl (zOn 86) 61 = some (7, 5) ∧ zFc 7 5 = some 3 := by decide +kernel
theorem k_86_4 : zD 86 4 = some (.aload_n 0, 1, none) := by decide +kernel
theorem k_86_5 : zD 86 5 = some (.getfield 19, 3, none) ∧ zFl (zOn 86) 19 = some (7, 8) ∧ zFc 7 8 = some 4 := by decide +kernel
theorem k_86_8 : zD 86 8 = some (.invokevirtual 208, 3, none) ∧ zCk (zOn 86) 208 = some (0, 87) ∧ zNp 87 = 1 ∧ zML 87 = 7 ∧ zCo[4]? = some (zOn 87) ∧ (zRt 87 = some .int ∨ zRt 87 = some .boolean ∨ zRt 87 = some .char ∨ zRt 87 = some .byte) := by decide +kernel
theorem k_86_11 : zD 86 11 = some (.ireturn, 1, none) := by decide +kernel
theorem ml_88 : zML 88 = 3 := by decide +kernel
theorem rt_88 : zRt 88 = some .int := by decide +kernel
theorem k_88_0 : zD 88 0 = some (.aload_n 0, 1, none) := by decide +kernel
theorem k_88_1 : zD 88 1 = some (.iload_n 1, 1, none) := by decide +kernel
theorem k_88_2 : zD 88 2 = some (.invokevirtual 156, 3, none) ∧ zCk (zOn 88) 156 = some (0, 59) ∧ zNp 59 = 1 ∧ zML 59 = 2 ∧ zCo[7]? = some (zOn 59) ∧ (zRt 59 = some .int ∨ zRt 59 = some .boolean ∨ zRt 59 = some .char ∨ zRt 59 = some .byte) := by decide +kernel
theorem k_88_5 : zD 88 5 = some (.ifCond .ne (6), 3, none) ∧ zTg 5 (6) = some 11 := by decide +kernel
theorem k_88_8 : zD 88 8 = some (.ldc 129, 2, none) ∧ zKc (zOn 88) 129 = some (.inl (-1000000001)) := by decide +kernel
theorem k_88_10 : zD 88 10 = some (.ireturn, 1, none) := by decide +kernel
theorem k_88_11 : zD 88 11 = some (.iconst (0), 1, none) := by decide +kernel
theorem k_88_12 : zD 88 12 = some (.istore_n 2, 1, none) := by decide +kernel
theorem k_88_13 : zD 88 13 = some (.iload_n 2, 1, some [true, true, true]) := by decide +kernel
theorem k_88_14 : zD 88 14 = some (.bipush (6), 2, none) := by decide +kernel
theorem k_88_16 : zD 88 16 = some (.if_icmp .ge (17), 3, none) ∧ zTg 16 (17) = some 33 := by decide +kernel
theorem k_88_19 : zD 88 19 = some (.aload_n 0, 1, none) := by decide +kernel
theorem k_88_20 : zD 88 20 = some (.iload_n 1, 1, none) := by decide +kernel
theorem k_88_21 : zD 88 21 = some (.invokevirtual 211, 3, none) ∧ zCk (zOn 88) 211 = some (0, 89) ∧ zNp 89 = 1 ∧ zML 89 = 6 ∧ zCo[7]? = some (zOn 89) ∧ (zRt 89 = some .int ∨ zRt 89 = some .boolean ∨ zRt 89 = some .char ∨ zRt 89 = some .byte) := by decide +kernel
theorem k_88_24 : zD 88 24 = some (.ifCond .eq (9), 3, none) ∧ zTg 24 (9) = some 33 := by decide +kernel
theorem k_88_33 : zD 88 33 = some (.iload_n 2, 1, some [false, false, true]) := by decide +kernel
theorem k_88_34 : zD 88 34 = some (.ireturn, 1, none) := by decide +kernel
theorem k_88_27 : zD 88 27 = some (.iinc 2 (1), 3, none) := by decide +kernel
theorem k_88_30 : zD 88 30 = some (.goto (-17), 3, none) ∧ zTg 30 (-17) = some 13 := by decide +kernel
theorem kd_88_13 : zD 88 13 = some (.iload_n 2, 1, some [true, true, true]) := k_88_13
theorem kd_88_33 : zD 88 33 = some (.iload_n 2, 1, some [false, false, true]) := k_88_33
theorem ml_89 : zML 89 = 6 := by decide +kernel
theorem rt_89 : zRt 89 = some .boolean := by decide +kernel
theorem k_89_0 : zD 89 0 = some (.iconst (0), 1, none) := by decide +kernel
theorem k_89_1 : zD 89 1 = some (.istore_n 2, 1, none) := by decide +kernel
theorem k_89_2 : zD 89 2 = some (.iload_n 2, 1, some [true, true, true, false, false, false]) := by decide +kernel
theorem k_89_3 : zD 89 3 = some (.aload_n 0, 1, none) := by decide +kernel
theorem k_89_4 : zD 89 4 = some (.getfield 19, 3, none) ∧ zFl (zOn 89) 19 = some (7, 8) ∧ zFc 7 8 = some 4 := by decide +kernel
theorem k_89_7 : zD 89 7 = some (.getfield 103, 3, none) ∧ zFl (zOn 89) 103 = some (6, 1) ∧ zFc 6 1 = some 0 := by decide +kernel
theorem k_89_10 : zD 89 10 = some (.if_icmp .ge (98), 3, none) ∧ zTg 10 (98) = some 108 := by decide +kernel
theorem k_89_13 : zD 89 13 = some (.iconst (0), 1, none) := by decide +kernel
theorem k_89_14 : zD 89 14 = some (.istore_n 3, 1, none) := by decide +kernel
theorem k_89_108 : zD 89 108 = some (.iconst (0), 1, none) := by decide +kernel
theorem k_89_109 : zD 89 109 = some (.ireturn, 1, none) := by decide +kernel
theorem k_89_15 : zD 89 15 = some (.iload_n 3, 1, some [true, true, true, true, false, false]) := by decide +kernel
theorem k_89_16 : zD 89 16 = some (.aload_n 0, 1, none) := by decide +kernel
theorem k_89_17 : zD 89 17 = some (.getfield 19, 3, none) ∧ zFl (zOn 89) 19 = some (7, 8) ∧ zFc 7 8 = some 4 := by decide +kernel
theorem k_89_20 : zD 89 20 = some (.getfield 103, 3, none) ∧ zFl (zOn 89) 103 = some (6, 1) ∧ zFc 6 1 = some 0 := by decide +kernel
theorem k_89_23 : zD 89 23 = some (.if_icmp .ge (79), 3, none) ∧ zTg 23 (79) = some 102 := by decide +kernel
theorem k_89_26 : zD 89 26 = some (.iload_n 2, 1, none) := by decide +kernel
theorem k_89_27 : zD 89 27 = some (.iload_n 3, 1, none) := by decide +kernel
theorem k_89_28 : zD 89 28 = some (.if_icmp .ne (7), 3, none) ∧ zTg 28 (7) = some 35 := by decide +kernel
theorem k_89_31 : zD 89 31 = some (.iconst (0), 1, none) := by decide +kernel
theorem k_89_32 : zD 89 32 = some (.goto (18), 3, none) ∧ zTg 32 (18) = some 50 := by decide +kernel
theorem k_89_35 : zD 89 35 = some (.aload_n 0, 1, none) := by decide +kernel
theorem k_89_36 : zD 89 36 = some (.getfield 61, 3, none) ∧ zFl (zOn 89) 61 = some (7, 5) ∧ zFc 7 5 = some 3 := by decide +kernel
theorem k_89_39 : zD 89 39 = some (.aload_n 0, 1, none) := by decide +kernel
theorem k_89_40 : zD 89 40 = some (.getfield 19, 3, none) ∧ zFl (zOn 89) 19 = some (7, 8) ∧ zFc 7 8 = some 4 := by decide +kernel
theorem k_89_43 : zD 89 43 = some (.iload_n 2, 1, none) := by decide +kernel
theorem k_89_44 : zD 89 44 = some (.iload_n 3, 1, none) := by decide +kernel
theorem k_89_45 : zD 89 45 = some (.invokevirtual 184, 3, none) ∧ zCk (zOn 89) 184 = some (0, 69) ∧ zNp 69 = 3 ∧ zML 69 = 4 ∧ zCo[4]? = some (zOn 69) ∧ (zRt 69 = some .int ∨ zRt 69 = some .boolean ∨ zRt 69 = some .char ∨ zRt 69 = some .byte) := by decide +kernel
theorem k_89_48 : zD 89 48 = some (.iload_n 1, 1, none) := by decide +kernel
theorem k_89_49 : zD 89 49 = some (.iand, 1, none) := by decide +kernel
theorem k_89_102 : zD 89 102 = some (.iinc 2 (1), 3, none) := by decide +kernel
theorem k_89_105 : zD 89 105 = some (.goto (-103), 3, none) ∧ zTg 105 (-103) = some 2 := by decide +kernel
theorem k_89_50 : zD 89 50 = some (.istore 4, 2, some [true, true, true, true, false, false]) := by decide +kernel
theorem k_89_52 : zD 89 52 = some (.iload 4, 2, none) := by decide +kernel
theorem k_89_54 : zD 89 54 = some (.ifCond .eq (42), 3, none) ∧ zTg 54 (42) = some 96 := by decide +kernel
theorem k_89_96 : zD 89 96 = some (.iinc 3 (1), 3, none) := by decide +kernel
theorem k_89_99 : zD 89 99 = some (.goto (-84), 3, none) ∧ zTg 99 (-84) = some 15 := by decide +kernel
theorem k_89_57 : zD 89 57 = some (.aload_n 0, 1, none) := by decide +kernel
theorem k_89_58 : zD 89 58 = some (.invokevirtual 214, 3, none) ∧ zCk (zOn 89) 214 = some (0, 76) ∧ zNp 76 = 0 ∧ zML 76 = 1 ∧ zCo[7]? = some (zOn 76) ∧ (zRt 76 = some .int ∨ zRt 76 = some .boolean ∨ zRt 76 = some .char ∨ zRt 76 = some .byte) := by decide +kernel
theorem k_89_61 : zD 89 61 = some (.iconst (1), 1, none) := by decide +kernel
theorem k_89_62 : zD 89 62 = some (.iload_n 2, 1, none) := by decide +kernel
theorem k_89_63 : zD 89 63 = some (.ishl, 1, none) := by decide +kernel
theorem k_89_64 : zD 89 64 = some (.iconst (1), 1, none) := by decide +kernel
theorem k_89_65 : zD 89 65 = some (.iload_n 3, 1, none) := by decide +kernel
theorem k_89_66 : zD 89 66 = some (.ishl, 1, none) := by decide +kernel
theorem k_89_67 : zD 89 67 = some (.ior, 1, none) := by decide +kernel
theorem k_89_68 : zD 89 68 = some (.iconst (-1), 1, none) := by decide +kernel
theorem k_89_69 : zD 89 69 = some (.ixor, 1, none) := by decide +kernel
theorem k_89_70 : zD 89 70 = some (.iand, 1, none) := by decide +kernel
theorem k_89_71 : zD 89 71 = some (.istore 5, 2, none) := by decide +kernel
theorem k_89_73 : zD 89 73 = some (.aload_n 0, 1, none) := by decide +kernel
theorem k_89_74 : zD 89 74 = some (.getfield 61, 3, none) ∧ zFl (zOn 89) 61 = some (7, 5) ∧ zFc 7 5 = some 3 := by decide +kernel
theorem k_89_77 : zD 89 77 = some (.aload_n 0, 1, none) := by decide +kernel
theorem k_89_78 : zD 89 78 = some (.getfield 19, 3, none) ∧ zFl (zOn 89) 19 = some (7, 8) ∧ zFc 7 8 = some 4 := by decide +kernel
theorem k_89_81 : zD 89 81 = some (.iload_n 2, 1, none) := by decide +kernel
theorem k_89_82 : zD 89 82 = some (.iload_n 3, 1, none) := by decide +kernel
theorem k_89_83 : zD 89 83 = some (.iload 4, 2, none) := by decide +kernel
theorem k_89_85 : zD 89 85 = some (.invokestatic 218, 3, none) ∧ zAt.lookup (zOn 89, 218) = none ∧ zCk (zOn 89) 218 = some (1, 90) ∧ (1 = 1 ∨ 1 = 3) ∧ zNp 90 = 1 ∧ zML 90 = 2 ∧ (zRt 90 = some .int ∨ zRt 90 = some .boolean ∨ zRt 90 = some .char ∨ zRt 90 = some .byte) := by decide +kernel
theorem k_89_88 : zD 89 88 = some (.iload 5, 2, none) := by decide +kernel
theorem k_89_90 : zD 89 90 = some (.invokevirtual 200, 3, none) ∧ zCk (zOn 89) 200 = some (0, 77) ∧ zNp 77 = 5 ∧ zML 77 = 8 ∧ zCo[4]? = some (zOn 77) ∧ (zRt 77 = some .int ∨ zRt 77 = some .boolean ∨ zRt 77 = some .char ∨ zRt 77 = some .byte) := by decide +kernel
theorem k_89_93 : zD 89 93 = some (.pop, 1, none) := by decide +kernel
theorem k_89_94 : zD 89 94 = some (.iconst (1), 1, none) := by decide +kernel
theorem k_89_95 : zD 89 95 = some (.ireturn, 1, none) := by decide +kernel
theorem kd_89_2 : zD 89 2 = some (.iload_n 2, 1, some [true, true, true, false, false, false]) := k_89_2
theorem kd_89_15 : zD 89 15 = some (.iload_n 3, 1, some [true, true, true, true, false, false]) := k_89_15
theorem kd_89_50 : zD 89 50 = some (.istore 4, 2, some [true, true, true, true, false, false]) := k_89_50
theorem ml_91 : zML 91 = 4 := by decide +kernel
theorem rt_91 : zRt 91 = some .int := by decide +kernel
theorem k_91_0 : zD 91 0 = some (.aload_n 0, 1, none) := by decide +kernel
theorem k_91_1 : zD 91 1 = some (.iload_n 1, 1, none) := by decide +kernel
theorem k_91_2 : zD 91 2 = some (.iload_n 2, 1, none) := by decide +kernel
theorem k_91_3 : zD 91 3 = some (.invokevirtual 163, 3, none) ∧ zCk (zOn 91) 163 = some (0, 61) ∧ zNp 61 = 2 ∧ zML 61 = 3 ∧ zCo[7]? = some (zOn 61) ∧ (zRt 61 = some .int ∨ zRt 61 = some .boolean ∨ zRt 61 = some .char ∨ zRt 61 = some .byte) := by decide +kernel
theorem k_91_6 : zD 91 6 = some (.ifCond .ne (6), 3, none) ∧ zTg 6 (6) = some 12 := by decide +kernel
theorem k_91_9 : zD 91 9 = some (.ldc 129, 2, none) ∧ zKc (zOn 91) 129 = some (.inl (-1000000001)) := by decide +kernel
theorem k_91_11 : zD 91 11 = some (.ireturn, 1, none) := by decide +kernel
theorem k_91_12 : zD 91 12 = some (.aload_n 0, 1, none) := by decide +kernel
theorem k_91_13 : zD 91 13 = some (.getfield 40, 3, none) ∧ zFl (zOn 91) 40 = some (7, 2) ∧ zFc 7 2 = some 3 := by decide +kernel
theorem k_91_16 : zD 91 16 = some (.aload_n 0, 1, none) := by decide +kernel
theorem k_91_17 : zD 91 17 = some (.getfield 19, 3, none) ∧ zFl (zOn 91) 19 = some (7, 8) ∧ zFc 7 8 = some 4 := by decide +kernel
theorem k_91_20 : zD 91 20 = some (.aload_n 0, 1, none) := by decide +kernel
theorem k_91_21 : zD 91 21 = some (.getfield 61, 3, none) ∧ zFl (zOn 91) 61 = some (7, 5) ∧ zFc 7 5 = some 3 := by decide +kernel
theorem k_91_24 : zD 91 24 = some (.iload_n 1, 1, none) := by decide +kernel
theorem k_91_25 : zD 91 25 = some (.iload_n 2, 1, none) := by decide +kernel
theorem k_91_26 : zD 91 26 = some (.invokevirtual 223, 3, none) ∧ zCk (zOn 91) 223 = some (0, 92) ∧ zNp 92 = 4 ∧ zML 92 = 6 ∧ zCo[2]? = some (zOn 92) ∧ zRt 92 = none := by decide +kernel
theorem k_91_29 : zD 91 29 = some (.iload_n 3, 1, none) := by decide +kernel
theorem k_91_30 : zD 91 30 = some (.iconst (-1), 1, none) := by decide +kernel
theorem k_91_31 : zD 91 31 = some (.if_icmp .ne (13), 3, none) ∧ zTg 31 (13) = some 44 := by decide +kernel
theorem k_91_34 : zD 91 34 = some (.aload_n 0, 1, none) := by decide +kernel
theorem k_91_35 : zD 91 35 = some (.getfield 40, 3, none) ∧ zFl (zOn 91) 40 = some (7, 2) ∧ zFc 7 2 = some 3 := by decide +kernel
theorem k_91_38 : zD 91 38 = some (.getfield 227, 3, none) ∧ zFl (zOn 91) 227 = some (2, 8) ∧ zFc 2 8 = some 0 := by decide +kernel
theorem k_91_41 : zD 91 41 = some (.goto (11), 3, none) ∧ zTg 41 (11) = some 52 := by decide +kernel
theorem k_91_52 : zD 91 52 = some (.ireturn, 1, some [false, false, false, false]) := by decide +kernel
theorem k_91_44 : zD 91 44 = some (.aload_n 0, 1, none) := by decide +kernel
theorem k_91_45 : zD 91 45 = some (.getfield 40, 3, none) ∧ zFl (zOn 91) 40 = some (7, 2) ∧ zFc 7 2 = some 3 := by decide +kernel
theorem k_91_48 : zD 91 48 = some (.iload_n 3, 1, none) := by decide +kernel
theorem k_91_49 : zD 91 49 = some (.invokevirtual 228, 3, none) ∧ zCk (zOn 91) 228 = some (0, 98) ∧ zNp 98 = 1 ∧ zML 98 = 2 ∧ zCo[2]? = some (zOn 98) ∧ (zRt 98 = some .int ∨ zRt 98 = some .boolean ∨ zRt 98 = some .char ∨ zRt 98 = some .byte) := by decide +kernel
theorem kd_91_52 : zD 91 52 = some (.ireturn, 1, some [false, false, false, false]) := k_91_52
theorem ml_99 : zML 99 = 2 := by decide +kernel
theorem rt_99 : zRt 99 = some .int := by decide +kernel
theorem k_99_0 : zD 99 0 = some (.iload_n 1, 1, none) := by decide +kernel
theorem k_99_1 : zD 99 1 = some (.iconst (1), 1, none) := by decide +kernel
theorem k_99_2 : zD 99 2 = some (.if_icmp .lt (24), 3, none) ∧ zTg 2 (24) = some 26 := by decide +kernel
theorem k_99_26 : zD 99 26 = some (.ldc 86, 2, some [false, false]) ∧ zKc (zOn 99) 86 = some (.inl (-1000000002)) := by decide +kernel
theorem k_99_28 : zD 99 28 = some (.ireturn, 1, some [false, false]) := by decide +kernel
theorem k_99_5 : zD 99 5 = some (.iload_n 1, 1, none) := by decide +kernel
theorem k_99_6 : zD 99 6 = some (.bipush (6), 2, none) := by decide +kernel
theorem k_99_8 : zD 99 8 = some (.if_icmp .gt (18), 3, none) ∧ zTg 8 (18) = some 26 := by decide +kernel
theorem k_99_11 : zD 99 11 = some (.aload_n 0, 1, none) := by decide +kernel
theorem k_99_12 : zD 99 12 = some (.getfield 47, 3, none) ∧ zFl (zOn 99) 47 = some (7, 3) ∧ zFc 7 3 = some 3 := by decide +kernel
theorem k_99_15 : zD 99 15 = some (.aload_n 0, 1, none) := by decide +kernel
theorem k_99_16 : zD 99 16 = some (.getfield 19, 3, none) ∧ zFl (zOn 99) 19 = some (7, 8) ∧ zFc 7 8 = some 4 := by decide +kernel
theorem k_99_19 : zD 99 19 = some (.iload_n 1, 1, none) := by decide +kernel
theorem k_99_20 : zD 99 20 = some (.invokevirtual 231, 3, none) ∧ zCk (zOn 99) 231 = some (0, 100) ∧ zNp 100 = 2 ∧ zML 100 = 4 ∧ zCo[1]? = some (zOn 100) ∧ (zRt 100 = some .int ∨ zRt 100 = some .boolean ∨ zRt 100 = some .char ∨ zRt 100 = some .byte) := by decide +kernel
theorem k_99_23 : zD 99 23 = some (.goto (5), 3, none) ∧ zTg 23 (5) = some 28 := by decide +kernel
theorem kd_99_26 : zD 99 26 = some (.ldc 86, 2, some [false, false]) := k_99_26.1
theorem kd_99_28 : zD 99 28 = some (.ireturn, 1, some [false, false]) := k_99_28
theorem ml_105 : zML 105 = 4 := by decide +kernel
theorem rt_105 : zRt 105 = some .int := by decide +kernel
theorem k_105_0 : zD 105 0 = some (.aload_n 0, 1, none) := by decide +kernel
theorem k_105_1 : zD 105 1 = some (.iload_n 1, 1, none) := by decide +kernel
theorem k_105_2 : zD 105 2 = some (.iload_n 2, 1, none) := by decide +kernel
theorem k_105_3 : zD 105 3 = some (.invokevirtual 163, 3, none) ∧ zCk (zOn 105) 163 = some (0, 61) ∧ zNp 61 = 2 ∧ zML 61 = 3 ∧ zCo[7]? = some (zOn 61) ∧ (zRt 61 = some .int ∨ zRt 61 = some .boolean ∨ zRt 61 = some .char ∨ zRt 61 = some .byte) := by decide +kernel
theorem k_105_6 : zD 105 6 = some (.ifCond .eq (21), 3, none) ∧ zTg 6 (21) = some 27 := by decide +kernel
theorem k_105_27 : zD 105 27 = some (.ldc 129, 2, some [false, false, false, false]) ∧ zKc (zOn 105) 129 = some (.inl (-1000000001)) := by decide +kernel
theorem k_105_29 : zD 105 29 = some (.ireturn, 1, none) := by decide +kernel
theorem k_105_9 : zD 105 9 = some (.aload_n 0, 1, none) := by decide +kernel
theorem k_105_10 : zD 105 10 = some (.iload_n 1, 1, none) := by decide +kernel
theorem k_105_11 : zD 105 11 = some (.iload_n 3, 1, none) := by decide +kernel
theorem k_105_12 : zD 105 12 = some (.invokevirtual 163, 3, none) ∧ zCk (zOn 105) 163 = some (0, 61) ∧ zNp 61 = 2 ∧ zML 61 = 3 ∧ zCo[7]? = some (zOn 61) ∧ (zRt 61 = some .int ∨ zRt 61 = some .boolean ∨ zRt 61 = some .char ∨ zRt 61 = some .byte) := by decide +kernel
theorem k_105_15 : zD 105 15 = some (.ifCond .eq (12), 3, none) ∧ zTg 15 (12) = some 27 := by decide +kernel
theorem k_105_18 : zD 105 18 = some (.aload_n 0, 1, none) := by decide +kernel
theorem k_105_19 : zD 105 19 = some (.iload_n 2, 1, none) := by decide +kernel
theorem k_105_20 : zD 105 20 = some (.iload_n 3, 1, none) := by decide +kernel
theorem k_105_21 : zD 105 21 = some (.invokevirtual 163, 3, none) ∧ zCk (zOn 105) 163 = some (0, 61) ∧ zNp 61 = 2 ∧ zML 61 = 3 ∧ zCo[7]? = some (zOn 61) ∧ (zRt 61 = some .int ∨ zRt 61 = some .boolean ∨ zRt 61 = some .char ∨ zRt 61 = some .byte) := by decide +kernel
theorem k_105_24 : zD 105 24 = some (.ifCond .ne (6), 3, none) ∧ zTg 24 (6) = some 30 := by decide +kernel
theorem k_105_30 : zD 105 30 = some (.aload_n 0, 1, none) := by decide +kernel
theorem k_105_31 : zD 105 31 = some (.getfield 61, 3, none) ∧ zFl (zOn 105) 61 = some (7, 5) ∧ zFc 7 5 = some 3 := by decide +kernel
theorem k_105_34 : zD 105 34 = some (.aload_n 0, 1, none) := by decide +kernel
theorem k_105_35 : zD 105 35 = some (.getfield 19, 3, none) ∧ zFl (zOn 105) 19 = some (7, 8) ∧ zFc 7 8 = some 4 := by decide +kernel
theorem k_105_38 : zD 105 38 = some (.iload_n 1, 1, none) := by decide +kernel
theorem k_105_39 : zD 105 39 = some (.iload_n 2, 1, none) := by decide +kernel
theorem k_105_40 : zD 105 40 = some (.invokevirtual 177, 3, none) ∧ zCk (zOn 105) 177 = some (0, 65) ∧ zNp 65 = 3 ∧ zML 65 = 4 ∧ zCo[4]? = some (zOn 65) ∧ (zRt 65 = some .int ∨ zRt 65 = some .boolean ∨ zRt 65 = some .char ∨ zRt 65 = some .byte) := by decide +kernel
theorem k_105_43 : zD 105 43 = some (.aload_n 0, 1, none) := by decide +kernel
theorem k_105_44 : zD 105 44 = some (.getfield 61, 3, none) ∧ zFl (zOn 105) 61 = some (7, 5) ∧ zFc 7 5 = some 3 := by decide +kernel
theorem k_105_47 : zD 105 47 = some (.aload_n 0, 1, none) := by decide +kernel
theorem k_105_48 : zD 105 48 = some (.getfield 19, 3, none) ∧ zFl (zOn 105) 19 = some (7, 8) ∧ zFc 7 8 = some 4 := by decide +kernel
theorem k_105_51 : zD 105 51 = some (.iload_n 1, 1, none) := by decide +kernel
theorem k_105_52 : zD 105 52 = some (.iload_n 3, 1, none) := by decide +kernel
theorem k_105_53 : zD 105 53 = some (.invokevirtual 177, 3, none) ∧ zCk (zOn 105) 177 = some (0, 65) ∧ zNp 65 = 3 ∧ zML 65 = 4 ∧ zCo[4]? = some (zOn 65) ∧ (zRt 65 = some .int ∨ zRt 65 = some .boolean ∨ zRt 65 = some .char ∨ zRt 65 = some .byte) := by decide +kernel
theorem k_105_56 : zD 105 56 = some (.iand, 1, none) := by decide +kernel
theorem k_105_57 : zD 105 57 = some (.ireturn, 1, none) := by decide +kernel
theorem kd_105_27 : zD 105 27 = some (.ldc 129, 2, some [false, false, false, false]) := k_105_27.1
theorem ml_106 : zML 106 = 3 := by decide +kernel
theorem rt_106 : zRt 106 = some .int := by decide +kernel
theorem k_106_0 : zD 106 0 = some (.aload_n 0, 1, none) := by decide +kernel
theorem k_106_1 : zD 106 1 = some (.iload_n 1, 1, none) := by decide +kernel
theorem k_106_2 : zD 106 2 = some (.invokevirtual 141, 3, none) ∧ zCk (zOn 106) 141 = some (0, 55) ∧ zNp 55 = 1 ∧ zML 55 = 2 ∧ zCo[7]? = some (zOn 55) ∧ (zRt 55 = some .int ∨ zRt 55 = some .boolean ∨ zRt 55 = some .char ∨ zRt 55 = some .byte) := by decide +kernel
theorem k_106_5 : zD 106 5 = some (.ifCond .eq (22), 3, none) ∧ zTg 5 (22) = some 27 := by decide +kernel
theorem k_106_27 : zD 106 27 = some (.ldc 129, 2, none) ∧ zKc (zOn 106) 129 = some (.inl (-1000000001)) := by decide +kernel
theorem k_106_29 : zD 106 29 = some (.ireturn, 1, some [false, false, false]) := by decide +kernel
theorem k_106_8 : zD 106 8 = some (.aload_n 0, 1, none) := by decide +kernel
theorem k_106_9 : zD 106 9 = some (.getfield 61, 3, none) ∧ zFl (zOn 106) 61 = some (7, 5) ∧ zFc 7 5 = some 3 := by decide +kernel
theorem k_106_12 : zD 106 12 = some (.aload_n 0, 1, none) := by decide +kernel
theorem k_106_13 : zD 106 13 = some (.getfield 19, 3, none) ∧ zFl (zOn 106) 19 = some (7, 8) ∧ zFc 7 8 = some 4 := by decide +kernel
theorem k_106_16 : zD 106 16 = some (.iload_n 1, 1, none) := by decide +kernel
theorem k_106_17 : zD 106 17 = some (.invokevirtual 234, 3, none) ∧ zCk (zOn 106) 234 = some (0, 107) ∧ zNp 107 = 2 ∧ zML 107 = 8 ∧ zCo[4]? = some (zOn 107) ∧ zRt 107 = some .long := by decide +kernel
theorem k_106_20 : zD 106 20 = some (.iload_n 2, 1, none) := by decide +kernel
theorem k_106_21 : zD 106 21 = some (.invokestatic 171, 3, none) ∧ zAt.lookup (zOn 106, 171) = none ∧ zCk (zOn 106) 171 = some (1, 63) ∧ (1 = 1 ∨ 1 = 3) ∧ zNp 63 = 2 ∧ zML 63 = 5 ∧ (zRt 63 = some .int ∨ zRt 63 = some .boolean ∨ zRt 63 = some .char ∨ zRt 63 = some .byte) := by decide +kernel
theorem k_106_24 : zD 106 24 = some (.goto (5), 3, none) ∧ zTg 24 (5) = some 29 := by decide +kernel
theorem kd_106_29 : zD 106 29 = some (.ireturn, 1, some [false, false, false]) := k_106_29
theorem ml_109 : zML 109 = 5 := by decide +kernel
theorem rt_109 : zRt 109 = some .int := by decide +kernel
theorem k_109_0 : zD 109 0 = some (.iconst (-1), 1, none) := by decide +kernel
theorem k_109_1 : zD 109 1 = some (.istore_n 1, 1, none) := by decide +kernel
theorem k_109_2 : zD 109 2 = some (.iconst (0), 1, none) := by decide +kernel
theorem k_109_3 : zD 109 3 = some (.istore_n 2, 1, none) := by decide +kernel
theorem k_109_4 : zD 109 4 = some (.iconst (0), 1, none) := by decide +kernel
theorem k_109_5 : zD 109 5 = some (.istore_n 3, 1, none) := by decide +kernel
theorem k_109_6 : zD 109 6 = some (.iload_n 3, 1, some [true, true, true, true, false]) := by decide +kernel
theorem k_109_7 : zD 109 7 = some (.aload_n 0, 1, none) := by decide +kernel
theorem k_109_8 : zD 109 8 = some (.getfield 19, 3, none) ∧ zFl (zOn 109) 19 = some (7, 8) ∧ zFc 7 8 = some 4 := by decide +kernel
theorem k_109_11 : zD 109 11 = some (.getfield 103, 3, none) ∧ zFl (zOn 109) 103 = some (6, 1) ∧ zFc 6 1 = some 0 := by decide +kernel
theorem k_109_14 : zD 109 14 = some (.if_icmp .ge (39), 3, none) ∧ zTg 14 (39) = some 53 := by decide +kernel
theorem k_109_17 : zD 109 17 = some (.aload_n 0, 1, none) := by decide +kernel
theorem k_109_18 : zD 109 18 = some (.getfield 61, 3, none) ∧ zFl (zOn 109) 61 = some (7, 5) ∧ zFc 7 5 = some 3 := by decide +kernel
theorem k_109_21 : zD 109 21 = some (.aload_n 0, 1, none) := by decide +kernel
theorem k_109_22 : zD 109 22 = some (.getfield 19, 3, none) ∧ zFl (zOn 109) 19 = some (7, 8) ∧ zFc 7 8 = some 4 := by decide +kernel
theorem k_109_25 : zD 109 25 = some (.iload_n 3, 1, none) := by decide +kernel
theorem k_109_26 : zD 109 26 = some (.invokevirtual 238, 3, none) ∧ zCk (zOn 109) 238 = some (0, 110) ∧ zNp 110 = 2 ∧ zML 110 = 5 ∧ zCo[4]? = some (zOn 110) ∧ (zRt 110 = some .int ∨ zRt 110 = some .boolean ∨ zRt 110 = some .char ∨ zRt 110 = some .byte) := by decide +kernel
theorem k_109_29 : zD 109 29 = some (.istore 4, 2, none) := by decide +kernel
theorem k_109_31 : zD 109 31 = some (.iload_n 1, 1, none) := by decide +kernel
theorem k_109_32 : zD 109 32 = some (.iconst (-1), 1, none) := by decide +kernel
theorem k_109_33 : zD 109 33 = some (.if_icmp .eq (9), 3, none) ∧ zTg 33 (9) = some 42 := by decide +kernel
theorem k_109_42 : zD 109 42 = some (.iload_n 3, 1, some [true, false, false, true, true]) := by decide +kernel
theorem k_109_43 : zD 109 43 = some (.istore_n 1, 1, none) := by decide +kernel
theorem k_109_44 : zD 109 44 = some (.iload 4, 2, none) := by decide +kernel
theorem k_109_46 : zD 109 46 = some (.istore_n 2, 1, none) := by decide +kernel
theorem k_109_47 : zD 109 47 = some (.iinc 3 (1), 3, some [true, true, true, true, false]) := by decide +kernel
theorem k_109_50 : zD 109 50 = some (.goto (-44), 3, none) ∧ zTg 50 (-44) = some 6 := by decide +kernel
theorem k_109_36 : zD 109 36 = some (.iload 4, 2, none) := by decide +kernel
theorem k_109_38 : zD 109 38 = some (.iload_n 2, 1, none) := by decide +kernel
theorem k_109_39 : zD 109 39 = some (.if_icmp .ge (8), 3, none) ∧ zTg 39 (8) = some 47 := by decide +kernel
theorem k_109_53 : zD 109 53 = some (.iload_n 1, 1, none) := by decide +kernel
theorem k_109_54 : zD 109 54 = some (.ireturn, 1, none) := by decide +kernel
theorem kd_109_6 : zD 109 6 = some (.iload_n 3, 1, some [true, true, true, true, false]) := k_109_6
theorem kd_109_42 : zD 109 42 = some (.iload_n 3, 1, some [true, false, false, true, true]) := k_109_42
theorem kd_109_47 : zD 109 47 = some (.iinc 3 (1), 3, some [true, true, true, true, false]) := k_109_47
theorem ml_111 : zML 111 = 3 := by decide +kernel
theorem rt_111 : zRt 111 = some .int := by decide +kernel
theorem k_111_0 : zD 111 0 = some (.iload_n 2, 1, none) := by decide +kernel
theorem k_111_1 : zD 111 1 = some (.ifCond .lt (8), 3, none) ∧ zTg 1 (8) = some 9 := by decide +kernel
theorem k_111_9 : zD 111 9 = some (.ldc 86, 2, some [false, false, false]) ∧ zKc (zOn 111) 86 = some (.inl (-1000000002)) := by decide +kernel
theorem k_111_11 : zD 111 11 = some (.ireturn, 1, none) := by decide +kernel
theorem k_111_4 : zD 111 4 = some (.iload_n 2, 1, none) := by decide +kernel
theorem k_111_5 : zD 111 5 = some (.iconst (5), 1, none) := by decide +kernel
theorem k_111_6 : zD 111 6 = some (.if_icmp .lt (6), 3, none) ∧ zTg 6 (6) = some 12 := by decide +kernel
theorem k_111_12 : zD 111 12 = some (.iload_n 1, 1, none) := by decide +kernel
theorem k_111_13 : zD 111 13 = some (.ifCond .lt (30), 3, none) ∧ zTg 13 (30) = some 43 := by decide +kernel
theorem k_111_43 : zD 111 43 = some (.iconst (-1), 1, some [false, false, false]) := by decide +kernel
theorem k_111_44 : zD 111 44 = some (.ireturn, 1, some [false, false, false]) := by decide +kernel
theorem k_111_16 : zD 111 16 = some (.iload_n 1, 1, none) := by decide +kernel
theorem k_111_17 : zD 111 17 = some (.aload_n 0, 1, none) := by decide +kernel
theorem k_111_18 : zD 111 18 = some (.getfield 61, 3, none) ∧ zFl (zOn 111) 61 = some (7, 5) ∧ zFc 7 5 = some 3 := by decide +kernel
theorem k_111_21 : zD 111 21 = some (.getfield 112, 3, none) ∧ zFl (zOn 111) 112 = some (4, 5) ∧ zFc 4 5 = some 0 := by decide +kernel
theorem k_111_24 : zD 111 24 = some (.if_icmp .ge (19), 3, none) ∧ zTg 24 (19) = some 43 := by decide +kernel
theorem k_111_27 : zD 111 27 = some (.aload_n 0, 1, none) := by decide +kernel
theorem k_111_28 : zD 111 28 = some (.getfield 61, 3, none) ∧ zFl (zOn 111) 61 = some (7, 5) ∧ zFc 7 5 = some 3 := by decide +kernel
theorem k_111_31 : zD 111 31 = some (.getfield 241, 3, none) ∧ zFl (zOn 111) 241 = some (4, 4) ∧ zFc 4 4 = some 3 := by decide +kernel
theorem k_111_34 : zD 111 34 = some (.iload_n 1, 1, none) := by decide +kernel
theorem k_111_35 : zD 111 35 = some (.iconst (5), 1, none) := by decide +kernel
theorem k_111_36 : zD 111 36 = some (.imul, 1, none) := by decide +kernel
theorem k_111_37 : zD 111 37 = some (.iload_n 2, 1, none) := by decide +kernel
theorem k_111_38 : zD 111 38 = some (.iadd, 1, none) := by decide +kernel
theorem k_111_39 : zD 111 39 = some (.iaload, 1, none) := by decide +kernel
theorem k_111_40 : zD 111 40 = some (.goto (4), 3, none) ∧ zTg 40 (4) = some 44 := by decide +kernel
theorem kd_111_9 : zD 111 9 = some (.ldc 86, 2, some [false, false, false]) := k_111_9.1
theorem kd_111_43 : zD 111 43 = some (.iconst (-1), 1, some [false, false, false]) := k_111_43
theorem kd_111_44 : zD 111 44 = some (.ireturn, 1, some [false, false, false]) := k_111_44
theorem ml_112 : zML 112 = 4 := by decide +kernel
theorem rt_112 : zRt 112 = some .int := by decide +kernel
theorem k_112_0 : zD 112 0 = some (.aload_n 0, 1, none) := by decide +kernel
theorem k_112_1 : zD 112 1 = some (.iload_n 1, 1, none) := by decide +kernel
theorem k_112_2 : zD 112 2 = some (.iload_n 2, 1, none) := by decide +kernel
theorem k_112_3 : zD 112 3 = some (.invokevirtual 163, 3, none) ∧ zCk (zOn 112) 163 = some (0, 61) ∧ zNp 61 = 2 ∧ zML 61 = 3 ∧ zCo[7]? = some (zOn 61) ∧ (zRt 61 = some .int ∨ zRt 61 = some .boolean ∨ zRt 61 = some .char ∨ zRt 61 = some .byte) := by decide +kernel
theorem k_112_6 : zD 112 6 = some (.ifCond .eq (11), 3, none) ∧ zTg 6 (11) = some 17 := by decide +kernel
theorem k_112_17 : zD 112 17 = some (.ldc 129, 2, some [false, false, false, false]) ∧ zKc (zOn 112) 129 = some (.inl (-1000000001)) := by decide +kernel
theorem k_112_19 : zD 112 19 = some (.ireturn, 1, none) := by decide +kernel
theorem k_112_9 : zD 112 9 = some (.aload_n 0, 1, none) := by decide +kernel
theorem k_112_10 : zD 112 10 = some (.iload_n 3, 1, none) := by decide +kernel
theorem k_112_11 : zD 112 11 = some (.invokevirtual 125, 3, none) ∧ zCk (zOn 112) 125 = some (0, 52) ∧ zNp 52 = 1 ∧ zML 52 = 2 ∧ zCo[7]? = some (zOn 52) ∧ (zRt 52 = some .int ∨ zRt 52 = some .boolean ∨ zRt 52 = some .char ∨ zRt 52 = some .byte) := by decide +kernel
theorem k_112_14 : zD 112 14 = some (.ifCond .ne (6), 3, none) ∧ zTg 14 (6) = some 20 := by decide +kernel
theorem k_112_20 : zD 112 20 = some (.aload_n 0, 1, none) := by decide +kernel
theorem k_112_21 : zD 112 21 = some (.getfield 54, 3, none) ∧ zFl (zOn 112) 54 = some (7, 4) ∧ zFc 7 4 = some 3 := by decide +kernel
theorem k_112_24 : zD 112 24 = some (.iload_n 1, 1, none) := by decide +kernel
theorem k_112_25 : zD 112 25 = some (.iload_n 2, 1, none) := by decide +kernel
theorem k_112_26 : zD 112 26 = some (.iload_n 3, 1, none) := by decide +kernel
theorem k_112_27 : zD 112 27 = some (.invokevirtual 244, 3, none) ∧ zCk (zOn 112) 244 = some (0, 113) ∧ zNp 113 = 3 ∧ zML 113 = 4 ∧ zCo[0]? = some (zOn 113) ∧ (zRt 113 = some .int ∨ zRt 113 = some .boolean ∨ zRt 113 = some .char ∨ zRt 113 = some .byte) := by decide +kernel
theorem k_112_30 : zD 112 30 = some (.ifCond .eq (13), 3, none) ∧ zTg 30 (13) = some 43 := by decide +kernel
theorem k_112_43 : zD 112 43 = some (.ldc 94, 2, none) ∧ zKc (zOn 112) 94 = some (.inl (-1000000004)) := by decide +kernel
theorem k_112_45 : zD 112 45 = some (.ireturn, 1, some [false, false, false, false]) := by decide +kernel
theorem k_112_33 : zD 112 33 = some (.aload_n 0, 1, none) := by decide +kernel
theorem k_112_34 : zD 112 34 = some (.getfield 54, 3, none) ∧ zFl (zOn 112) 54 = some (7, 4) ∧ zFc 7 4 = some 3 := by decide +kernel
theorem k_112_37 : zD 112 37 = some (.getfield 100, 3, none) ∧ zFl (zOn 112) 100 = some (0, 4) ∧ zFc 0 4 = some 0 := by decide +kernel
theorem k_112_40 : zD 112 40 = some (.goto (5), 3, none) ∧ zTg 40 (5) = some 45 := by decide +kernel
theorem kd_112_17 : zD 112 17 = some (.ldc 129, 2, some [false, false, false, false]) := k_112_17.1
theorem kd_112_45 : zD 112 45 = some (.ireturn, 1, some [false, false, false, false]) := k_112_45
theorem ml_114 : zML 114 = 2 := by decide +kernel
theorem rt_114 : zRt 114 = some .int := by decide +kernel
theorem k_114_0 : zD 114 0 = some (.aload_n 0, 1, none) := by decide +kernel
theorem k_114_1 : zD 114 1 = some (.getfield 54, 3, none) ∧ zFl (zOn 114) 54 = some (7, 4) ∧ zFc 7 4 = some 3 := by decide +kernel
theorem k_114_4 : zD 114 4 = some (.getfield 100, 3, none) ∧ zFl (zOn 114) 100 = some (0, 4) ∧ zFc 0 4 = some 0 := by decide +kernel
theorem k_114_7 : zD 114 7 = some (.istore_n 1, 1, none) := by decide +kernel
theorem k_114_8 : zD 114 8 = some (.aload_n 0, 1, none) := by decide +kernel
theorem k_114_9 : zD 114 9 = some (.getfield 54, 3, none) ∧ zFl (zOn 114) 54 = some (7, 4) ∧ zFc 7 4 = some 3 := by decide +kernel
theorem k_114_12 : zD 114 12 = some (.iconst (0), 1, none) := by decide +kernel
theorem k_114_13 : zD 114 13 = some (.putfield 100, 3, none) ∧ zFl (zOn 114) 100 = some (0, 4) ∧ zFc 0 4 = some 0 := by decide +kernel
theorem k_114_16 : zD 114 16 = some (.iload_n 1, 1, none) := by decide +kernel
theorem k_114_17 : zD 114 17 = some (.ireturn, 1, none) := by decide +kernel
theorem ml_115 : zML 115 = 1 := by decide +kernel
theorem rt_115 : zRt 115 = some .int := by decide +kernel
theorem k_115_0 : zD 115 0 = some (.aload_n 0, 1, none) := by decide +kernel
theorem k_115_1 : zD 115 1 = some (.getfield 54, 3, none) ∧ zFl (zOn 115) 54 = some (7, 4) ∧ zFc 7 4 = some 3 := by decide +kernel
theorem k_115_4 : zD 115 4 = some (.aload_n 0, 1, none) := by decide +kernel
theorem k_115_5 : zD 115 5 = some (.getfield 19, 3, none) ∧ zFl (zOn 115) 19 = some (7, 8) ∧ zFc 7 8 = some 4 := by decide +kernel
theorem k_115_8 : zD 115 8 = some (.aload_n 0, 1, none) := by decide +kernel
theorem k_115_9 : zD 115 9 = some (.getfield 61, 3, none) ∧ zFl (zOn 115) 61 = some (7, 5) ∧ zFc 7 5 = some 3 := by decide +kernel
theorem k_115_12 : zD 115 12 = some (.invokevirtual 247, 3, none) ∧ zCk (zOn 115) 247 = some (0, 116) ∧ zNp 116 = 2 ∧ zML 116 = 6 ∧ zCo[0]? = some (zOn 116) ∧ (zRt 116 = some .int ∨ zRt 116 = some .boolean ∨ zRt 116 = some .char ∨ zRt 116 = some .byte) := by decide +kernel
theorem k_115_15 : zD 115 15 = some (.ireturn, 1, none) := by decide +kernel
theorem ml_117 : zML 117 = 5 := by decide +kernel
theorem rt_117 : zRt 117 = some .int := by decide +kernel
theorem k_117_0 : zD 117 0 = some (.iload_n 1, 1, none) := by decide +kernel
theorem k_117_1 : zD 117 1 = some (.iconst (1), 1, none) := by decide +kernel
theorem k_117_2 : zD 117 2 = some (.if_icmp .lt (19), 3, none) ∧ zTg 2 (19) = some 21 := by decide +kernel
theorem k_117_21 : zD 117 21 = some (.ldc 86, 2, some [false, false, false, false, false]) ∧ zKc (zOn 117) 86 = some (.inl (-1000000002)) := by decide +kernel
theorem k_117_23 : zD 117 23 = some (.ireturn, 1, none) := by decide +kernel
theorem k_117_5 : zD 117 5 = some (.iload_n 1, 1, none) := by decide +kernel
theorem k_117_6 : zD 117 6 = some (.bipush (99), 2, none) := by decide +kernel
theorem k_117_8 : zD 117 8 = some (.if_icmp .gt (13), 3, none) ∧ zTg 8 (13) = some 21 := by decide +kernel
theorem k_117_11 : zD 117 11 = some (.iload_n 2, 1, none) := by decide +kernel
theorem k_117_12 : zD 117 12 = some (.ifCond .lt (9), 3, none) ∧ zTg 12 (9) = some 21 := by decide +kernel
theorem k_117_15 : zD 117 15 = some (.iload_n 2, 1, none) := by decide +kernel
theorem k_117_16 : zD 117 16 = some (.ldc 251, 2, none) ∧ zKc (zOn 117) 251 = some (.inl 1000000) := by decide +kernel
theorem k_117_18 : zD 117 18 = some (.if_icmp .le (6), 3, none) ∧ zTg 18 (6) = some 24 := by decide +kernel
theorem k_117_24 : zD 117 24 = some (.aload_n 0, 1, none) := by decide +kernel
theorem k_117_25 : zD 117 25 = some (.getfield 19, 3, none) ∧ zFl (zOn 117) 19 = some (7, 8) ∧ zFc 7 8 = some 4 := by decide +kernel
theorem k_117_28 : zD 117 28 = some (.getfield 103, 3, none) ∧ zFl (zOn 117) 103 = some (6, 1) ∧ zFc 6 1 = some 0 := by decide +kernel
theorem k_117_31 : zD 117 31 = some (.iconst (2), 1, none) := by decide +kernel
theorem k_117_32 : zD 117 32 = some (.if_icmp .ge (6), 3, none) ∧ zTg 32 (6) = some 38 := by decide +kernel
theorem k_117_35 : zD 117 35 = some (.ldc 204, 2, none) ∧ zKc (zOn 117) 204 = some (.inl (-1000000003)) := by decide +kernel
theorem k_117_37 : zD 117 37 = some (.ireturn, 1, none) := by decide +kernel
theorem k_117_38 : zD 117 38 = some (.iconst (0), 1, none) := by decide +kernel
theorem k_117_39 : zD 117 39 = some (.istore_n 3, 1, none) := by decide +kernel
theorem k_117_40 : zD 117 40 = some (.iconst (0), 1, none) := by decide +kernel
theorem k_117_41 : zD 117 41 = some (.istore 4, 2, none) := by decide +kernel
theorem k_117_43 : zD 117 43 = some (.iload 4, 2, some [true, true, true, true, true]) := by decide +kernel
theorem k_117_45 : zD 117 45 = some (.iload_n 1, 1, none) := by decide +kernel
theorem k_117_46 : zD 117 46 = some (.if_icmp .ge (17), 3, none) ∧ zTg 46 (17) = some 63 := by decide +kernel
theorem k_117_49 : zD 117 49 = some (.iload_n 3, 1, none) := by decide +kernel
theorem k_117_50 : zD 117 50 = some (.aload_n 0, 1, none) := by decide +kernel
theorem k_117_51 : zD 117 51 = some (.iload_n 2, 1, none) := by decide +kernel
theorem k_117_52 : zD 117 52 = some (.invokevirtual 252, 3, none) ∧ zCk (zOn 117) 252 = some (0, 118) ∧ zNp 118 = 1 ∧ zML 118 = 5 ∧ zCo[7]? = some (zOn 118) ∧ (zRt 118 = some .int ∨ zRt 118 = some .boolean ∨ zRt 118 = some .char ∨ zRt 118 = some .byte) := by decide +kernel
theorem k_117_55 : zD 117 55 = some (.iadd, 1, none) := by decide +kernel
theorem k_117_56 : zD 117 56 = some (.istore_n 3, 1, none) := by decide +kernel
theorem k_117_57 : zD 117 57 = some (.iinc 4 (1), 3, none) := by decide +kernel
theorem k_117_60 : zD 117 60 = some (.goto (-17), 3, none) ∧ zTg 60 (-17) = some 43 := by decide +kernel
theorem k_117_63 : zD 117 63 = some (.iload_n 3, 1, none) := by decide +kernel
theorem k_117_64 : zD 117 64 = some (.ireturn, 1, none) := by decide +kernel
theorem kd_117_21 : zD 117 21 = some (.ldc 86, 2, some [false, false, false, false, false]) := k_117_21.1
theorem kd_117_43 : zD 117 43 = some (.iload 4, 2, some [true, true, true, true, true]) := k_117_43
theorem ml_118 : zML 118 = 5 := by decide +kernel
theorem rt_118 : zRt 118 = some .int := by decide +kernel
theorem k_118_0 : zD 118 0 = some (.aload_n 0, 1, none) := by decide +kernel
theorem k_118_1 : zD 118 1 = some (.getfield 61, 3, none) ∧ zFl (zOn 118) 61 = some (7, 5) ∧ zFc 7 5 = some 3 := by decide +kernel
theorem k_118_4 : zD 118 4 = some (.aload_n 0, 1, none) := by decide +kernel
theorem k_118_5 : zD 118 5 = some (.getfield 19, 3, none) ∧ zFl (zOn 118) 19 = some (7, 8) ∧ zFc 7 8 = some 4 := by decide +kernel
theorem k_118_8 : zD 118 8 = some (.getfield 103, 3, none) ∧ zFl (zOn 118) 103 = some (6, 1) ∧ zFc 6 1 = some 0 := by decide +kernel
theorem k_118_11 : zD 118 11 = some (.invokevirtual 255, 3, none) ∧ zCk (zOn 118) 255 = some (0, 119) ∧ zNp 119 = 1 ∧ zML 119 = 2 ∧ zCo[4]? = some (zOn 119) ∧ (zRt 119 = some .int ∨ zRt 119 = some .boolean ∨ zRt 119 = some .char ∨ zRt 119 = some .byte) := by decide +kernel
theorem k_118_14 : zD 118 14 = some (.istore_n 2, 1, none) := by decide +kernel
theorem k_118_15 : zD 118 15 = some (.aload_n 0, 1, none) := by decide +kernel
theorem k_118_16 : zD 118 16 = some (.getfield 61, 3, none) ∧ zFl (zOn 118) 61 = some (7, 5) ∧ zFc 7 5 = some 3 := by decide +kernel
theorem k_118_19 : zD 118 19 = some (.aload_n 0, 1, none) := by decide +kernel
theorem k_118_20 : zD 118 20 = some (.getfield 19, 3, none) ∧ zFl (zOn 118) 19 = some (7, 8) ∧ zFc 7 8 = some 4 := by decide +kernel
theorem k_118_23 : zD 118 23 = some (.getfield 103, 3, none) ∧ zFl (zOn 118) 103 = some (6, 1) ∧ zFc 6 1 = some 0 := by decide +kernel
theorem k_118_26 : zD 118 26 = some (.iconst (1), 1, none) := by decide +kernel
theorem k_118_27 : zD 118 27 = some (.isub, 1, none) := by decide +kernel
theorem k_118_28 : zD 118 28 = some (.invokevirtual 255, 3, none) ∧ zCk (zOn 118) 255 = some (0, 119) ∧ zNp 119 = 1 ∧ zML 119 = 2 ∧ zCo[4]? = some (zOn 119) ∧ (zRt 119 = some .int ∨ zRt 119 = some .boolean ∨ zRt 119 = some .char ∨ zRt 119 = some .byte) := by decide +kernel
theorem k_118_31 : zD 118 31 = some (.istore_n 3, 1, none) := by decide +kernel
theorem k_118_32 : zD 118 32 = some (.iload_n 3, 1, none) := by decide +kernel
theorem k_118_33 : zD 118 33 = some (.iload_n 2, 1, none) := by decide +kernel
theorem k_118_34 : zD 118 34 = some (.if_icmp .lt (6), 3, none) ∧ zTg 34 (6) = some 40 := by decide +kernel
theorem k_118_37 : zD 118 37 = some (.iinc 3 (1), 3, none) := by decide +kernel
theorem k_118_40 : zD 118 40 = some (.aload_n 0, 1, some [true, true, true, true, false]) := by decide +kernel
theorem k_118_41 : zD 118 41 = some (.getfield 61, 3, none) ∧ zFl (zOn 118) 61 = some (7, 5) ∧ zFc 7 5 = some 3 := by decide +kernel
theorem k_118_44 : zD 118 44 = some (.aload_n 0, 1, none) := by decide +kernel
theorem k_118_45 : zD 118 45 = some (.getfield 19, 3, none) ∧ zFl (zOn 118) 19 = some (7, 8) ∧ zFc 7 8 = some 4 := by decide +kernel
theorem k_118_48 : zD 118 48 = some (.iload_n 2, 1, none) := by decide +kernel
theorem k_118_49 : zD 118 49 = some (.iload_n 3, 1, none) := by decide +kernel
theorem k_118_50 : zD 118 50 = some (.invokevirtual 191, 3, none) ∧ zCk (zOn 118) 191 = some (0, 73) ∧ zNp 73 = 3 ∧ zML 73 = 7 ∧ zCo[4]? = some (zOn 73) ∧ (zRt 73 = some .int ∨ zRt 73 = some .boolean ∨ zRt 73 = some .char ∨ zRt 73 = some .byte) := by decide +kernel
theorem k_118_53 : zD 118 53 = some (.istore 4, 2, none) := by decide +kernel
theorem k_118_55 : zD 118 55 = some (.iload 4, 2, none) := by decide +kernel
theorem k_118_57 : zD 118 57 = some (.iconst (-1), 1, none) := by decide +kernel
theorem k_118_58 : zD 118 58 = some (.if_icmp .eq (35), 3, none) ∧ zTg 58 (35) = some 93 := by decide +kernel
theorem k_118_61 : zD 118 61 = some (.aload_n 0, 1, none) := by decide +kernel
theorem k_118_62 : zD 118 62 = some (.getfield 61, 3, none) ∧ zFl (zOn 118) 61 = some (7, 5) ∧ zFc 7 5 = some 3 := by decide +kernel
theorem k_118_65 : zD 118 65 = some (.iload_n 2, 1, none) := by decide +kernel
theorem k_118_66 : zD 118 66 = some (.iload_n 3, 1, none) := by decide +kernel
theorem k_118_67 : zD 118 67 = some (.iload 4, 2, none) := by decide +kernel
theorem k_118_69 : zD 118 69 = some (.invokevirtual 187, 3, none) ∧ zCk (zOn 118) 187 = some (0, 71) ∧ zNp 71 = 3 ∧ zML 71 = 7 ∧ zCo[4]? = some (zOn 71) ∧ (zRt 71 = some .int ∨ zRt 71 = some .boolean ∨ zRt 71 = some .char ∨ zRt 71 = some .byte) := by decide +kernel
theorem k_118_72 : zD 118 72 = some (.iload_n 1, 1, none) := by decide +kernel
theorem k_118_73 : zD 118 73 = some (.if_icmp .lt (20), 3, none) ∧ zTg 73 (20) = some 93 := by decide +kernel
theorem k_118_76 : zD 118 76 = some (.aload_n 0, 1, none) := by decide +kernel
theorem k_118_77 : zD 118 77 = some (.getfield 61, 3, none) ∧ zFl (zOn 118) 61 = some (7, 5) ∧ zFc 7 5 = some 3 := by decide +kernel
theorem k_118_80 : zD 118 80 = some (.aload_n 0, 1, none) := by decide +kernel
theorem k_118_81 : zD 118 81 = some (.getfield 19, 3, none) ∧ zFl (zOn 118) 19 = some (7, 8) ∧ zFc 7 8 = some 4 := by decide +kernel
theorem k_118_84 : zD 118 84 = some (.iload_n 2, 1, none) := by decide +kernel
theorem k_118_85 : zD 118 85 = some (.iload_n 3, 1, none) := by decide +kernel
theorem k_118_86 : zD 118 86 = some (.iload 4, 2, none) := by decide +kernel
theorem k_118_88 : zD 118 88 = some (.iconst (0), 1, none) := by decide +kernel
theorem k_118_89 : zD 118 89 = some (.invokevirtual 200, 3, none) ∧ zCk (zOn 118) 200 = some (0, 77) ∧ zNp 77 = 5 ∧ zML 77 = 8 ∧ zCo[4]? = some (zOn 77) ∧ (zRt 77 = some .int ∨ zRt 77 = some .boolean ∨ zRt 77 = some .char ∨ zRt 77 = some .byte) := by decide +kernel
theorem k_118_92 : zD 118 92 = some (.ireturn, 1, none) := by decide +kernel
theorem k_118_93 : zD 118 93 = some (.aload_n 0, 1, some [true, false, true, true, false]) := by decide +kernel
theorem k_118_94 : zD 118 94 = some (.getfield 61, 3, none) ∧ zFl (zOn 118) 61 = some (7, 5) ∧ zFc 7 5 = some 3 := by decide +kernel
theorem k_118_97 : zD 118 97 = some (.aload_n 0, 1, none) := by decide +kernel
theorem k_118_98 : zD 118 98 = some (.getfield 19, 3, none) ∧ zFl (zOn 118) 19 = some (7, 8) ∧ zFc 7 8 = some 4 := by decide +kernel
theorem k_118_101 : zD 118 101 = some (.iload_n 2, 1, none) := by decide +kernel
theorem k_118_102 : zD 118 102 = some (.iload_n 3, 1, none) := by decide +kernel
theorem k_118_103 : zD 118 103 = some (.invokevirtual 205, 3, none) ∧ zCk (zOn 118) 205 = some (0, 84) ∧ zNp 84 = 3 ∧ zML 84 = 9 ∧ zCo[4]? = some (zOn 84) ∧ (zRt 84 = some .int ∨ zRt 84 = some .boolean ∨ zRt 84 = some .char ∨ zRt 84 = some .byte) := by decide +kernel
theorem k_118_106 : zD 118 106 = some (.pop, 1, none) := by decide +kernel
theorem k_118_107 : zD 118 107 = some (.iconst (0), 1, none) := by decide +kernel
theorem k_118_108 : zD 118 108 = some (.ireturn, 1, none) := by decide +kernel
theorem kd_118_40 : zD 118 40 = some (.aload_n 0, 1, some [true, true, true, true, false]) := k_118_40
theorem kd_118_93 : zD 118 93 = some (.aload_n 0, 1, some [true, false, true, true, false]) := k_118_93
theorem ml_120 : zML 120 = 3 := by decide +kernel
theorem rt_120 : zRt 120 = some .int := by decide +kernel
theorem k_120_0 : zD 120 0 = some (.iload_n 1, 1, none) := by decide +kernel
theorem k_120_1 : zD 120 1 = some (.ifCond .ge (6), 3, none) ∧ zTg 1 (6) = some 7 := by decide +kernel
theorem k_120_4 : zD 120 4 = some (.ldc 86, 2, none) ∧ zKc (zOn 120) 86 = some (.inl (-1000000002)) := by decide +kernel
theorem k_120_6 : zD 120 6 = some (.ireturn, 1, none) := by decide +kernel
theorem k_120_7 : zD 120 7 = some (.aload_n 0, 1, none) := by decide +kernel
theorem k_120_8 : zD 120 8 = some (.getfield 61, 3, none) ∧ zFl (zOn 120) 61 = some (7, 5) ∧ zFc 7 5 = some 3 := by decide +kernel
theorem k_120_11 : zD 120 11 = some (.getfield 258, 3, none) ∧ zFl (zOn 120) 258 = some (4, 6) ∧ zFc 4 6 = some 0 := by decide +kernel
theorem k_120_14 : zD 120 14 = some (.istore_n 2, 1, none) := by decide +kernel
theorem k_120_15 : zD 120 15 = some (.aload_n 0, 1, none) := by decide +kernel
theorem k_120_16 : zD 120 16 = some (.getfield 61, 3, none) ∧ zFl (zOn 120) 61 = some (7, 5) ∧ zFc 7 5 = some 3 := by decide +kernel
theorem k_120_19 : zD 120 19 = some (.iload_n 1, 1, none) := by decide +kernel
theorem k_120_20 : zD 120 20 = some (.putfield 258, 3, none) ∧ zFl (zOn 120) 258 = some (4, 6) ∧ zFc 4 6 = some 0 := by decide +kernel
theorem k_120_23 : zD 120 23 = some (.iload_n 2, 1, none) := by decide +kernel
theorem k_120_24 : zD 120 24 = some (.ireturn, 1, none) := by decide +kernel
theorem ml_121 : zML 121 = 2 := by decide +kernel
theorem rt_121 : zRt 121 = some .int := by decide +kernel
theorem k_121_0 : zD 121 0 = some (.aload_n 0, 1, none) := by decide +kernel
theorem k_121_1 : zD 121 1 = some (.iload_n 1, 1, none) := by decide +kernel
theorem k_121_2 : zD 121 2 = some (.invokevirtual 261, 3, none) ∧ zCk (zOn 121) 261 = some (0, 122) ∧ zNp 122 = 1 ∧ zML 122 = 2 ∧ zCo[7]? = some (zOn 122) ∧ (zRt 122 = some .int ∨ zRt 122 = some .boolean ∨ zRt 122 = some .char ∨ zRt 122 = some .byte) := by decide +kernel
theorem k_121_5 : zD 121 5 = some (.ifCond .ne (6), 3, none) ∧ zTg 5 (6) = some 11 := by decide +kernel
theorem k_121_8 : zD 121 8 = some (.ldc 129, 2, none) ∧ zKc (zOn 121) 129 = some (.inl (-1000000001)) := by decide +kernel
theorem k_121_10 : zD 121 10 = some (.ireturn, 1, none) := by decide +kernel
theorem k_121_11 : zD 121 11 = some (.aload_n 0, 1, none) := by decide +kernel
theorem k_121_12 : zD 121 12 = some (.getfield 65, 3, none) ∧ zFl (zOn 121) 65 = some (7, 6) ∧ zFc 7 6 = some 3 := by decide +kernel
theorem k_121_15 : zD 121 15 = some (.iload_n 1, 1, none) := by decide +kernel
theorem k_121_16 : zD 121 16 = some (.aaload, 1, none) := by decide +kernel
theorem k_121_17 : zD 121 17 = some (.aload_n 0, 1, none) := by decide +kernel
theorem k_121_18 : zD 121 18 = some (.getfield 61, 3, none) ∧ zFl (zOn 121) 61 = some (7, 5) ∧ zFc 7 5 = some 3 := by decide +kernel
theorem k_121_21 : zD 121 21 = some (.invokevirtual 264, 3, none) ∧ zCk (zOn 121) 264 = some (0, 123) ∧ zNp 123 = 1 ∧ zML 123 = 2 ∧ zCo[4]? = some (zOn 123) ∧ zRt 123 = none := by decide +kernel
theorem k_121_24 : zD 121 24 = some (.aload_n 0, 1, none) := by decide +kernel
theorem k_121_25 : zD 121 25 = some (.getfield 69, 3, none) ∧ zFl (zOn 121) 69 = some (7, 7) ∧ zFc 7 7 = some 3 := by decide +kernel
theorem k_121_28 : zD 121 28 = some (.iload_n 1, 1, none) := by decide +kernel
theorem k_121_29 : zD 121 29 = some (.iconst (1), 1, none) := by decide +kernel
theorem k_121_30 : zD 121 30 = some (.bastore, 1, none) := by decide +kernel
theorem k_121_31 : zD 121 31 = some (.iconst (1), 1, none) := by decide +kernel
theorem k_121_32 : zD 121 32 = some (.ireturn, 1, none) := by decide +kernel
theorem ml_122 : zML 122 = 2 := by decide +kernel
theorem rt_122 : zRt 122 = some .boolean := by decide +kernel
theorem k_122_0 : zD 122 0 = some (.iload_n 1, 1, none) := by decide +kernel
theorem k_122_1 : zD 122 1 = some (.ifCond .lt (12), 3, none) ∧ zTg 1 (12) = some 13 := by decide +kernel
theorem k_122_13 : zD 122 13 = some (.iconst (0), 1, some [false, false]) := by decide +kernel
theorem k_122_14 : zD 122 14 = some (.ireturn, 1, some [false, false]) := by decide +kernel
theorem k_122_4 : zD 122 4 = some (.iload_n 1, 1, none) := by decide +kernel
theorem k_122_5 : zD 122 5 = some (.iconst (2), 1, none) := by decide +kernel
theorem k_122_6 : zD 122 6 = some (.if_icmp .ge (7), 3, none) ∧ zTg 6 (7) = some 13 := by decide +kernel
theorem k_122_9 : zD 122 9 = some (.iconst (1), 1, none) := by decide +kernel
theorem k_122_10 : zD 122 10 = some (.goto (4), 3, none) ∧ zTg 10 (4) = some 14 := by decide +kernel
theorem kd_122_13 : zD 122 13 = some (.iconst (0), 1, some [false, false]) := k_122_13
theorem kd_122_14 : zD 122 14 = some (.ireturn, 1, some [false, false]) := k_122_14
theorem ml_124 : zML 124 = 2 := by decide +kernel
theorem rt_124 : zRt 124 = some .int := by decide +kernel
theorem k_124_0 : zD 124 0 = some (.aload_n 0, 1, none) := by decide +kernel
theorem k_124_1 : zD 124 1 = some (.iload_n 1, 1, none) := by decide +kernel
theorem k_124_2 : zD 124 2 = some (.invokevirtual 261, 3, none) ∧ zCk (zOn 124) 261 = some (0, 122) ∧ zNp 122 = 1 ∧ zML 122 = 2 ∧ zCo[7]? = some (zOn 122) ∧ (zRt 122 = some .int ∨ zRt 122 = some .boolean ∨ zRt 122 = some .char ∨ zRt 122 = some .byte) := by decide +kernel
theorem k_124_5 : zD 124 5 = some (.ifCond .ne (6), 3, none) ∧ zTg 5 (6) = some 11 := by decide +kernel
theorem k_124_8 : zD 124 8 = some (.ldc 129, 2, none) ∧ zKc (zOn 124) 129 = some (.inl (-1000000001)) := by decide +kernel
theorem k_124_10 : zD 124 10 = some (.ireturn, 1, none) := by decide +kernel
theorem k_124_11 : zD 124 11 = some (.aload_n 0, 1, none) := by decide +kernel
theorem k_124_12 : zD 124 12 = some (.getfield 69, 3, none) ∧ zFl (zOn 124) 69 = some (7, 7) ∧ zFc 7 7 = some 3 := by decide +kernel
theorem k_124_15 : zD 124 15 = some (.iload_n 1, 1, none) := by decide +kernel
theorem k_124_16 : zD 124 16 = some (.baload, 1, none) := by decide +kernel
theorem k_124_17 : zD 124 17 = some (.ifCond .ne (6), 3, none) ∧ zTg 17 (6) = some 23 := by decide +kernel
theorem k_124_20 : zD 124 20 = some (.ldc 204, 2, none) ∧ zKc (zOn 124) 204 = some (.inl (-1000000003)) := by decide +kernel
theorem k_124_22 : zD 124 22 = some (.ireturn, 1, none) := by decide +kernel
theorem k_124_23 : zD 124 23 = some (.aload_n 0, 1, none) := by decide +kernel
theorem k_124_24 : zD 124 24 = some (.getfield 61, 3, none) ∧ zFl (zOn 124) 61 = some (7, 5) ∧ zFc 7 5 = some 3 := by decide +kernel
theorem k_124_27 : zD 124 27 = some (.aload_n 0, 1, none) := by decide +kernel
theorem k_124_28 : zD 124 28 = some (.getfield 65, 3, none) ∧ zFl (zOn 124) 65 = some (7, 6) ∧ zFc 7 6 = some 3 := by decide +kernel
theorem k_124_31 : zD 124 31 = some (.iload_n 1, 1, none) := by decide +kernel
theorem k_124_32 : zD 124 32 = some (.aaload, 1, none) := by decide +kernel
theorem k_124_33 : zD 124 33 = some (.invokevirtual 264, 3, none) ∧ zCk (zOn 124) 264 = some (0, 123) ∧ zNp 123 = 1 ∧ zML 123 = 2 ∧ zCo[4]? = some (zOn 123) ∧ zRt 123 = none := by decide +kernel
theorem k_124_36 : zD 124 36 = some (.iconst (1), 1, none) := by decide +kernel
theorem k_124_37 : zD 124 37 = some (.ireturn, 1, none) := by decide +kernel

theorem ml_126 : zML 126 = 5 := by decide +kernel
theorem rt_126 : zRt 126 = none := by decide +kernel
theorem k_126_0 : zD 126 0 = some (.aload_n 0, 1, none) := by decide +kernel
theorem k_126_1 : zD 126 1 = some (.lconst 0, 1, none) := by decide +kernel
theorem k_126_2 : zD 126 2 = some (.putfield 117, 3, none) ∧ zFl (zOn 126) 117 = some (8, 7) ∧ zFc 8 7 = some 2 := by decide +kernel
theorem k_126_5 : zD 126 5 = some (.iconst (0), 1, none) := by decide +kernel
theorem k_126_6 : zD 126 6 = some (.istore_n 1, 1, none) := by decide +kernel
theorem k_126_7 : zD 126 7 = some (.iload_n 1, 1, some [true, true, false, false, false]) := by decide +kernel
theorem k_126_8 : zD 126 8 = some (.iconst (1), 1, none) := by decide +kernel
theorem k_126_9 : zD 126 9 = some (.aload_n 0, 1, none) := by decide +kernel
theorem k_126_10 : zD 126 10 = some (.getfield 103, 3, none) ∧ zFl (zOn 126) 103 = some (8, 0) ∧ zFc 8 0 = some 0 := by decide +kernel
theorem k_126_13 : zD 126 13 = some (.ishl, 1, none) := by decide +kernel
theorem k_126_14 : zD 126 14 = some (.if_icmp .ge (104), 3, none) ∧ zTg 14 (104) = some 118 := by decide +kernel
theorem k_126_17 : zD 126 17 = some (.iload_n 1, 1, none) := by decide +kernel
theorem k_126_18 : zD 126 18 = some (.istore_n 2, 1, none) := by decide +kernel
theorem k_126_19 : zD 126 19 = some (.iconst (-1), 1, none) := by decide +kernel
theorem k_126_20 : zD 126 20 = some (.istore_n 3, 1, none) := by decide +kernel
theorem k_126_118 : zD 126 118 = some (.return_, 1, none) := by decide +kernel
theorem k_126_21 : zD 126 21 = some (.iload_n 2, 1, some [true, true, true, true, false]) := by decide +kernel
theorem k_126_22 : zD 126 22 = some (.iload_n 3, 1, none) := by decide +kernel
theorem k_126_23 : zD 126 23 = some (.if_icmp .eq (61), 3, none) ∧ zTg 23 (61) = some 84 := by decide +kernel
theorem k_126_84 : zD 126 84 = some (.aload_n 0, 1, none) := by decide +kernel
theorem k_126_85 : zD 126 85 = some (.getfield 23, 3, none) ∧ zFl (zOn 126) 23 = some (8, 6) ∧ zFc 8 6 = some 3 := by decide +kernel
theorem k_126_88 : zD 126 88 = some (.iload_n 1, 1, none) := by decide +kernel
theorem k_126_89 : zD 126 89 = some (.iload_n 2, 1, none) := by decide +kernel
theorem k_126_90 : zD 126 90 = some (.iastore, 1, none) := by decide +kernel
theorem k_126_91 : zD 126 91 = some (.aload_n 0, 1, none) := by decide +kernel
theorem k_126_92 : zD 126 92 = some (.dup, 1, none) := by decide +kernel
theorem k_126_93 : zD 126 93 = some (.getfield 117, 3, none) ∧ zFl (zOn 126) 117 = some (8, 7) ∧ zFc 8 7 = some 2 := by decide +kernel
theorem k_126_96 : zD 126 96 = some (.iload_n 2, 1, none) := by decide +kernel
theorem k_126_97 : zD 126 97 = some (.iload_n 1, 1, none) := by decide +kernel
theorem k_126_98 : zD 126 98 = some (.if_icmp .ne (9), 3, none) ∧ zTg 98 (9) = some 107 := by decide +kernel
theorem k_126_101 : zD 126 101 = some (.lconst 1, 1, none) := by decide +kernel
theorem k_126_102 : zD 126 102 = some (.iload_n 1, 1, none) := by decide +kernel
theorem k_126_103 : zD 126 103 = some (.lshl, 1, none) := by decide +kernel
theorem k_126_104 : zD 126 104 = some (.goto (4), 3, none) ∧ zTg 104 (4) = some 108 := by decide +kernel
theorem k_126_108 : zD 126 108 = some (.lor, 1, some [true, true, false, false, false]) := by decide +kernel
theorem k_126_109 : zD 126 109 = some (.putfield 117, 3, none) ∧ zFl (zOn 126) 117 = some (8, 7) ∧ zFc 8 7 = some 2 := by decide +kernel
theorem k_126_112 : zD 126 112 = some (.iinc 1 (1), 3, none) := by decide +kernel
theorem k_126_115 : zD 126 115 = some (.goto (-108), 3, none) ∧ zTg 115 (-108) = some 7 := by decide +kernel
theorem k_126_107 : zD 126 107 = some (.lconst 0, 1, none) := by decide +kernel
theorem k_126_26 : zD 126 26 = some (.iload_n 2, 1, none) := by decide +kernel
theorem k_126_27 : zD 126 27 = some (.istore_n 3, 1, none) := by decide +kernel
theorem k_126_28 : zD 126 28 = some (.iconst (0), 1, none) := by decide +kernel
theorem k_126_29 : zD 126 29 = some (.istore 4, 2, none) := by decide +kernel
theorem k_126_31 : zD 126 31 = some (.iload 4, 2, some [true, true, true, true, true]) := by decide +kernel
theorem k_126_33 : zD 126 33 = some (.aload_n 0, 1, none) := by decide +kernel
theorem k_126_34 : zD 126 34 = some (.getfield 103, 3, none) ∧ zFl (zOn 126) 103 = some (8, 0) ∧ zFc 8 0 = some 0 := by decide +kernel
theorem k_126_37 : zD 126 37 = some (.if_icmp .ge (44), 3, none) ∧ zTg 37 (44) = some 81 := by decide +kernel
theorem k_126_40 : zD 126 40 = some (.iload_n 2, 1, none) := by decide +kernel
theorem k_126_41 : zD 126 41 = some (.aload_n 0, 1, none) := by decide +kernel
theorem k_126_42 : zD 126 42 = some (.getfield 13, 3, none) ∧ zFl (zOn 126) 13 = some (8, 2) ∧ zFc 8 2 = some 3 := by decide +kernel
theorem k_126_45 : zD 126 45 = some (.iload 4, 2, none) := by decide +kernel
theorem k_126_47 : zD 126 47 = some (.iaload, 1, none) := by decide +kernel
theorem k_126_48 : zD 126 48 = some (.ifCond .eq (24), 3, none) ∧ zTg 48 (24) = some 72 := by decide +kernel
theorem k_126_72 : zD 126 72 = some (.iconst (0), 1, some [true, true, false, true, true]) := by decide +kernel
theorem k_126_73 : zD 126 73 = some (.ior, 1, some [true, true, false, true, true]) := by decide +kernel
theorem k_126_74 : zD 126 74 = some (.istore_n 2, 1, none) := by decide +kernel
theorem k_126_75 : zD 126 75 = some (.iinc 4 (1), 3, none) := by decide +kernel
theorem k_126_78 : zD 126 78 = some (.goto (-47), 3, none) ∧ zTg 78 (-47) = some 31 := by decide +kernel
theorem k_126_51 : zD 126 51 = some (.aload_n 0, 1, none) := by decide +kernel
theorem k_126_52 : zD 126 52 = some (.getfield 13, 3, none) ∧ zFl (zOn 126) 13 = some (8, 2) ∧ zFc 8 2 = some 3 := by decide +kernel
theorem k_126_55 : zD 126 55 = some (.iload 4, 2, none) := by decide +kernel
theorem k_126_57 : zD 126 57 = some (.iaload, 1, none) := by decide +kernel
theorem k_126_58 : zD 126 58 = some (.iload_n 2, 1, none) := by decide +kernel
theorem k_126_59 : zD 126 59 = some (.iconst (-1), 1, none) := by decide +kernel
theorem k_126_60 : zD 126 60 = some (.ixor, 1, none) := by decide +kernel
theorem k_126_61 : zD 126 61 = some (.iand, 1, none) := by decide +kernel
theorem k_126_62 : zD 126 62 = some (.ifCond .ne (10), 3, none) ∧ zTg 62 (10) = some 72 := by decide +kernel
theorem k_126_65 : zD 126 65 = some (.iconst (1), 1, none) := by decide +kernel
theorem k_126_66 : zD 126 66 = some (.iload 4, 2, none) := by decide +kernel
theorem k_126_68 : zD 126 68 = some (.ishl, 1, none) := by decide +kernel
theorem k_126_69 : zD 126 69 = some (.goto (4), 3, none) ∧ zTg 69 (4) = some 73 := by decide +kernel
theorem k_126_81 : zD 126 81 = some (.goto (-60), 3, none) ∧ zTg 81 (-60) = some 21 := by decide +kernel
theorem kd_126_7 : zD 126 7 = some (.iload_n 1, 1, some [true, true, false, false, false]) := k_126_7
theorem kd_126_21 : zD 126 21 = some (.iload_n 2, 1, some [true, true, true, true, false]) := k_126_21
theorem kd_126_31 : zD 126 31 = some (.iload 4, 2, some [true, true, true, true, true]) := k_126_31
theorem kd_126_72 : zD 126 72 = some (.iconst (0), 1, some [true, true, false, true, true]) := k_126_72
theorem kd_126_73 : zD 126 73 = some (.ior, 1, some [true, true, false, true, true]) := k_126_73
theorem kd_126_108 : zD 126 108 = some (.lor, 1, some [true, true, false, false, false]) := k_126_108
theorem ml_127 : zML 127 = 2 := by decide +kernel
theorem rt_127 : zRt 127 = none := by decide +kernel
theorem k_127_0 : zD 127 0 = some (.iconst (0), 1, none) := by decide +kernel
theorem k_127_1 : zD 127 1 = some (.istore_n 1, 1, none) := by decide +kernel
theorem k_127_2 : zD 127 2 = some (.iload_n 1, 1, some [true, true]) := by decide +kernel
theorem k_127_3 : zD 127 3 = some (.iconst (5), 1, none) := by decide +kernel
theorem k_127_4 : zD 127 4 = some (.if_icmp .ge (65), 3, none) ∧ zTg 4 (65) = some 69 := by decide +kernel
theorem k_127_7 : zD 127 7 = some (.aload_n 0, 1, none) := by decide +kernel
theorem k_127_8 : zD 127 8 = some (.getfield 26, 3, none) ∧ zFl (zOn 127) 26 = some (8, 8) ∧ zFc 8 8 = some 3 := by decide +kernel
theorem k_127_11 : zD 127 11 = some (.iload_n 1, 1, none) := by decide +kernel
theorem k_127_12 : zD 127 12 = some (.iload_n 1, 1, none) := by decide +kernel
theorem k_127_13 : zD 127 13 = some (.aload_n 0, 1, none) := by decide +kernel
theorem k_127_14 : zD 127 14 = some (.getfield 110, 3, none) ∧ zFl (zOn 127) 110 = some (8, 3) ∧ zFc 8 3 = some 0 := by decide +kernel
theorem k_127_17 : zD 127 17 = some (.if_icmp .ge (17), 3, none) ∧ zTg 17 (17) = some 34 := by decide +kernel
theorem k_127_20 : zD 127 20 = some (.aload_n 0, 1, none) := by decide +kernel
theorem k_127_21 : zD 127 21 = some (.getfield 23, 3, none) ∧ zFl (zOn 127) 23 = some (8, 6) ∧ zFc 8 6 = some 3 := by decide +kernel
theorem k_127_24 : zD 127 24 = some (.aload_n 0, 1, none) := by decide +kernel
theorem k_127_25 : zD 127 25 = some (.getfield 16, 3, none) ∧ zFl (zOn 127) 16 = some (8, 4) ∧ zFc 8 4 = some 3 := by decide +kernel
theorem k_127_28 : zD 127 28 = some (.iload_n 1, 1, none) := by decide +kernel
theorem k_127_29 : zD 127 29 = some (.iaload, 1, none) := by decide +kernel
theorem k_127_30 : zD 127 30 = some (.iaload, 1, none) := by decide +kernel
theorem k_127_31 : zD 127 31 = some (.goto (4), 3, none) ∧ zTg 31 (4) = some 35 := by decide +kernel
theorem k_127_34 : zD 127 34 = some (.iconst (0), 1, none) := by decide +kernel
theorem k_127_69 : zD 127 69 = some (.iconst (0), 1, none) := by decide +kernel
theorem k_127_70 : zD 127 70 = some (.istore_n 1, 1, none) := by decide +kernel
theorem k_127_35 : zD 127 35 = some (.iastore, 1, some [true, true]) := by decide +kernel
theorem k_127_36 : zD 127 36 = some (.aload_n 0, 1, none) := by decide +kernel
theorem k_127_37 : zD 127 37 = some (.getfield 29, 3, none) ∧ zFl (zOn 127) 29 = some (8, 9) ∧ zFc 8 9 = some 3 := by decide +kernel
theorem k_127_40 : zD 127 40 = some (.iload_n 1, 1, none) := by decide +kernel
theorem k_127_41 : zD 127 41 = some (.aload_n 0, 1, none) := by decide +kernel
theorem k_127_42 : zD 127 42 = some (.aload_n 0, 1, none) := by decide +kernel
theorem k_127_43 : zD 127 43 = some (.getfield 26, 3, none) ∧ zFl (zOn 127) 26 = some (8, 8) ∧ zFc 8 8 = some 3 := by decide +kernel
theorem k_127_46 : zD 127 46 = some (.iload_n 1, 1, none) := by decide +kernel
theorem k_127_47 : zD 127 47 = some (.iaload, 1, none) := by decide +kernel
theorem k_127_48 : zD 127 48 = some (.aload_n 0, 1, none) := by decide +kernel
theorem k_127_49 : zD 127 49 = some (.getfield 19, 3, none) ∧ zFl (zOn 127) 19 = some (8, 5) ∧ zFc 8 5 = some 0 := by decide +kernel
theorem k_127_52 : zD 127 52 = some (.invokevirtual 125, 3, none) ∧ zCk (zOn 127) 125 = some (0, 128) ∧ zNp 128 = 2 ∧ zML 128 = 5 ∧ zCo[8]? = some (zOn 128) ∧ (zRt 128 = some .int ∨ zRt 128 = some .boolean ∨ zRt 128 = some .char ∨ zRt 128 = some .byte) := by decide +kernel
theorem k_127_55 : zD 127 55 = some (.iastore, 1, none) := by decide +kernel
theorem k_127_56 : zD 127 56 = some (.aload_n 0, 1, none) := by decide +kernel
theorem k_127_57 : zD 127 57 = some (.getfield 36, 3, none) ∧ zFl (zOn 127) 36 = some (8, 11) ∧ zFc 8 11 = some 3 := by decide +kernel
theorem k_127_60 : zD 127 60 = some (.iload_n 1, 1, none) := by decide +kernel
theorem k_127_61 : zD 127 61 = some (.iconst (0), 1, none) := by decide +kernel
theorem k_127_62 : zD 127 62 = some (.iastore, 1, none) := by decide +kernel
theorem k_127_63 : zD 127 63 = some (.iinc 1 (1), 3, none) := by decide +kernel
theorem k_127_66 : zD 127 66 = some (.goto (-64), 3, none) ∧ zTg 66 (-64) = some 2 := by decide +kernel
theorem k_127_71 : zD 127 71 = some (.iload_n 1, 1, some [true, true]) := by decide +kernel
theorem k_127_72 : zD 127 72 = some (.bipush (25), 2, none) := by decide +kernel
theorem k_127_74 : zD 127 74 = some (.if_icmp .ge (27), 3, none) ∧ zTg 74 (27) = some 101 := by decide +kernel
theorem k_127_77 : zD 127 77 = some (.aload_n 0, 1, none) := by decide +kernel
theorem k_127_78 : zD 127 78 = some (.getfield 32, 3, none) ∧ zFl (zOn 127) 32 = some (8, 10) ∧ zFc 8 10 = some 3 := by decide +kernel
theorem k_127_81 : zD 127 81 = some (.iload_n 1, 1, none) := by decide +kernel
theorem k_127_82 : zD 127 82 = some (.aload_n 0, 1, none) := by decide +kernel
theorem k_127_83 : zD 127 83 = some (.aload_n 0, 1, none) := by decide +kernel
theorem k_127_84 : zD 127 84 = some (.getfield 29, 3, none) ∧ zFl (zOn 127) 29 = some (8, 9) ∧ zFc 8 9 = some 3 := by decide +kernel
theorem k_127_87 : zD 127 87 = some (.iload_n 1, 1, none) := by decide +kernel
theorem k_127_88 : zD 127 88 = some (.iconst (5), 1, none) := by decide +kernel
theorem k_127_89 : zD 127 89 = some (.irem, 1, none) := by decide +kernel
theorem k_127_90 : zD 127 90 = some (.iaload, 1, none) := by decide +kernel
theorem k_127_91 : zD 127 91 = some (.invokevirtual 129, 3, none) ∧ zCk (zOn 127) 129 = some (0, 130) ∧ zNp 130 = 1 ∧ zML 130 = 5 ∧ zCo[8]? = some (zOn 130) ∧ zRt 130 = some .long := by decide +kernel
theorem k_127_94 : zD 127 94 = some (.lastore, 1, none) := by decide +kernel
theorem k_127_95 : zD 127 95 = some (.iinc 1 (1), 3, none) := by decide +kernel
theorem k_127_98 : zD 127 98 = some (.goto (-27), 3, none) ∧ zTg 98 (-27) = some 71 := by decide +kernel
theorem k_127_101 : zD 127 101 = some (.aload_n 0, 1, none) := by decide +kernel
theorem k_127_102 : zD 127 102 = some (.iconst (0), 1, none) := by decide +kernel
theorem k_127_103 : zD 127 103 = some (.putfield 133, 3, none) ∧ zFl (zOn 127) 133 = some (8, 12) ∧ zFc 8 12 = some 0 := by decide +kernel
theorem k_127_106 : zD 127 106 = some (.return_, 1, none) := by decide +kernel
theorem kd_127_2 : zD 127 2 = some (.iload_n 1, 1, some [true, true]) := k_127_2
theorem kd_127_35 : zD 127 35 = some (.iastore, 1, some [true, true]) := k_127_35
theorem kd_127_71 : zD 127 71 = some (.iload_n 1, 1, some [true, true]) := k_127_71
theorem ml_128 : zML 128 = 5 := by decide +kernel
theorem rt_128 : zRt 128 = some .int := by decide +kernel
theorem k_128_0 : zD 128 0 = some (.iconst (0), 1, none) := by decide +kernel
theorem k_128_1 : zD 128 1 = some (.istore_n 3, 1, none) := by decide +kernel
theorem k_128_2 : zD 128 2 = some (.iconst (0), 1, none) := by decide +kernel
theorem k_128_3 : zD 128 3 = some (.istore 4, 2, none) := by decide +kernel
theorem k_128_5 : zD 128 5 = some (.iload 4, 2, some [true, true, true, true, true]) := by decide +kernel
theorem k_128_7 : zD 128 7 = some (.aload_n 0, 1, none) := by decide +kernel
theorem k_128_8 : zD 128 8 = some (.getfield 103, 3, none) ∧ zFl (zOn 128) 103 = some (8, 0) ∧ zFc 8 0 = some 0 := by decide +kernel
theorem k_128_11 : zD 128 11 = some (.if_icmp .ge (32), 3, none) ∧ zTg 11 (32) = some 43 := by decide +kernel
theorem k_128_14 : zD 128 14 = some (.iload_n 3, 1, none) := by decide +kernel
theorem k_128_15 : zD 128 15 = some (.iload_n 1, 1, none) := by decide +kernel
theorem k_128_16 : zD 128 16 = some (.iload 4, 2, none) := by decide +kernel
theorem k_128_18 : zD 128 18 = some (.invokestatic 121, 3, none) ∧ zAt.lookup (zOn 128, 121) = none ∧ zCk (zOn 128) 121 = some (1, 129) ∧ (1 = 1 ∨ 1 = 3) ∧ zNp 129 = 2 ∧ zML 129 = 2 ∧ (zRt 129 = some .int ∨ zRt 129 = some .boolean ∨ zRt 129 = some .char ∨ zRt 129 = some .byte) := by decide +kernel
theorem k_128_21 : zD 128 21 = some (.ifCond .eq (13), 3, none) ∧ zTg 21 (13) = some 34 := by decide +kernel
theorem k_128_34 : zD 128 34 = some (.iconst (0), 1, none) := by decide +kernel
theorem k_128_35 : zD 128 35 = some (.iadd, 1, some [true, true, true, false, true]) := by decide +kernel
theorem k_128_36 : zD 128 36 = some (.istore_n 3, 1, none) := by decide +kernel
theorem k_128_37 : zD 128 37 = some (.iinc 4 (1), 3, none) := by decide +kernel
theorem k_128_40 : zD 128 40 = some (.goto (-35), 3, none) ∧ zTg 40 (-35) = some 5 := by decide +kernel
theorem k_128_24 : zD 128 24 = some (.aload_n 0, 1, none) := by decide +kernel
theorem k_128_25 : zD 128 25 = some (.getfield 7, 3, none) ∧ zFl (zOn 128) 7 = some (8, 1) ∧ zFc 8 1 = some 3 := by decide +kernel
theorem k_128_28 : zD 128 28 = some (.iload 4, 2, none) := by decide +kernel
theorem k_128_30 : zD 128 30 = some (.iaload, 1, none) := by decide +kernel
theorem k_128_31 : zD 128 31 = some (.goto (4), 3, none) ∧ zTg 31 (4) = some 35 := by decide +kernel
theorem k_128_43 : zD 128 43 = some (.iload_n 3, 1, none) := by decide +kernel
theorem k_128_44 : zD 128 44 = some (.iload_n 2, 1, none) := by decide +kernel
theorem k_128_45 : zD 128 45 = some (.irem, 1, none) := by decide +kernel
theorem k_128_46 : zD 128 46 = some (.ireturn, 1, none) := by decide +kernel
theorem kd_128_5 : zD 128 5 = some (.iload 4, 2, some [true, true, true, true, true]) := k_128_5
theorem kd_128_35 : zD 128 35 = some (.iadd, 1, some [true, true, true, false, true]) := k_128_35
theorem ml_129 : zML 129 = 2 := by decide +kernel
theorem rt_129 : zRt 129 = some .boolean := by decide +kernel
theorem k_129_0 : zD 129 0 = some (.iload_n 0, 1, none) := by decide +kernel
theorem k_129_1 : zD 129 1 = some (.iload_n 1, 1, none) := by decide +kernel
theorem k_129_2 : zD 129 2 = some (.ishr, 1, none) := by decide +kernel
theorem k_129_3 : zD 129 3 = some (.iconst (1), 1, none) := by decide +kernel
theorem k_129_4 : zD 129 4 = some (.iand, 1, none) := by decide +kernel
theorem k_129_5 : zD 129 5 = some (.iconst (1), 1, none) := by decide +kernel
theorem k_129_6 : zD 129 6 = some (.if_icmp .ne (7), 3, none) ∧ zTg 6 (7) = some 13 := by decide +kernel
theorem k_129_9 : zD 129 9 = some (.iconst (1), 1, none) := by decide +kernel
theorem k_129_10 : zD 129 10 = some (.goto (4), 3, none) ∧ zTg 10 (4) = some 14 := by decide +kernel
theorem k_129_14 : zD 129 14 = some (.ireturn, 1, some [false, false]) := by decide +kernel
theorem k_129_13 : zD 129 13 = some (.iconst (0), 1, none) := by decide +kernel
theorem kd_129_14 : zD 129 14 = some (.ireturn, 1, some [false, false]) := k_129_14
theorem ml_130 : zML 130 = 5 := by decide +kernel
theorem rt_130 : zRt 130 = some .long := by decide +kernel
theorem k_130_0 : zD 130 0 = some (.lconst 0, 1, none) := by decide +kernel
theorem k_130_1 : zD 130 1 = some (.lstore_n 2, 1, none) := by decide +kernel
theorem k_130_2 : zD 130 2 = some (.iconst (0), 1, none) := by decide +kernel
theorem k_130_3 : zD 130 3 = some (.istore 4, 2, none) := by decide +kernel
theorem k_130_5 : zD 130 5 = some (.iload 4, 2, some [true, true, true, false, true]) := by decide +kernel
theorem k_130_7 : zD 130 7 = some (.iconst (1), 1, none) := by decide +kernel
theorem k_130_8 : zD 130 8 = some (.aload_n 0, 1, none) := by decide +kernel
theorem k_130_9 : zD 130 9 = some (.getfield 103, 3, none) ∧ zFl (zOn 130) 103 = some (8, 0) ∧ zFc 8 0 = some 0 := by decide +kernel
theorem k_130_12 : zD 130 12 = some (.ishl, 1, none) := by decide +kernel
theorem k_130_13 : zD 130 13 = some (.if_icmp .ge (48), 3, none) ∧ zTg 13 (48) = some 61 := by decide +kernel
theorem k_130_16 : zD 130 16 = some (.lload_n 2, 1, none) := by decide +kernel
theorem k_130_17 : zD 130 17 = some (.aload_n 0, 1, none) := by decide +kernel
theorem k_130_18 : zD 130 18 = some (.getfield 117, 3, none) ∧ zFl (zOn 130) 117 = some (8, 7) ∧ zFc 8 7 = some 2 := by decide +kernel
theorem k_130_21 : zD 130 21 = some (.iload 4, 2, none) := by decide +kernel
theorem k_130_23 : zD 130 23 = some (.lshr, 1, none) := by decide +kernel
theorem k_130_24 : zD 130 24 = some (.lconst 1, 1, none) := by decide +kernel
theorem k_130_25 : zD 130 25 = some (.land, 1, none) := by decide +kernel
theorem k_130_26 : zD 130 26 = some (.lconst 1, 1, none) := by decide +kernel
theorem k_130_27 : zD 130 27 = some (.lcmp, 1, none) := by decide +kernel
theorem k_130_28 : zD 130 28 = some (.ifCond .ne (24), 3, none) ∧ zTg 28 (24) = some 52 := by decide +kernel
theorem k_130_31 : zD 130 31 = some (.aload_n 0, 1, none) := by decide +kernel
theorem k_130_32 : zD 130 32 = some (.iload 4, 2, none) := by decide +kernel
theorem k_130_34 : zD 130 34 = some (.aload_n 0, 1, none) := by decide +kernel
theorem k_130_35 : zD 130 35 = some (.getfield 19, 3, none) ∧ zFl (zOn 130) 19 = some (8, 5) ∧ zFc 8 5 = some 0 := by decide +kernel
theorem k_130_38 : zD 130 38 = some (.invokevirtual 125, 3, none) ∧ zCk (zOn 130) 125 = some (0, 128) ∧ zNp 128 = 2 ∧ zML 128 = 5 ∧ zCo[8]? = some (zOn 128) ∧ (zRt 128 = some .int ∨ zRt 128 = some .boolean ∨ zRt 128 = some .char ∨ zRt 128 = some .byte) := by decide +kernel
theorem k_130_41 : zD 130 41 = some (.iload_n 1, 1, none) := by decide +kernel
theorem k_130_42 : zD 130 42 = some (.if_icmp .ne (10), 3, none) ∧ zTg 42 (10) = some 52 := by decide +kernel
theorem k_130_45 : zD 130 45 = some (.lconst 1, 1, none) := by decide +kernel
theorem k_130_46 : zD 130 46 = some (.iload 4, 2, none) := by decide +kernel
theorem k_130_48 : zD 130 48 = some (.lshl, 1, none) := by decide +kernel
theorem k_130_49 : zD 130 49 = some (.goto (4), 3, none) ∧ zTg 49 (4) = some 53 := by decide +kernel
theorem k_130_53 : zD 130 53 = some (.lor, 1, some [true, true, false, false, true]) := by decide +kernel
theorem k_130_54 : zD 130 54 = some (.lstore_n 2, 1, none) := by decide +kernel
theorem k_130_55 : zD 130 55 = some (.iinc 4 (1), 3, none) := by decide +kernel
theorem k_130_58 : zD 130 58 = some (.goto (-53), 3, none) ∧ zTg 58 (-53) = some 5 := by decide +kernel
theorem k_130_52 : zD 130 52 = some (.lconst 0, 1, some [true, true, false, false, true]) := by decide +kernel
theorem k_130_61 : zD 130 61 = some (.lload_n 2, 1, none) := by decide +kernel
theorem k_130_62 : zD 130 62 = some (.lreturn, 1, none) := by decide +kernel
theorem kd_130_5 : zD 130 5 = some (.iload 4, 2, some [true, true, true, false, true]) := k_130_5
theorem kd_130_52 : zD 130 52 = some (.lconst 0, 1, some [true, true, false, false, true]) := k_130_52
theorem kd_130_53 : zD 130 53 = some (.lor, 1, some [true, true, false, false, true]) := k_130_53
theorem ml_131 : zML 131 = 5 := by decide +kernel
theorem rt_131 : zRt 131 = some .int := by decide +kernel
theorem k_131_0 : zD 131 0 = some (.iload_n 1, 1, none) := by decide +kernel
theorem k_131_1 : zD 131 1 = some (.i2l, 1, none) := by decide +kernel
theorem k_131_2 : zD 131 2 = some (.lconst 1, 1, none) := by decide +kernel
theorem k_131_3 : zD 131 3 = some (.ldc2_w 136, 3, none) ∧ zKc (zOn 131) 136 = some (.inr 8) := by decide +kernel
theorem k_131_6 : zD 131 6 = some (.invokestatic 106, 3, none) ∧ zAt.lookup (zOn 131, 106) = none ∧ zCk (zOn 131) 106 = some (1, 132) ∧ (1 = 1 ∨ 1 = 3) ∧ zNp 132 = 3 ∧ zML 132 = 6 ∧ (zRt 132 = some .int ∨ zRt 132 = some .boolean ∨ zRt 132 = some .char ∨ zRt 132 = some .byte) := by decide +kernel
theorem k_131_9 : zD 131 9 = some (.ifCond .ne (6), 3, none) ∧ zTg 9 (6) = some 15 := by decide +kernel
theorem k_131_12 : zD 131 12 = some (.ldc 138, 2, none) ∧ zKc (zOn 131) 138 = some (.inl (-1000000002)) := by decide +kernel
theorem k_131_14 : zD 131 14 = some (.ireturn, 1, none) := by decide +kernel
theorem k_131_15 : zD 131 15 = some (.aload_n 0, 1, none) := by decide +kernel
theorem k_131_16 : zD 131 16 = some (.getfield 139, 3, none) ∧ zFl (zOn 131) 139 = some (8, 16) ∧ zFc 8 16 = some 0 := by decide +kernel
theorem k_131_19 : zD 131 19 = some (.iload_n 1, 1, none) := by decide +kernel
theorem k_131_20 : zD 131 20 = some (.iadd, 1, none) := by decide +kernel
theorem k_131_21 : zD 131 21 = some (.sipush (400), 3, none) := by decide +kernel
theorem k_131_24 : zD 131 24 = some (.if_icmp .le (6), 3, none) ∧ zTg 24 (6) = some 30 := by decide +kernel
theorem k_131_27 : zD 131 27 = some (.ldc 142, 2, none) ∧ zKc (zOn 131) 142 = some (.inl (-1000000004)) := by decide +kernel
theorem k_131_29 : zD 131 29 = some (.ireturn, 1, none) := by decide +kernel
theorem k_131_30 : zD 131 30 = some (.iload_n 1, 1, none) := by decide +kernel
theorem k_131_31 : zD 131 31 = some (.iconst (1), 1, none) := by decide +kernel
theorem k_131_32 : zD 131 32 = some (.isub, 1, none) := by decide +kernel
theorem k_131_33 : zD 131 33 = some (.istore 4, 2, none) := by decide +kernel
theorem k_131_35 : zD 131 35 = some (.iload 4, 2, some [true, false, true, false, true]) := by decide +kernel
theorem k_131_37 : zD 131 37 = some (.ifCond .lt (40), 3, none) ∧ zTg 37 (40) = some 77 := by decide +kernel
theorem k_131_77 : zD 131 77 = some (.aload_n 0, 1, none) := by decide +kernel
theorem k_131_78 : zD 131 78 = some (.getfield 139, 3, none) ∧ zFl (zOn 131) 139 = some (8, 16) ∧ zFc 8 16 = some 0 := by decide +kernel
theorem k_131_81 : zD 131 81 = some (.ireturn, 1, none) := by decide +kernel
theorem k_131_40 : zD 131 40 = some (.aload_n 0, 1, none) := by decide +kernel
theorem k_131_41 : zD 131 41 = some (.getfield 42, 3, none) ∧ zFl (zOn 131) 42 = some (8, 15) ∧ zFc 8 15 = some 3 := by decide +kernel
theorem k_131_44 : zD 131 44 = some (.aload_n 0, 1, none) := by decide +kernel
theorem k_131_45 : zD 131 45 = some (.getfield 139, 3, none) ∧ zFl (zOn 131) 139 = some (8, 16) ∧ zFc 8 16 = some 0 := by decide +kernel
theorem k_131_48 : zD 131 48 = some (.lload_n 2, 1, none) := by decide +kernel
theorem k_131_49 : zD 131 49 = some (.bipush (8), 2, none) := by decide +kernel
theorem k_131_51 : zD 131 51 = some (.iload 4, 2, none) := by decide +kernel
theorem k_131_53 : zD 131 53 = some (.imul, 1, none) := by decide +kernel
theorem k_131_54 : zD 131 54 = some (.lshr, 1, none) := by decide +kernel
theorem k_131_55 : zD 131 55 = some (.ldc2_w 143, 3, none) ∧ zKc (zOn 131) 143 = some (.inr 255) := by decide +kernel
theorem k_131_58 : zD 131 58 = some (.land, 1, none) := by decide +kernel
theorem k_131_59 : zD 131 59 = some (.l2i, 1, none) := by decide +kernel
theorem k_131_60 : zD 131 60 = some (.iastore, 1, none) := by decide +kernel
theorem k_131_61 : zD 131 61 = some (.aload_n 0, 1, none) := by decide +kernel
theorem k_131_62 : zD 131 62 = some (.dup, 1, none) := by decide +kernel
theorem k_131_63 : zD 131 63 = some (.getfield 139, 3, none) ∧ zFl (zOn 131) 139 = some (8, 16) ∧ zFc 8 16 = some 0 := by decide +kernel
theorem k_131_66 : zD 131 66 = some (.iconst (1), 1, none) := by decide +kernel
theorem k_131_67 : zD 131 67 = some (.iadd, 1, none) := by decide +kernel
theorem k_131_68 : zD 131 68 = some (.putfield 139, 3, none) ∧ zFl (zOn 131) 139 = some (8, 16) ∧ zFc 8 16 = some 0 := by decide +kernel
theorem k_131_71 : zD 131 71 = some (.iinc 4 (-1), 3, none) := by decide +kernel
theorem k_131_74 : zD 131 74 = some (.goto (-39), 3, none) ∧ zTg 74 (-39) = some 35 := by decide +kernel
theorem kd_131_35 : zD 131 35 = some (.iload 4, 2, some [true, false, true, false, true]) := k_131_35
theorem ml_132 : zML 132 = 6 := by decide +kernel
theorem rt_132 : zRt 132 = some .boolean := by decide +kernel
theorem k_132_0 : zD 132 0 = some (.lload_n 0, 1, none) := by decide +kernel
theorem k_132_1 : zD 132 1 = some (.lload_n 2, 1, none) := by decide +kernel
theorem k_132_2 : zD 132 2 = some (.lcmp, 1, none) := by decide +kernel
theorem k_132_3 : zD 132 3 = some (.ifCond .lt (14), 3, none) ∧ zTg 3 (14) = some 17 := by decide +kernel
theorem k_132_17 : zD 132 17 = some (.iconst (0), 1, some [false, false, false, false, false, false]) := by decide +kernel
theorem k_132_18 : zD 132 18 = some (.ireturn, 1, some [false, false, false, false, false, false]) := by decide +kernel
theorem k_132_6 : zD 132 6 = some (.lload_n 0, 1, none) := by decide +kernel
theorem k_132_7 : zD 132 7 = some (.lload 4, 2, none) := by decide +kernel
theorem k_132_9 : zD 132 9 = some (.lcmp, 1, none) := by decide +kernel
theorem k_132_10 : zD 132 10 = some (.ifCond .gt (7), 3, none) ∧ zTg 10 (7) = some 17 := by decide +kernel
theorem k_132_13 : zD 132 13 = some (.iconst (1), 1, none) := by decide +kernel
theorem k_132_14 : zD 132 14 = some (.goto (4), 3, none) ∧ zTg 14 (4) = some 18 := by decide +kernel
theorem kd_132_17 : zD 132 17 = some (.iconst (0), 1, some [false, false, false, false, false, false]) := k_132_17
theorem kd_132_18 : zD 132 18 = some (.ireturn, 1, some [false, false, false, false, false, false]) := k_132_18
theorem ml_133 : zML 133 = 3 := by decide +kernel
theorem rt_133 : zRt 133 = some .int := by decide +kernel
theorem k_133_0 : zD 133 0 = some (.aload_n 0, 1, none) := by decide +kernel
theorem k_133_1 : zD 133 1 = some (.iconst (-1), 1, none) := by decide +kernel
theorem k_133_2 : zD 133 2 = some (.putfield 45, 3, none) ∧ zFl (zOn 133) 45 = some (8, 17) ∧ zFc 8 17 = some 0 := by decide +kernel
theorem k_133_5 : zD 133 5 = some (.aload_n 0, 1, none) := by decide +kernel
theorem k_133_6 : zD 133 6 = some (.iconst (0), 1, none) := by decide +kernel
theorem k_133_7 : zD 133 7 = some (.putfield 145, 3, none) ∧ zFl (zOn 133) 145 = some (8, 18) ∧ zFc 8 18 = some 0 := by decide +kernel
theorem k_133_10 : zD 133 10 = some (.aload_n 0, 1, none) := by decide +kernel
theorem k_133_11 : zD 133 11 = some (.iconst (0), 1, none) := by decide +kernel
theorem k_133_12 : zD 133 12 = some (.putfield 186, 3, none) ∧ zFl (zOn 133) 186 = some (8, 23) ∧ zFc 8 23 = some 0 := by decide +kernel
theorem k_133_15 : zD 133 15 = some (.aload_n 0, 1, none) := by decide +kernel
theorem k_133_16 : zD 133 16 = some (.iconst (0), 1, none) := by decide +kernel
theorem k_133_17 : zD 133 17 = some (.putfield 204, 3, none) ∧ zFl (zOn 133) 204 = some (8, 26) ∧ zFc 8 26 = some 0 := by decide +kernel
theorem k_133_20 : zD 133 20 = some (.aload_n 0, 1, none) := by decide +kernel
theorem k_133_21 : zD 133 21 = some (.iconst (0), 1, none) := by decide +kernel
theorem k_133_22 : zD 133 22 = some (.putfield 207, 3, none) ∧ zFl (zOn 133) 207 = some (8, 28) ∧ zFc 8 28 = some 0 := by decide +kernel
theorem k_133_25 : zD 133 25 = some (.iconst (0), 1, none) := by decide +kernel
theorem k_133_26 : zD 133 26 = some (.istore_n 1, 1, none) := by decide +kernel
theorem k_133_27 : zD 133 27 = some (.iload_n 1, 1, some [true, true, false]) := by decide +kernel
theorem k_133_28 : zD 133 28 = some (.ifCond .ne (18), 3, none) ∧ zTg 28 (18) = some 46 := by decide +kernel
theorem k_133_31 : zD 133 31 = some (.aload_n 0, 1, none) := by decide +kernel
theorem k_133_32 : zD 133 32 = some (.invokevirtual 148, 3, none) ∧ zCk (zOn 133) 148 = some (0, 134) ∧ zNp 134 = 0 ∧ zML 134 = 1 ∧ zCo[8]? = some (zOn 134) ∧ (zRt 134 = some .int ∨ zRt 134 = some .boolean ∨ zRt 134 = some .char ∨ zRt 134 = some .byte) := by decide +kernel
theorem k_133_35 : zD 133 35 = some (.ifCond .lt (11), 3, none) ∧ zTg 35 (11) = some 46 := by decide +kernel
theorem k_133_38 : zD 133 38 = some (.aload_n 0, 1, none) := by decide +kernel
theorem k_133_39 : zD 133 39 = some (.invokevirtual 216, 3, none) ∧ zCk (zOn 133) 216 = some (0, 135) ∧ zNp 135 = 0 ∧ zML 135 = 3 ∧ zCo[8]? = some (zOn 135) ∧ (zRt 135 = some .int ∨ zRt 135 = some .boolean ∨ zRt 135 = some .char ∨ zRt 135 = some .byte) := by decide +kernel
theorem k_133_42 : zD 133 42 = some (.istore_n 1, 1, none) := by decide +kernel
theorem k_133_43 : zD 133 43 = some (.goto (-16), 3, none) ∧ zTg 43 (-16) = some 27 := by decide +kernel
theorem k_133_46 : zD 133 46 = some (.aload_n 0, 1, some [true, true, false]) := by decide +kernel
theorem k_133_47 : zD 133 47 = some (.iconst (0), 1, none) := by decide +kernel
theorem k_133_48 : zD 133 48 = some (.putfield 139, 3, none) ∧ zFl (zOn 133) 139 = some (8, 16) ∧ zFc 8 16 = some 0 := by decide +kernel
theorem k_133_51 : zD 133 51 = some (.iload_n 1, 1, none) := by decide +kernel
theorem k_133_52 : zD 133 52 = some (.ifCond .le (8), 3, none) ∧ zTg 52 (8) = some 60 := by decide +kernel
theorem k_133_55 : zD 133 55 = some (.bipush (-10), 2, none) := by decide +kernel
theorem k_133_57 : zD 133 57 = some (.iload_n 1, 1, none) := by decide +kernel
theorem k_133_58 : zD 133 58 = some (.isub, 1, none) := by decide +kernel
theorem k_133_59 : zD 133 59 = some (.ireturn, 1, none) := by decide +kernel
theorem k_133_60 : zD 133 60 = some (.aload_n 0, 1, none) := by decide +kernel
theorem k_133_61 : zD 133 61 = some (.aload_n 0, 1, none) := by decide +kernel
theorem k_133_62 : zD 133 62 = some (.getfield 186, 3, none) ∧ zFl (zOn 133) 186 = some (8, 23) ∧ zFc 8 23 = some 0 := by decide +kernel
theorem k_133_65 : zD 133 65 = some (.putfield 103, 3, none) ∧ zFl (zOn 133) 103 = some (8, 0) ∧ zFc 8 0 = some 0 := by decide +kernel
theorem k_133_68 : zD 133 68 = some (.aload_n 0, 1, none) := by decide +kernel
theorem k_133_69 : zD 133 69 = some (.aload_n 0, 1, none) := by decide +kernel
theorem k_133_70 : zD 133 70 = some (.getfield 204, 3, none) ∧ zFl (zOn 133) 204 = some (8, 26) ∧ zFc 8 26 = some 0 := by decide +kernel
theorem k_133_73 : zD 133 73 = some (.putfield 110, 3, none) ∧ zFl (zOn 133) 110 = some (8, 3) ∧ zFc 8 3 = some 0 := by decide +kernel
theorem k_133_76 : zD 133 76 = some (.aload_n 0, 1, none) := by decide +kernel
theorem k_133_77 : zD 133 77 = some (.aload_n 0, 1, none) := by decide +kernel
theorem k_133_78 : zD 133 78 = some (.getfield 207, 3, none) ∧ zFl (zOn 133) 207 = some (8, 28) ∧ zFc 8 28 = some 0 := by decide +kernel
theorem k_133_81 : zD 133 81 = some (.ifCond .le (10), 3, none) ∧ zTg 81 (10) = some 91 := by decide +kernel
theorem k_133_84 : zD 133 84 = some (.aload_n 0, 1, none) := by decide +kernel
theorem k_133_85 : zD 133 85 = some (.getfield 207, 3, none) ∧ zFl (zOn 133) 207 = some (8, 28) ∧ zFc 8 28 = some 0 := by decide +kernel
theorem k_133_88 : zD 133 88 = some (.goto (5), 3, none) ∧ zTg 88 (5) = some 93 := by decide +kernel
theorem k_133_93 : zD 133 93 = some (.putfield 19, 3, some [true, false, false]) ∧ zFl (zOn 133) 19 = some (8, 5) ∧ zFc 8 5 = some 0 := by decide +kernel
theorem k_133_96 : zD 133 96 = some (.iconst (0), 1, none) := by decide +kernel
theorem k_133_97 : zD 133 97 = some (.istore_n 2, 1, none) := by decide +kernel
theorem k_133_91 : zD 133 91 = some (.bipush (10), 2, none) := by decide +kernel
theorem k_133_98 : zD 133 98 = some (.iload_n 2, 1, some [true, false, true]) := by decide +kernel
theorem k_133_99 : zD 133 99 = some (.bipush (6), 2, none) := by decide +kernel
theorem k_133_101 : zD 133 101 = some (.if_icmp .ge (45), 3, none) ∧ zTg 101 (45) = some 146 := by decide +kernel
theorem k_133_104 : zD 133 104 = some (.aload_n 0, 1, none) := by decide +kernel
theorem k_133_105 : zD 133 105 = some (.getfield 7, 3, none) ∧ zFl (zOn 133) 7 = some (8, 1) ∧ zFc 8 1 = some 3 := by decide +kernel
theorem k_133_108 : zD 133 108 = some (.iload_n 2, 1, none) := by decide +kernel
theorem k_133_109 : zD 133 109 = some (.aload_n 0, 1, none) := by decide +kernel
theorem k_133_110 : zD 133 110 = some (.getfield 48, 3, none) ∧ zFl (zOn 133) 48 = some (8, 24) ∧ zFc 8 24 = some 3 := by decide +kernel
theorem k_133_113 : zD 133 113 = some (.iload_n 2, 1, none) := by decide +kernel
theorem k_133_114 : zD 133 114 = some (.iaload, 1, none) := by decide +kernel
theorem k_133_115 : zD 133 115 = some (.iastore, 1, none) := by decide +kernel
theorem k_133_116 : zD 133 116 = some (.aload_n 0, 1, none) := by decide +kernel
theorem k_133_117 : zD 133 117 = some (.getfield 13, 3, none) ∧ zFl (zOn 133) 13 = some (8, 2) ∧ zFc 8 2 = some 3 := by decide +kernel
theorem k_133_120 : zD 133 120 = some (.iload_n 2, 1, none) := by decide +kernel
theorem k_133_121 : zD 133 121 = some (.iload_n 2, 1, none) := by decide +kernel
theorem k_133_122 : zD 133 122 = some (.aload_n 0, 1, none) := by decide +kernel
theorem k_133_123 : zD 133 123 = some (.getfield 103, 3, none) ∧ zFl (zOn 133) 103 = some (8, 0) ∧ zFc 8 0 = some 0 := by decide +kernel
theorem k_133_126 : zD 133 126 = some (.if_icmp .ge (12), 3, none) ∧ zTg 126 (12) = some 138 := by decide +kernel
theorem k_133_129 : zD 133 129 = some (.aload_n 0, 1, none) := by decide +kernel
theorem k_133_130 : zD 133 130 = some (.getfield 51, 3, none) ∧ zFl (zOn 133) 51 = some (8, 25) ∧ zFc 8 25 = some 3 := by decide +kernel
theorem k_133_133 : zD 133 133 = some (.iload_n 2, 1, none) := by decide +kernel
theorem k_133_134 : zD 133 134 = some (.iaload, 1, none) := by decide +kernel
theorem k_133_135 : zD 133 135 = some (.goto (4), 3, none) ∧ zTg 135 (4) = some 139 := by decide +kernel
theorem k_133_139 : zD 133 139 = some (.iastore, 1, some [true, false, true]) := by decide +kernel
theorem k_133_140 : zD 133 140 = some (.iinc 2 (1), 3, none) := by decide +kernel
theorem k_133_143 : zD 133 143 = some (.goto (-45), 3, none) ∧ zTg 143 (-45) = some 98 := by decide +kernel
theorem k_133_138 : zD 133 138 = some (.iconst (0), 1, none) := by decide +kernel
theorem k_133_146 : zD 133 146 = some (.iconst (0), 1, none) := by decide +kernel
theorem k_133_147 : zD 133 147 = some (.istore_n 2, 1, none) := by decide +kernel
theorem k_133_148 : zD 133 148 = some (.iload_n 2, 1, some [true, false, true]) := by decide +kernel
theorem k_133_149 : zD 133 149 = some (.iconst (5), 1, none) := by decide +kernel
theorem k_133_150 : zD 133 150 = some (.if_icmp .ge (33), 3, none) ∧ zTg 150 (33) = some 183 := by decide +kernel
theorem k_133_153 : zD 133 153 = some (.aload_n 0, 1, none) := by decide +kernel
theorem k_133_154 : zD 133 154 = some (.getfield 16, 3, none) ∧ zFl (zOn 133) 16 = some (8, 4) ∧ zFc 8 4 = some 3 := by decide +kernel
theorem k_133_157 : zD 133 157 = some (.iload_n 2, 1, none) := by decide +kernel
theorem k_133_158 : zD 133 158 = some (.iload_n 2, 1, none) := by decide +kernel
theorem k_133_159 : zD 133 159 = some (.aload_n 0, 1, none) := by decide +kernel
theorem k_133_160 : zD 133 160 = some (.getfield 110, 3, none) ∧ zFl (zOn 133) 110 = some (8, 3) ∧ zFc 8 3 = some 0 := by decide +kernel
theorem k_133_163 : zD 133 163 = some (.if_icmp .ge (12), 3, none) ∧ zTg 163 (12) = some 175 := by decide +kernel
theorem k_133_166 : zD 133 166 = some (.aload_n 0, 1, none) := by decide +kernel
theorem k_133_167 : zD 133 167 = some (.getfield 54, 3, none) ∧ zFl (zOn 133) 54 = some (8, 27) ∧ zFc 8 27 = some 3 := by decide +kernel
theorem k_133_170 : zD 133 170 = some (.iload_n 2, 1, none) := by decide +kernel
theorem k_133_171 : zD 133 171 = some (.iaload, 1, none) := by decide +kernel
theorem k_133_172 : zD 133 172 = some (.goto (4), 3, none) ∧ zTg 172 (4) = some 176 := by decide +kernel
theorem k_133_176 : zD 133 176 = some (.iastore, 1, some [true, false, true]) := by decide +kernel
theorem k_133_177 : zD 133 177 = some (.iinc 2 (1), 3, none) := by decide +kernel
theorem k_133_180 : zD 133 180 = some (.goto (-32), 3, none) ∧ zTg 180 (-32) = some 148 := by decide +kernel
theorem k_133_175 : zD 133 175 = some (.iconst (0), 1, none) := by decide +kernel
theorem k_133_183 : zD 133 183 = some (.aload_n 0, 1, none) := by decide +kernel
theorem k_133_184 : zD 133 184 = some (.iconst (0), 1, none) := by decide +kernel
theorem k_133_185 : zD 133 185 = some (.putfield 219, 3, none) ∧ zFl (zOn 133) 219 = some (8, 35) ∧ zFc 8 35 = some 0 := by decide +kernel
theorem k_133_188 : zD 133 188 = some (.aload_n 0, 1, none) := by decide +kernel
theorem k_133_189 : zD 133 189 = some (.getfield 93, 3, none) ∧ zFl (zOn 133) 93 = some (8, 42) ∧ zFc 8 42 = some 3 := by decide +kernel
theorem k_133_192 : zD 133 192 = some (.iconst (0), 1, none) := by decide +kernel
theorem k_133_193 : zD 133 193 = some (.iconst (0), 1, none) := by decide +kernel
theorem k_133_194 : zD 133 194 = some (.bastore, 1, none) := by decide +kernel
theorem k_133_195 : zD 133 195 = some (.aload_n 0, 1, none) := by decide +kernel
theorem k_133_196 : zD 133 196 = some (.getfield 93, 3, none) ∧ zFl (zOn 133) 93 = some (8, 42) ∧ zFc 8 42 = some 3 := by decide +kernel
theorem k_133_199 : zD 133 199 = some (.iconst (1), 1, none) := by decide +kernel
theorem k_133_200 : zD 133 200 = some (.iconst (0), 1, none) := by decide +kernel
theorem k_133_201 : zD 133 201 = some (.bastore, 1, none) := by decide +kernel
theorem k_133_202 : zD 133 202 = some (.aload_n 0, 1, none) := by decide +kernel
theorem k_133_203 : zD 133 203 = some (.invokevirtual 97, 3, none) ∧ zCk (zOn 133) 97 = some (0, 126) ∧ zNp 126 = 0 ∧ zML 126 = 5 ∧ zCo[8]? = some (zOn 126) ∧ zRt 126 = none := by decide +kernel
theorem k_133_206 : zD 133 206 = some (.aload_n 0, 1, none) := by decide +kernel
theorem k_133_207 : zD 133 207 = some (.invokevirtual 100, 3, none) ∧ zCk (zOn 133) 100 = some (0, 127) ∧ zNp 127 = 0 ∧ zML 127 = 2 ∧ zCo[8]? = some (zOn 127) ∧ zRt 127 = none := by decide +kernel
theorem k_133_210 : zD 133 210 = some (.aload_n 0, 1, none) := by decide +kernel
theorem k_133_211 : zD 133 211 = some (.getfield 110, 3, none) ∧ zFl (zOn 133) 110 = some (8, 3) ∧ zFc 8 3 = some 0 := by decide +kernel
theorem k_133_214 : zD 133 214 = some (.ireturn, 1, none) := by decide +kernel
theorem kd_133_27 : zD 133 27 = some (.iload_n 1, 1, some [true, true, false]) := k_133_27
theorem kd_133_46 : zD 133 46 = some (.aload_n 0, 1, some [true, true, false]) := k_133_46
theorem kd_133_93 : zD 133 93 = some (.putfield 19, 3, some [true, false, false]) := k_133_93.1
theorem kd_133_98 : zD 133 98 = some (.iload_n 2, 1, some [true, false, true]) := k_133_98
theorem kd_133_148 : zD 133 148 = some (.iload_n 2, 1, some [true, false, true]) := k_133_148
theorem ml_134 : zML 134 = 1 := by decide +kernel
theorem rt_134 : zRt 134 = some .int := by decide +kernel
theorem k_134_0 : zD 134 0 = some (.aload_n 0, 1, some [true]) := by decide +kernel
theorem k_134_1 : zD 134 1 = some (.getfield 145, 3, none) ∧ zFl (zOn 134) 145 = some (8, 18) ∧ zFc 8 18 = some 0 := by decide +kernel
theorem k_134_4 : zD 134 4 = some (.aload_n 0, 1, none) := by decide +kernel
theorem k_134_5 : zD 134 5 = some (.getfield 139, 3, none) ∧ zFl (zOn 134) 139 = some (8, 16) ∧ zFc 8 16 = some 0 := by decide +kernel
theorem k_134_8 : zD 134 8 = some (.if_icmp .ge (30), 3, none) ∧ zTg 8 (30) = some 38 := by decide +kernel
theorem k_134_11 : zD 134 11 = some (.aload_n 0, 1, none) := by decide +kernel
theorem k_134_12 : zD 134 12 = some (.getfield 42, 3, none) ∧ zFl (zOn 134) 42 = some (8, 15) ∧ zFc 8 15 = some 3 := by decide +kernel
theorem k_134_15 : zD 134 15 = some (.aload_n 0, 1, none) := by decide +kernel
theorem k_134_16 : zD 134 16 = some (.getfield 145, 3, none) ∧ zFl (zOn 134) 145 = some (8, 18) ∧ zFc 8 18 = some 0 := by decide +kernel
theorem k_134_19 : zD 134 19 = some (.iaload, 1, none) := by decide +kernel
theorem k_134_20 : zD 134 20 = some (.bipush (32), 2, none) := by decide +kernel
theorem k_134_22 : zD 134 22 = some (.if_icmp .ne (16), 3, none) ∧ zTg 22 (16) = some 38 := by decide +kernel
theorem k_134_25 : zD 134 25 = some (.aload_n 0, 1, none) := by decide +kernel
theorem k_134_26 : zD 134 26 = some (.dup, 1, none) := by decide +kernel
theorem k_134_27 : zD 134 27 = some (.getfield 145, 3, none) ∧ zFl (zOn 134) 145 = some (8, 18) ∧ zFc 8 18 = some 0 := by decide +kernel
theorem k_134_30 : zD 134 30 = some (.iconst (1), 1, none) := by decide +kernel
theorem k_134_31 : zD 134 31 = some (.iadd, 1, none) := by decide +kernel
theorem k_134_32 : zD 134 32 = some (.putfield 145, 3, none) ∧ zFl (zOn 134) 145 = some (8, 18) ∧ zFc 8 18 = some 0 := by decide +kernel
theorem k_134_35 : zD 134 35 = some (.goto (-35), 3, none) ∧ zTg 35 (-35) = some 0 := by decide +kernel
theorem k_134_38 : zD 134 38 = some (.aload_n 0, 1, some [true]) := by decide +kernel
theorem k_134_39 : zD 134 39 = some (.getfield 145, 3, none) ∧ zFl (zOn 134) 145 = some (8, 18) ∧ zFc 8 18 = some 0 := by decide +kernel
theorem k_134_42 : zD 134 42 = some (.aload_n 0, 1, none) := by decide +kernel
theorem k_134_43 : zD 134 43 = some (.getfield 139, 3, none) ∧ zFl (zOn 134) 139 = some (8, 16) ∧ zFc 8 16 = some 0 := by decide +kernel
theorem k_134_46 : zD 134 46 = some (.if_icmp .ge (15), 3, none) ∧ zTg 46 (15) = some 61 := by decide +kernel
theorem k_134_49 : zD 134 49 = some (.aload_n 0, 1, none) := by decide +kernel
theorem k_134_50 : zD 134 50 = some (.getfield 42, 3, none) ∧ zFl (zOn 134) 42 = some (8, 15) ∧ zFc 8 15 = some 3 := by decide +kernel
theorem k_134_53 : zD 134 53 = some (.aload_n 0, 1, none) := by decide +kernel
theorem k_134_54 : zD 134 54 = some (.getfield 145, 3, none) ∧ zFl (zOn 134) 145 = some (8, 18) ∧ zFc 8 18 = some 0 := by decide +kernel
theorem k_134_57 : zD 134 57 = some (.iaload, 1, none) := by decide +kernel
theorem k_134_58 : zD 134 58 = some (.goto (4), 3, none) ∧ zTg 58 (4) = some 62 := by decide +kernel
theorem k_134_62 : zD 134 62 = some (.ireturn, 1, some [false]) := by decide +kernel
theorem k_134_61 : zD 134 61 = some (.iconst (-1), 1, none) := by decide +kernel
theorem kd_134_0 : zD 134 0 = some (.aload_n 0, 1, some [true]) := k_134_0
theorem kd_134_38 : zD 134 38 = some (.aload_n 0, 1, some [true]) := k_134_38
theorem kd_134_62 : zD 134 62 = some (.ireturn, 1, some [false]) := k_134_62
theorem ml_135 : zML 135 = 3 := by decide +kernel
theorem rt_135 : zRt 135 = some .int := by decide +kernel
theorem k_135_0 : zD 135 0 = some (.aload_n 0, 1, none) := by decide +kernel
theorem k_135_1 : zD 135 1 = some (.invokevirtual 189, 3, none) ∧ zCk (zOn 135) 189 = some (0, 136) ∧ zNp 136 = 0 ∧ zML 136 = 2 ∧ zCo[8]? = some (zOn 136) ∧ zRt 136 = none := by decide +kernel
theorem k_135_4 : zD 135 4 = some (.aload_n 0, 1, none) := by decide +kernel
theorem k_135_5 : zD 135 5 = some (.getfield 152, 3, none) ∧ zFl (zOn 135) 152 = some (8, 19) ∧ zFc 8 19 = some 2 := by decide +kernel
theorem k_135_8 : zD 135 8 = some (.bipush (104), 2, none) := by decide +kernel
theorem k_135_10 : zD 135 10 = some (.bipush (97), 2, none) := by decide +kernel
theorem k_135_12 : zD 135 12 = some (.bipush (116), 2, none) := by decide +kernel
theorem k_135_14 : zD 135 14 = some (.bipush (115), 2, none) := by decide +kernel
theorem k_135_16 : zD 135 16 = some (.invokestatic 192, 3, none) ∧ zAt.lookup (zOn 135, 192) = none ∧ zCk (zOn 135) 192 = some (1, 137) ∧ (1 = 1 ∨ 1 = 3) ∧ zNp 137 = 4 ∧ zML 137 = 4 ∧ zRt 137 = some .long := by decide +kernel
theorem k_135_19 : zD 135 19 = some (.lcmp, 1, none) := by decide +kernel
theorem k_135_20 : zD 135 20 = some (.ifCond .ne (7), 3, none) ∧ zTg 20 (7) = some 27 := by decide +kernel
theorem k_135_23 : zD 135 23 = some (.iconst (0), 1, none) := by decide +kernel
theorem k_135_24 : zD 135 24 = some (.goto (60), 3, none) ∧ zTg 24 (60) = some 84 := by decide +kernel
theorem k_135_27 : zD 135 27 = some (.aload_n 0, 1, none) := by decide +kernel
theorem k_135_28 : zD 135 28 = some (.getfield 152, 3, none) ∧ zFl (zOn 135) 152 = some (8, 19) ∧ zFc 8 19 = some 2 := by decide +kernel
theorem k_135_31 : zD 135 31 = some (.bipush (102), 2, none) := by decide +kernel
theorem k_135_33 : zD 135 33 = some (.bipush (97), 2, none) := by decide +kernel
theorem k_135_35 : zD 135 35 = some (.bipush (99), 2, none) := by decide +kernel
theorem k_135_37 : zD 135 37 = some (.bipush (116), 2, none) := by decide +kernel
theorem k_135_39 : zD 135 39 = some (.invokestatic 192, 3, none) ∧ zAt.lookup (zOn 135, 192) = none ∧ zCk (zOn 135) 192 = some (1, 137) ∧ (1 = 1 ∨ 1 = 3) ∧ zNp 137 = 4 ∧ zML 137 = 4 ∧ zRt 137 = some .long := by decide +kernel
theorem k_135_42 : zD 135 42 = some (.lcmp, 1, none) := by decide +kernel
theorem k_135_43 : zD 135 43 = some (.ifCond .ne (7), 3, none) ∧ zTg 43 (7) = some 50 := by decide +kernel
theorem k_135_46 : zD 135 46 = some (.iconst (1), 1, none) := by decide +kernel
theorem k_135_47 : zD 135 47 = some (.goto (37), 3, none) ∧ zTg 47 (37) = some 84 := by decide +kernel
theorem k_135_50 : zD 135 50 = some (.aload_n 0, 1, none) := by decide +kernel
theorem k_135_51 : zD 135 51 = some (.getfield 152, 3, none) ∧ zFl (zOn 135) 152 = some (8, 19) ∧ zFc 8 19 = some 2 := by decide +kernel
theorem k_135_54 : zD 135 54 = some (.bipush (112), 2, none) := by decide +kernel
theorem k_135_56 : zD 135 56 = some (.bipush (101), 2, none) := by decide +kernel
theorem k_135_58 : zD 135 58 = some (.bipush (114), 2, none) := by decide +kernel
theorem k_135_60 : zD 135 60 = some (.bipush (115), 2, none) := by decide +kernel
theorem k_135_62 : zD 135 62 = some (.invokestatic 192, 3, none) ∧ zAt.lookup (zOn 135, 192) = none ∧ zCk (zOn 135) 192 = some (1, 137) ∧ (1 = 1 ∨ 1 = 3) ∧ zNp 137 = 4 ∧ zML 137 = 4 ∧ zRt 137 = some .long := by decide +kernel
theorem k_135_65 : zD 135 65 = some (.bipush (111), 2, none) := by decide +kernel
theorem k_135_67 : zD 135 67 = some (.invokestatic 196, 3, none) ∧ zAt.lookup (zOn 135, 196) = none ∧ zCk (zOn 135) 196 = some (1, 138) ∧ (1 = 1 ∨ 1 = 3) ∧ zNp 138 = 2 ∧ zML 138 = 3 ∧ zRt 138 = some .long := by decide +kernel
theorem k_135_70 : zD 135 70 = some (.bipush (110), 2, none) := by decide +kernel
theorem k_135_72 : zD 135 72 = some (.invokestatic 196, 3, none) ∧ zAt.lookup (zOn 135, 196) = none ∧ zCk (zOn 135) 196 = some (1, 138) ∧ (1 = 1 ∨ 1 = 3) ∧ zNp 138 = 2 ∧ zML 138 = 3 ∧ zRt 138 = some .long := by decide +kernel
theorem k_135_75 : zD 135 75 = some (.lcmp, 1, none) := by decide +kernel
theorem k_135_76 : zD 135 76 = some (.ifCond .ne (7), 3, none) ∧ zTg 76 (7) = some 83 := by decide +kernel
theorem k_135_79 : zD 135 79 = some (.iconst (2), 1, none) := by decide +kernel
theorem k_135_80 : zD 135 80 = some (.goto (4), 3, none) ∧ zTg 80 (4) = some 84 := by decide +kernel
theorem k_135_83 : zD 135 83 = some (.iconst (-1), 1, none) := by decide +kernel
theorem k_135_84 : zD 135 84 = some (.istore_n 1, 1, some [true, false, false]) := by decide +kernel
theorem k_135_85 : zD 135 85 = some (.iload_n 1, 1, none) := by decide +kernel
theorem k_135_86 : zD 135 86 = some (.ifCond .lt (15), 3, none) ∧ zTg 86 (15) = some 101 := by decide +kernel
theorem k_135_89 : zD 135 89 = some (.iload_n 1, 1, none) := by decide +kernel
theorem k_135_90 : zD 135 90 = some (.iconst (1), 1, none) := by decide +kernel
theorem k_135_91 : zD 135 91 = some (.if_icmp .ne (20), 3, none) ∧ zTg 91 (20) = some 111 := by decide +kernel
theorem k_135_94 : zD 135 94 = some (.aload_n 0, 1, none) := by decide +kernel
theorem k_135_95 : zD 135 95 = some (.getfield 204, 3, none) ∧ zFl (zOn 135) 204 = some (8, 26) ∧ zFc 8 26 = some 0 := by decide +kernel
theorem k_135_98 : zD 135 98 = some (.ifCond .le (13), 3, none) ∧ zTg 98 (13) = some 111 := by decide +kernel
theorem k_135_101 : zD 135 101 = some (.aload_n 0, 1, some [true, false, false]) := by decide +kernel
theorem k_135_102 : zD 135 102 = some (.iconst (1), 1, none) := by decide +kernel
theorem k_135_103 : zD 135 103 = some (.aload_n 0, 1, none) := by decide +kernel
theorem k_135_104 : zD 135 104 = some (.getfield 145, 3, none) ∧ zFl (zOn 135) 145 = some (8, 18) ∧ zFc 8 18 = some 0 := by decide +kernel
theorem k_135_107 : zD 135 107 = some (.invokevirtual 174, 3, none) ∧ zCk (zOn 135) 174 = some (0, 139) ∧ zNp 139 = 2 ∧ zML 139 = 3 ∧ zCo[8]? = some (zOn 139) ∧ (zRt 139 = some .int ∨ zRt 139 = some .boolean ∨ zRt 139 = some .char ∨ zRt 139 = some .byte) := by decide +kernel
theorem k_135_110 : zD 135 110 = some (.ireturn, 1, none) := by decide +kernel
theorem k_135_111 : zD 135 111 = some (.iload_n 1, 1, some [true, true, false]) := by decide +kernel
theorem k_135_112 : zD 135 112 = some (.ifCond .ne (13), 3, none) ∧ zTg 112 (13) = some 125 := by decide +kernel
theorem k_135_115 : zD 135 115 = some (.aload_n 0, 1, none) := by decide +kernel
theorem k_135_116 : zD 135 116 = some (.getfield 207, 3, none) ∧ zFl (zOn 135) 207 = some (8, 28) ∧ zFc 8 28 = some 0 := by decide +kernel
theorem k_135_119 : zD 135 119 = some (.ifCond .le (41), 3, none) ∧ zTg 119 (41) = some 160 := by decide +kernel
theorem k_135_122 : zD 135 122 = some (.goto (28), 3, none) ∧ zTg 122 (28) = some 150 := by decide +kernel
theorem k_135_125 : zD 135 125 = some (.iload_n 1, 1, none) := by decide +kernel
theorem k_135_126 : zD 135 126 = some (.iconst (1), 1, none) := by decide +kernel
theorem k_135_127 : zD 135 127 = some (.if_icmp .ne (15), 3, none) ∧ zTg 127 (15) = some 142 := by decide +kernel
theorem k_135_130 : zD 135 130 = some (.aload_n 0, 1, none) := by decide +kernel
theorem k_135_131 : zD 135 131 = some (.getfield 186, 3, none) ∧ zFl (zOn 135) 186 = some (8, 23) ∧ zFc 8 23 = some 0 := by decide +kernel
theorem k_135_134 : zD 135 134 = some (.bipush (6), 2, none) := by decide +kernel
theorem k_135_136 : zD 135 136 = some (.if_icmp .ne (24), 3, none) ∧ zTg 136 (24) = some 160 := by decide +kernel
theorem k_135_139 : zD 135 139 = some (.goto (11), 3, none) ∧ zTg 139 (11) = some 150 := by decide +kernel
theorem k_135_142 : zD 135 142 = some (.aload_n 0, 1, none) := by decide +kernel
theorem k_135_143 : zD 135 143 = some (.getfield 204, 3, none) ∧ zFl (zOn 135) 204 = some (8, 26) ∧ zFc 8 26 = some 0 := by decide +kernel
theorem k_135_146 : zD 135 146 = some (.iconst (5), 1, none) := by decide +kernel
theorem k_135_147 : zD 135 147 = some (.if_icmp .ne (13), 3, none) ∧ zTg 147 (13) = some 160 := by decide +kernel
theorem k_135_150 : zD 135 150 = some (.aload_n 0, 1, some [true, false, false]) := by decide +kernel
theorem k_135_151 : zD 135 151 = some (.iconst (3), 1, none) := by decide +kernel
theorem k_135_152 : zD 135 152 = some (.aload_n 0, 1, none) := by decide +kernel
theorem k_135_153 : zD 135 153 = some (.getfield 145, 3, none) ∧ zFl (zOn 135) 145 = some (8, 18) ∧ zFc 8 18 = some 0 := by decide +kernel
theorem k_135_156 : zD 135 156 = some (.invokevirtual 174, 3, none) ∧ zCk (zOn 135) 174 = some (0, 139) ∧ zNp 139 = 2 ∧ zML 139 = 3 ∧ zCo[8]? = some (zOn 139) ∧ (zRt 139 = some .int ∨ zRt 139 = some .boolean ∨ zRt 139 = some .char ∨ zRt 139 = some .byte) := by decide +kernel
theorem k_135_159 : zD 135 159 = some (.ireturn, 1, none) := by decide +kernel
theorem k_135_160 : zD 135 160 = some (.aload_n 0, 1, some [true, true, false]) := by decide +kernel
theorem k_135_161 : zD 135 161 = some (.aload_n 0, 1, none) := by decide +kernel
theorem k_135_162 : zD 135 162 = some (.getfield 155, 3, none) ∧ zFl (zOn 135) 155 = some (8, 20) ∧ zFc 8 20 = some 0 := by decide +kernel
theorem k_135_165 : zD 135 165 = some (.putfield 145, 3, none) ∧ zFl (zOn 135) 145 = some (8, 18) ∧ zFc 8 18 = some 0 := by decide +kernel
theorem k_135_168 : zD 135 168 = some (.iconst (0), 1, none) := by decide +kernel
theorem k_135_169 : zD 135 169 = some (.istore_n 2, 1, none) := by decide +kernel
theorem k_135_170 : zD 135 170 = some (.iload_n 1, 1, none) := by decide +kernel
theorem k_135_171 : zD 135 171 = some (.ifCond .ne (22), 3, none) ∧ zTg 171 (22) = some 193 := by decide +kernel
theorem k_135_174 : zD 135 174 = some (.aload_n 0, 1, none) := by decide +kernel
theorem k_135_175 : zD 135 175 = some (.iconst (2), 1, none) := by decide +kernel
theorem k_135_176 : zD 135 176 = some (.bipush (99), 2, none) := by decide +kernel
theorem k_135_178 : zD 135 178 = some (.invokevirtual 183, 3, none) ∧ zCk (zOn 135) 183 = some (0, 140) ∧ zNp 140 = 2 ∧ zML 140 = 4 ∧ zCo[8]? = some (zOn 140) ∧ (zRt 140 = some .int ∨ zRt 140 = some .boolean ∨ zRt 140 = some .char ∨ zRt 140 = some .byte) := by decide +kernel
theorem k_135_181 : zD 135 181 = some (.istore_n 2, 1, none) := by decide +kernel
theorem k_135_182 : zD 135 182 = some (.aload_n 0, 1, none) := by decide +kernel
theorem k_135_183 : zD 135 183 = some (.aload_n 0, 1, none) := by decide +kernel
theorem k_135_184 : zD 135 184 = some (.getfield 180, 3, none) ∧ zFl (zOn 135) 180 = some (8, 21) ∧ zFc 8 21 = some 0 := by decide +kernel
theorem k_135_187 : zD 135 187 = some (.putfield 207, 3, none) ∧ zFl (zOn 135) 207 = some (8, 28) ∧ zFc 8 28 = some 0 := by decide +kernel
theorem k_135_190 : zD 135 190 = some (.goto (20), 3, none) ∧ zTg 190 (20) = some 210 := by decide +kernel
theorem k_135_193 : zD 135 193 = some (.iload_n 1, 1, none) := by decide +kernel
theorem k_135_194 : zD 135 194 = some (.iconst (1), 1, none) := by decide +kernel
theorem k_135_195 : zD 135 195 = some (.if_icmp .ne (10), 3, none) ∧ zTg 195 (10) = some 205 := by decide +kernel
theorem k_135_198 : zD 135 198 = some (.aload_n 0, 1, none) := by decide +kernel
theorem k_135_199 : zD 135 199 = some (.invokevirtual 210, 3, none) ∧ zCk (zOn 135) 210 = some (0, 141) ∧ zNp 141 = 0 ∧ zML 141 = 3 ∧ zCo[8]? = some (zOn 141) ∧ (zRt 141 = some .int ∨ zRt 141 = some .boolean ∨ zRt 141 = some .char ∨ zRt 141 = some .byte) := by decide +kernel
theorem k_135_202 : zD 135 202 = some (.goto (7), 3, none) ∧ zTg 202 (7) = some 209 := by decide +kernel
theorem k_135_205 : zD 135 205 = some (.aload_n 0, 1, none) := by decide +kernel
theorem k_135_206 : zD 135 206 = some (.invokevirtual 213, 3, none) ∧ zCk (zOn 135) 213 = some (0, 143) ∧ zNp 143 = 0 ∧ zML 143 = 3 ∧ zCo[8]? = some (zOn 143) ∧ (zRt 143 = some .int ∨ zRt 143 = some .boolean ∨ zRt 143 = some .char ∨ zRt 143 = some .byte) := by decide +kernel
theorem k_135_209 : zD 135 209 = some (.istore_n 2, 1, some [true, false, false]) := by decide +kernel
theorem k_135_210 : zD 135 210 = some (.iload_n 2, 1, some [true, false, true]) := by decide +kernel
theorem k_135_211 : zD 135 211 = some (.ifCond .ne (22), 3, none) ∧ zTg 211 (22) = some 233 := by decide +kernel
theorem k_135_214 : zD 135 214 = some (.aload_n 0, 1, none) := by decide +kernel
theorem k_135_215 : zD 135 215 = some (.invokevirtual 148, 3, none) ∧ zCk (zOn 135) 148 = some (0, 134) ∧ zNp 134 = 0 ∧ zML 134 = 1 ∧ zCo[8]? = some (zOn 134) ∧ (zRt 134 = some .int ∨ zRt 134 = some .boolean ∨ zRt 134 = some .char ∨ zRt 134 = some .byte) := by decide +kernel
theorem k_135_218 : zD 135 218 = some (.bipush (59), 2, none) := by decide +kernel
theorem k_135_220 : zD 135 220 = some (.if_icmp .eq (13), 3, none) ∧ zTg 220 (13) = some 233 := by decide +kernel
theorem k_135_223 : zD 135 223 = some (.aload_n 0, 1, none) := by decide +kernel
theorem k_135_224 : zD 135 224 = some (.iconst (1), 1, none) := by decide +kernel
theorem k_135_225 : zD 135 225 = some (.aload_n 0, 1, none) := by decide +kernel
theorem k_135_226 : zD 135 226 = some (.getfield 145, 3, none) ∧ zFl (zOn 135) 145 = some (8, 18) ∧ zFc 8 18 = some 0 := by decide +kernel
theorem k_135_229 : zD 135 229 = some (.invokevirtual 174, 3, none) ∧ zCk (zOn 135) 174 = some (0, 139) ∧ zNp 139 = 2 ∧ zML 139 = 3 ∧ zCo[8]? = some (zOn 139) ∧ (zRt 139 = some .int ∨ zRt 139 = some .boolean ∨ zRt 139 = some .char ∨ zRt 139 = some .byte) := by decide +kernel
theorem k_135_232 : zD 135 232 = some (.ireturn, 1, none) := by decide +kernel
theorem k_135_233 : zD 135 233 = some (.aload_n 0, 1, some [true, false, true]) := by decide +kernel
theorem k_135_234 : zD 135 234 = some (.dup, 1, none) := by decide +kernel
theorem k_135_235 : zD 135 235 = some (.getfield 145, 3, none) ∧ zFl (zOn 135) 145 = some (8, 18) ∧ zFc 8 18 = some 0 := by decide +kernel
theorem k_135_238 : zD 135 238 = some (.iconst (1), 1, none) := by decide +kernel
theorem k_135_239 : zD 135 239 = some (.iadd, 1, none) := by decide +kernel
theorem k_135_240 : zD 135 240 = some (.putfield 145, 3, none) ∧ zFl (zOn 135) 145 = some (8, 18) ∧ zFc 8 18 = some 0 := by decide +kernel
theorem k_135_243 : zD 135 243 = some (.iload_n 2, 1, none) := by decide +kernel
theorem k_135_244 : zD 135 244 = some (.ireturn, 1, none) := by decide +kernel
theorem kd_135_84 : zD 135 84 = some (.istore_n 1, 1, some [true, false, false]) := k_135_84
theorem kd_135_101 : zD 135 101 = some (.aload_n 0, 1, some [true, false, false]) := k_135_101
theorem kd_135_111 : zD 135 111 = some (.iload_n 1, 1, some [true, true, false]) := k_135_111
theorem kd_135_150 : zD 135 150 = some (.aload_n 0, 1, some [true, false, false]) := k_135_150
theorem kd_135_160 : zD 135 160 = some (.aload_n 0, 1, some [true, true, false]) := k_135_160
theorem kd_135_209 : zD 135 209 = some (.istore_n 2, 1, some [true, false, false]) := k_135_209
theorem kd_135_210 : zD 135 210 = some (.iload_n 2, 1, some [true, false, true]) := k_135_210
theorem kd_135_233 : zD 135 233 = some (.aload_n 0, 1, some [true, false, true]) := k_135_233
theorem ml_136 : zML 136 = 2 := by decide +kernel
theorem rt_136 : zRt 136 = none := by decide +kernel
theorem k_136_0 : zD 136 0 = some (.aload_n 0, 1, none) := by decide +kernel
theorem k_136_1 : zD 136 1 = some (.invokevirtual 148, 3, none) ∧ zCk (zOn 136) 148 = some (0, 134) ∧ zNp 134 = 0 ∧ zML 134 = 1 ∧ zCo[8]? = some (zOn 134) ∧ (zRt 134 = some .int ∨ zRt 134 = some .boolean ∨ zRt 134 = some .char ∨ zRt 134 = some .byte) := by decide +kernel
theorem k_136_4 : zD 136 4 = some (.istore_n 1, 1, none) := by decide +kernel
theorem k_136_5 : zD 136 5 = some (.aload_n 0, 1, none) := by decide +kernel
theorem k_136_6 : zD 136 6 = some (.lconst 0, 1, none) := by decide +kernel
theorem k_136_7 : zD 136 7 = some (.putfield 152, 3, none) ∧ zFl (zOn 136) 152 = some (8, 19) ∧ zFc 8 19 = some 2 := by decide +kernel
theorem k_136_10 : zD 136 10 = some (.aload_n 0, 1, none) := by decide +kernel
theorem k_136_11 : zD 136 11 = some (.aload_n 0, 1, none) := by decide +kernel
theorem k_136_12 : zD 136 12 = some (.getfield 145, 3, none) ∧ zFl (zOn 136) 145 = some (8, 18) ∧ zFc 8 18 = some 0 := by decide +kernel
theorem k_136_15 : zD 136 15 = some (.putfield 155, 3, none) ∧ zFl (zOn 136) 155 = some (8, 20) ∧ zFc 8 20 = some 0 := by decide +kernel
theorem k_136_18 : zD 136 18 = some (.aload_n 0, 1, some [true, false]) := by decide +kernel
theorem k_136_19 : zD 136 19 = some (.getfield 155, 3, none) ∧ zFl (zOn 136) 155 = some (8, 20) ∧ zFc 8 20 = some 0 := by decide +kernel
theorem k_136_22 : zD 136 22 = some (.aload_n 0, 1, none) := by decide +kernel
theorem k_136_23 : zD 136 23 = some (.getfield 139, 3, none) ∧ zFl (zOn 136) 139 = some (8, 16) ∧ zFc 8 16 = some 0 := by decide +kernel
theorem k_136_26 : zD 136 26 = some (.if_icmp .ge (82), 3, none) ∧ zTg 26 (82) = some 108 := by decide +kernel
theorem k_136_29 : zD 136 29 = some (.aload_n 0, 1, none) := by decide +kernel
theorem k_136_30 : zD 136 30 = some (.getfield 42, 3, none) ∧ zFl (zOn 136) 42 = some (8, 15) ∧ zFc 8 15 = some 3 := by decide +kernel
theorem k_136_33 : zD 136 33 = some (.aload_n 0, 1, none) := by decide +kernel
theorem k_136_34 : zD 136 34 = some (.getfield 155, 3, none) ∧ zFl (zOn 136) 155 = some (8, 20) ∧ zFc 8 20 = some 0 := by decide +kernel
theorem k_136_37 : zD 136 37 = some (.iaload, 1, none) := by decide +kernel
theorem k_136_38 : zD 136 38 = some (.i2l, 1, none) := by decide +kernel
theorem k_136_39 : zD 136 39 = some (.ldc2_w 158, 3, none) ∧ zKc (zOn 136) 158 = some (.inr 97) := by decide +kernel
theorem k_136_42 : zD 136 42 = some (.ldc2_w 160, 3, none) ∧ zKc (zOn 136) 160 = some (.inr 122) := by decide +kernel
theorem k_136_45 : zD 136 45 = some (.invokestatic 106, 3, none) ∧ zAt.lookup (zOn 136, 106) = none ∧ zCk (zOn 136) 106 = some (1, 132) ∧ (1 = 1 ∨ 1 = 3) ∧ zNp 132 = 3 ∧ zML 132 = 6 ∧ (zRt 132 = some .int ∨ zRt 132 = some .boolean ∨ zRt 132 = some .char ∨ zRt 132 = some .byte) := by decide +kernel
theorem k_136_48 : zD 136 48 = some (.ifCond .eq (60), 3, none) ∧ zTg 48 (60) = some 108 := by decide +kernel
theorem k_136_108 : zD 136 108 = some (.return_, 1, some [false, false]) := by decide +kernel
theorem k_136_51 : zD 136 51 = some (.aload_n 0, 1, none) := by decide +kernel
theorem k_136_52 : zD 136 52 = some (.aload_n 0, 1, none) := by decide +kernel
theorem k_136_53 : zD 136 53 = some (.getfield 152, 3, none) ∧ zFl (zOn 136) 152 = some (8, 19) ∧ zFc 8 19 = some 2 := by decide +kernel
theorem k_136_56 : zD 136 56 = some (.ldc2_w 162, 3, none) ∧ zKc (zOn 136) 162 = some (.inr 10000000000000) := by decide +kernel
theorem k_136_59 : zD 136 59 = some (.lcmp, 1, none) := by decide +kernel
theorem k_136_60 : zD 136 60 = some (.ifCond .le (9), 3, none) ∧ zTg 60 (9) = some 69 := by decide +kernel
theorem k_136_63 : zD 136 63 = some (.ldc2_w 164, 3, none) ∧ zKc (zOn 136) 164 = some (.inr 20000000000000) := by decide +kernel
theorem k_136_66 : zD 136 66 = some (.goto (26), 3, none) ∧ zTg 66 (26) = some 92 := by decide +kernel
theorem k_136_69 : zD 136 69 = some (.ldc2_w 166, 3, none) ∧ zKc (zOn 136) 166 = some (.inr 27) := by decide +kernel
theorem k_136_72 : zD 136 72 = some (.aload_n 0, 1, none) := by decide +kernel
theorem k_136_73 : zD 136 73 = some (.getfield 152, 3, none) ∧ zFl (zOn 136) 152 = some (8, 19) ∧ zFc 8 19 = some 2 := by decide +kernel
theorem k_136_76 : zD 136 76 = some (.lmul, 1, none) := by decide +kernel
theorem k_136_77 : zD 136 77 = some (.aload_n 0, 1, none) := by decide +kernel
theorem k_136_78 : zD 136 78 = some (.getfield 42, 3, none) ∧ zFl (zOn 136) 42 = some (8, 15) ∧ zFc 8 15 = some 3 := by decide +kernel
theorem k_136_81 : zD 136 81 = some (.aload_n 0, 1, none) := by decide +kernel
theorem k_136_82 : zD 136 82 = some (.getfield 155, 3, none) ∧ zFl (zOn 136) 155 = some (8, 20) ∧ zFc 8 20 = some 0 := by decide +kernel
theorem k_136_85 : zD 136 85 = some (.iaload, 1, none) := by decide +kernel
theorem k_136_86 : zD 136 86 = some (.i2l, 1, none) := by decide +kernel
theorem k_136_87 : zD 136 87 = some (.ladd, 1, none) := by decide +kernel
theorem k_136_88 : zD 136 88 = some (.ldc2_w 168, 3, none) ∧ zKc (zOn 136) 168 = some (.inr 96) := by decide +kernel
theorem k_136_91 : zD 136 91 = some (.lsub, 1, none) := by decide +kernel
theorem k_136_92 : zD 136 92 = some (.putfield 152, 3, some [true, false]) ∧ zFl (zOn 136) 152 = some (8, 19) ∧ zFc 8 19 = some 2 := by decide +kernel
theorem k_136_95 : zD 136 95 = some (.aload_n 0, 1, none) := by decide +kernel
theorem k_136_96 : zD 136 96 = some (.dup, 1, none) := by decide +kernel
theorem k_136_97 : zD 136 97 = some (.getfield 155, 3, none) ∧ zFl (zOn 136) 155 = some (8, 20) ∧ zFc 8 20 = some 0 := by decide +kernel
theorem k_136_100 : zD 136 100 = some (.iconst (1), 1, none) := by decide +kernel
theorem k_136_101 : zD 136 101 = some (.iadd, 1, none) := by decide +kernel
theorem k_136_102 : zD 136 102 = some (.putfield 155, 3, none) ∧ zFl (zOn 136) 155 = some (8, 20) ∧ zFc 8 20 = some 0 := by decide +kernel
theorem k_136_105 : zD 136 105 = some (.goto (-87), 3, none) ∧ zTg 105 (-87) = some 18 := by decide +kernel
theorem kd_136_18 : zD 136 18 = some (.aload_n 0, 1, some [true, false]) := k_136_18
theorem kd_136_92 : zD 136 92 = some (.putfield 152, 3, some [true, false]) := k_136_92.1
theorem kd_136_108 : zD 136 108 = some (.return_, 1, some [false, false]) := k_136_108
theorem ml_137 : zML 137 = 4 := by decide +kernel
theorem rt_137 : zRt 137 = some .long := by decide +kernel
theorem k_137_0 : zD 137 0 = some (.ldc2_w 166, 3, none) ∧ zKc (zOn 137) 166 = some (.inr 27) := by decide +kernel
theorem k_137_3 : zD 137 3 = some (.ldc2_w 166, 3, none) ∧ zKc (zOn 137) 166 = some (.inr 27) := by decide +kernel
theorem k_137_6 : zD 137 6 = some (.ldc2_w 166, 3, none) ∧ zKc (zOn 137) 166 = some (.inr 27) := by decide +kernel
theorem k_137_9 : zD 137 9 = some (.iload_n 0, 1, none) := by decide +kernel
theorem k_137_10 : zD 137 10 = some (.i2l, 1, none) := by decide +kernel
theorem k_137_11 : zD 137 11 = some (.ldc2_w 168, 3, none) ∧ zKc (zOn 137) 168 = some (.inr 96) := by decide +kernel
theorem k_137_14 : zD 137 14 = some (.lsub, 1, none) := by decide +kernel
theorem k_137_15 : zD 137 15 = some (.lmul, 1, none) := by decide +kernel
theorem k_137_16 : zD 137 16 = some (.iload_n 1, 1, none) := by decide +kernel
theorem k_137_17 : zD 137 17 = some (.i2l, 1, none) := by decide +kernel
theorem k_137_18 : zD 137 18 = some (.ladd, 1, none) := by decide +kernel
theorem k_137_19 : zD 137 19 = some (.ldc2_w 168, 3, none) ∧ zKc (zOn 137) 168 = some (.inr 96) := by decide +kernel
theorem k_137_22 : zD 137 22 = some (.lsub, 1, none) := by decide +kernel
theorem k_137_23 : zD 137 23 = some (.lmul, 1, none) := by decide +kernel
theorem k_137_24 : zD 137 24 = some (.iload_n 2, 1, none) := by decide +kernel
theorem k_137_25 : zD 137 25 = some (.i2l, 1, none) := by decide +kernel
theorem k_137_26 : zD 137 26 = some (.ladd, 1, none) := by decide +kernel
theorem k_137_27 : zD 137 27 = some (.ldc2_w 168, 3, none) ∧ zKc (zOn 137) 168 = some (.inr 96) := by decide +kernel
theorem k_137_30 : zD 137 30 = some (.lsub, 1, none) := by decide +kernel
theorem k_137_31 : zD 137 31 = some (.lmul, 1, none) := by decide +kernel
theorem k_137_32 : zD 137 32 = some (.iload_n 3, 1, none) := by decide +kernel
theorem k_137_33 : zD 137 33 = some (.i2l, 1, none) := by decide +kernel
theorem k_137_34 : zD 137 34 = some (.ladd, 1, none) := by decide +kernel
theorem k_137_35 : zD 137 35 = some (.ldc2_w 168, 3, none) ∧ zKc (zOn 137) 168 = some (.inr 96) := by decide +kernel
theorem k_137_38 : zD 137 38 = some (.lsub, 1, none) := by decide +kernel
theorem k_137_39 : zD 137 39 = some (.lreturn, 1, none) := by decide +kernel
theorem ml_138 : zML 138 = 3 := by decide +kernel
theorem rt_138 : zRt 138 = some .long := by decide +kernel
theorem k_138_0 : zD 138 0 = some (.ldc2_w 166, 3, none) ∧ zKc (zOn 138) 166 = some (.inr 27) := by decide +kernel
theorem k_138_3 : zD 138 3 = some (.lload_n 0, 1, none) := by decide +kernel
theorem k_138_4 : zD 138 4 = some (.lmul, 1, none) := by decide +kernel
theorem k_138_5 : zD 138 5 = some (.iload_n 2, 1, none) := by decide +kernel
theorem k_138_6 : zD 138 6 = some (.i2l, 1, none) := by decide +kernel
theorem k_138_7 : zD 138 7 = some (.ladd, 1, none) := by decide +kernel
theorem k_138_8 : zD 138 8 = some (.ldc2_w 168, 3, none) ∧ zKc (zOn 138) 168 = some (.inr 96) := by decide +kernel
theorem k_138_11 : zD 138 11 = some (.lsub, 1, none) := by decide +kernel
theorem k_138_12 : zD 138 12 = some (.lreturn, 1, none) := by decide +kernel
theorem ml_139 : zML 139 = 3 := by decide +kernel
theorem rt_139 : zRt 139 = some .int := by decide +kernel
theorem k_139_0 : zD 139 0 = some (.aload_n 0, 1, none) := by decide +kernel
theorem k_139_1 : zD 139 1 = some (.iload_n 2, 1, none) := by decide +kernel
theorem k_139_2 : zD 139 2 = some (.putfield 45, 3, none) ∧ zFl (zOn 139) 45 = some (8, 17) ∧ zFc 8 17 = some 0 := by decide +kernel
theorem k_139_5 : zD 139 5 = some (.iload_n 1, 1, none) := by decide +kernel
theorem k_139_6 : zD 139 6 = some (.ireturn, 1, none) := by decide +kernel
theorem ml_140 : zML 140 = 4 := by decide +kernel
theorem rt_140 : zRt 140 = some .int := by decide +kernel
theorem k_140_0 : zD 140 0 = some (.aload_n 0, 1, none) := by decide +kernel
theorem k_140_1 : zD 140 1 = some (.invokevirtual 148, 3, none) ∧ zCk (zOn 140) 148 = some (0, 134) ∧ zNp 134 = 0 ∧ zML 134 = 1 ∧ zCo[8]? = some (zOn 134) ∧ (zRt 134 = some .int ∨ zRt 134 = some .boolean ∨ zRt 134 = some .char ∨ zRt 134 = some .byte) := by decide +kernel
theorem k_140_4 : zD 140 4 = some (.istore_n 3, 1, none) := by decide +kernel
theorem k_140_5 : zD 140 5 = some (.iload_n 3, 1, none) := by decide +kernel
theorem k_140_6 : zD 140 6 = some (.i2l, 1, none) := by decide +kernel
theorem k_140_7 : zD 140 7 = some (.ldc2_w 170, 3, none) ∧ zKc (zOn 140) 170 = some (.inr 48) := by decide +kernel
theorem k_140_10 : zD 140 10 = some (.ldc2_w 172, 3, none) ∧ zKc (zOn 140) 172 = some (.inr 57) := by decide +kernel
theorem k_140_13 : zD 140 13 = some (.invokestatic 106, 3, none) ∧ zAt.lookup (zOn 140, 106) = none ∧ zCk (zOn 140) 106 = some (1, 132) ∧ (1 = 1 ∨ 1 = 3) ∧ zNp 132 = 3 ∧ zML 132 = 6 ∧ (zRt 132 = some .int ∨ zRt 132 = some .boolean ∨ zRt 132 = some .char ∨ zRt 132 = some .byte) := by decide +kernel
theorem k_140_16 : zD 140 16 = some (.ifCond .ne (13), 3, none) ∧ zTg 16 (13) = some 29 := by decide +kernel
theorem k_140_19 : zD 140 19 = some (.aload_n 0, 1, none) := by decide +kernel
theorem k_140_20 : zD 140 20 = some (.iconst (1), 1, none) := by decide +kernel
theorem k_140_21 : zD 140 21 = some (.aload_n 0, 1, none) := by decide +kernel
theorem k_140_22 : zD 140 22 = some (.getfield 145, 3, none) ∧ zFl (zOn 140) 145 = some (8, 18) ∧ zFc 8 18 = some 0 := by decide +kernel
theorem k_140_25 : zD 140 25 = some (.invokevirtual 174, 3, none) ∧ zCk (zOn 140) 174 = some (0, 139) ∧ zNp 139 = 2 ∧ zML 139 = 3 ∧ zCo[8]? = some (zOn 139) ∧ (zRt 139 = some .int ∨ zRt 139 = some .boolean ∨ zRt 139 = some .char ∨ zRt 139 = some .byte) := by decide +kernel
theorem k_140_28 : zD 140 28 = some (.ireturn, 1, none) := by decide +kernel
theorem k_140_29 : zD 140 29 = some (.aload_n 0, 1, none) := by decide +kernel
theorem k_140_30 : zD 140 30 = some (.aload_n 0, 1, none) := by decide +kernel
theorem k_140_31 : zD 140 31 = some (.getfield 145, 3, none) ∧ zFl (zOn 140) 145 = some (8, 18) ∧ zFc 8 18 = some 0 := by decide +kernel
theorem k_140_34 : zD 140 34 = some (.putfield 177, 3, none) ∧ zFl (zOn 140) 177 = some (8, 22) ∧ zFc 8 22 = some 0 := by decide +kernel
theorem k_140_37 : zD 140 37 = some (.aload_n 0, 1, none) := by decide +kernel
theorem k_140_38 : zD 140 38 = some (.iconst (0), 1, none) := by decide +kernel
theorem k_140_39 : zD 140 39 = some (.putfield 180, 3, none) ∧ zFl (zOn 140) 180 = some (8, 21) ∧ zFc 8 21 = some 0 := by decide +kernel
theorem k_140_42 : zD 140 42 = some (.aload_n 0, 1, some [true, true, true, false]) := by decide +kernel
theorem k_140_43 : zD 140 43 = some (.getfield 145, 3, none) ∧ zFl (zOn 140) 145 = some (8, 18) ∧ zFc 8 18 = some 0 := by decide +kernel
theorem k_140_46 : zD 140 46 = some (.aload_n 0, 1, none) := by decide +kernel
theorem k_140_47 : zD 140 47 = some (.getfield 139, 3, none) ∧ zFl (zOn 140) 139 = some (8, 16) ∧ zFc 8 16 = some 0 := by decide +kernel
theorem k_140_50 : zD 140 50 = some (.if_icmp .ge (79), 3, none) ∧ zTg 50 (79) = some 129 := by decide +kernel
theorem k_140_53 : zD 140 53 = some (.aload_n 0, 1, none) := by decide +kernel
theorem k_140_54 : zD 140 54 = some (.getfield 42, 3, none) ∧ zFl (zOn 140) 42 = some (8, 15) ∧ zFc 8 15 = some 3 := by decide +kernel
theorem k_140_57 : zD 140 57 = some (.aload_n 0, 1, none) := by decide +kernel
theorem k_140_58 : zD 140 58 = some (.getfield 145, 3, none) ∧ zFl (zOn 140) 145 = some (8, 18) ∧ zFc 8 18 = some 0 := by decide +kernel
theorem k_140_61 : zD 140 61 = some (.iaload, 1, none) := by decide +kernel
theorem k_140_62 : zD 140 62 = some (.i2l, 1, none) := by decide +kernel
theorem k_140_63 : zD 140 63 = some (.ldc2_w 170, 3, none) ∧ zKc (zOn 140) 170 = some (.inr 48) := by decide +kernel
theorem k_140_66 : zD 140 66 = some (.ldc2_w 172, 3, none) ∧ zKc (zOn 140) 172 = some (.inr 57) := by decide +kernel
theorem k_140_69 : zD 140 69 = some (.invokestatic 106, 3, none) ∧ zAt.lookup (zOn 140, 106) = none ∧ zCk (zOn 140) 106 = some (1, 132) ∧ (1 = 1 ∨ 1 = 3) ∧ zNp 132 = 3 ∧ zML 132 = 6 ∧ (zRt 132 = some .int ∨ zRt 132 = some .boolean ∨ zRt 132 = some .char ∨ zRt 132 = some .byte) := by decide +kernel
theorem k_140_72 : zD 140 72 = some (.ifCond .eq (57), 3, none) ∧ zTg 72 (57) = some 129 := by decide +kernel
theorem k_140_75 : zD 140 75 = some (.aload_n 0, 1, none) := by decide +kernel
theorem k_140_76 : zD 140 76 = some (.aload_n 0, 1, none) := by decide +kernel
theorem k_140_77 : zD 140 77 = some (.getfield 180, 3, none) ∧ zFl (zOn 140) 180 = some (8, 21) ∧ zFc 8 21 = some 0 := by decide +kernel
theorem k_140_80 : zD 140 80 = some (.sipush (10000), 3, none) := by decide +kernel
theorem k_140_83 : zD 140 83 = some (.if_icmp .le (10), 3, none) ∧ zTg 83 (10) = some 93 := by decide +kernel
theorem k_140_86 : zD 140 86 = some (.aload_n 0, 1, none) := by decide +kernel
theorem k_140_87 : zD 140 87 = some (.getfield 180, 3, none) ∧ zFl (zOn 140) 180 = some (8, 21) ∧ zFc 8 21 = some 0 := by decide +kernel
theorem k_140_90 : zD 140 90 = some (.goto (23), 3, none) ∧ zTg 90 (23) = some 113 := by decide +kernel
theorem k_140_93 : zD 140 93 = some (.bipush (10), 2, none) := by decide +kernel
theorem k_140_95 : zD 140 95 = some (.aload_n 0, 1, none) := by decide +kernel
theorem k_140_96 : zD 140 96 = some (.getfield 180, 3, none) ∧ zFl (zOn 140) 180 = some (8, 21) ∧ zFc 8 21 = some 0 := by decide +kernel
theorem k_140_99 : zD 140 99 = some (.imul, 1, none) := by decide +kernel
theorem k_140_100 : zD 140 100 = some (.aload_n 0, 1, none) := by decide +kernel
theorem k_140_101 : zD 140 101 = some (.getfield 42, 3, none) ∧ zFl (zOn 140) 42 = some (8, 15) ∧ zFc 8 15 = some 3 := by decide +kernel
theorem k_140_104 : zD 140 104 = some (.aload_n 0, 1, none) := by decide +kernel
theorem k_140_105 : zD 140 105 = some (.getfield 145, 3, none) ∧ zFl (zOn 140) 145 = some (8, 18) ∧ zFc 8 18 = some 0 := by decide +kernel
theorem k_140_108 : zD 140 108 = some (.iaload, 1, none) := by decide +kernel
theorem k_140_109 : zD 140 109 = some (.iadd, 1, none) := by decide +kernel
theorem k_140_110 : zD 140 110 = some (.bipush (48), 2, none) := by decide +kernel
theorem k_140_112 : zD 140 112 = some (.isub, 1, none) := by decide +kernel
theorem k_140_113 : zD 140 113 = some (.putfield 180, 3, some [true, true, true, false]) ∧ zFl (zOn 140) 180 = some (8, 21) ∧ zFc 8 21 = some 0 := by decide +kernel
theorem k_140_116 : zD 140 116 = some (.aload_n 0, 1, none) := by decide +kernel
theorem k_140_117 : zD 140 117 = some (.dup, 1, none) := by decide +kernel
theorem k_140_118 : zD 140 118 = some (.getfield 145, 3, none) ∧ zFl (zOn 140) 145 = some (8, 18) ∧ zFc 8 18 = some 0 := by decide +kernel
theorem k_140_121 : zD 140 121 = some (.iconst (1), 1, none) := by decide +kernel
theorem k_140_122 : zD 140 122 = some (.iadd, 1, none) := by decide +kernel
theorem k_140_123 : zD 140 123 = some (.putfield 145, 3, none) ∧ zFl (zOn 140) 145 = some (8, 18) ∧ zFc 8 18 = some 0 := by decide +kernel
theorem k_140_126 : zD 140 126 = some (.goto (-84), 3, none) ∧ zTg 126 (-84) = some 42 := by decide +kernel
theorem k_140_129 : zD 140 129 = some (.aload_n 0, 1, some [true, true, true, false]) := by decide +kernel
theorem k_140_130 : zD 140 130 = some (.getfield 145, 3, none) ∧ zFl (zOn 140) 145 = some (8, 18) ∧ zFc 8 18 = some 0 := by decide +kernel
theorem k_140_133 : zD 140 133 = some (.aload_n 0, 1, none) := by decide +kernel
theorem k_140_134 : zD 140 134 = some (.getfield 177, 3, none) ∧ zFl (zOn 140) 177 = some (8, 22) ∧ zFc 8 22 = some 0 := by decide +kernel
theorem k_140_137 : zD 140 137 = some (.isub, 1, none) := by decide +kernel
theorem k_140_138 : zD 140 138 = some (.iconst (3), 1, none) := by decide +kernel
theorem k_140_139 : zD 140 139 = some (.if_icmp .gt (18), 3, none) ∧ zTg 139 (18) = some 157 := by decide +kernel
theorem k_140_142 : zD 140 142 = some (.aload_n 0, 1, none) := by decide +kernel
theorem k_140_143 : zD 140 143 = some (.getfield 180, 3, none) ∧ zFl (zOn 140) 180 = some (8, 21) ∧ zFc 8 21 = some 0 := by decide +kernel
theorem k_140_146 : zD 140 146 = some (.i2l, 1, none) := by decide +kernel
theorem k_140_147 : zD 140 147 = some (.iload_n 1, 1, none) := by decide +kernel
theorem k_140_148 : zD 140 148 = some (.i2l, 1, none) := by decide +kernel
theorem k_140_149 : zD 140 149 = some (.iload_n 2, 1, none) := by decide +kernel
theorem k_140_150 : zD 140 150 = some (.i2l, 1, none) := by decide +kernel
theorem k_140_151 : zD 140 151 = some (.invokestatic 106, 3, none) ∧ zAt.lookup (zOn 140, 106) = none ∧ zCk (zOn 140) 106 = some (1, 132) ∧ (1 = 1 ∨ 1 = 3) ∧ zNp 132 = 3 ∧ zML 132 = 6 ∧ (zRt 132 = some .int ∨ zRt 132 = some .boolean ∨ zRt 132 = some .char ∨ zRt 132 = some .byte) := by decide +kernel
theorem k_140_154 : zD 140 154 = some (.ifCond .ne (15), 3, none) ∧ zTg 154 (15) = some 169 := by decide +kernel
theorem k_140_169 : zD 140 169 = some (.iconst (0), 1, none) := by decide +kernel
theorem k_140_170 : zD 140 170 = some (.ireturn, 1, some [false, false, false, false]) := by decide +kernel
theorem k_140_157 : zD 140 157 = some (.aload_n 0, 1, some [true, false, false, false]) := by decide +kernel
theorem k_140_158 : zD 140 158 = some (.iconst (2), 1, none) := by decide +kernel
theorem k_140_159 : zD 140 159 = some (.aload_n 0, 1, none) := by decide +kernel
theorem k_140_160 : zD 140 160 = some (.getfield 177, 3, none) ∧ zFl (zOn 140) 177 = some (8, 22) ∧ zFc 8 22 = some 0 := by decide +kernel
theorem k_140_163 : zD 140 163 = some (.invokevirtual 174, 3, none) ∧ zCk (zOn 140) 174 = some (0, 139) ∧ zNp 139 = 2 ∧ zML 139 = 3 ∧ zCo[8]? = some (zOn 139) ∧ (zRt 139 = some .int ∨ zRt 139 = some .boolean ∨ zRt 139 = some .char ∨ zRt 139 = some .byte) := by decide +kernel
theorem k_140_166 : zD 140 166 = some (.goto (4), 3, none) ∧ zTg 166 (4) = some 170 := by decide +kernel
theorem kd_140_42 : zD 140 42 = some (.aload_n 0, 1, some [true, true, true, false]) := k_140_42
theorem kd_140_113 : zD 140 113 = some (.putfield 180, 3, some [true, true, true, false]) := k_140_113.1
theorem kd_140_129 : zD 140 129 = some (.aload_n 0, 1, some [true, true, true, false]) := k_140_129
theorem kd_140_157 : zD 140 157 = some (.aload_n 0, 1, some [true, false, false, false]) := k_140_157
theorem kd_140_170 : zD 140 170 = some (.ireturn, 1, some [false, false, false, false]) := k_140_170
theorem ml_141 : zML 141 = 3 := by decide +kernel
theorem rt_141 : zRt 141 = some .int := by decide +kernel
theorem k_141_0 : zD 141 0 = some (.aload_n 0, 1, none) := by decide +kernel
theorem k_141_1 : zD 141 1 = some (.getfield 186, 3, none) ∧ zFl (zOn 141) 186 = some (8, 23) ∧ zFc 8 23 = some 0 := by decide +kernel
theorem k_141_4 : zD 141 4 = some (.istore_n 1, 1, none) := by decide +kernel
theorem k_141_5 : zD 141 5 = some (.aload_n 0, 1, none) := by decide +kernel
theorem k_141_6 : zD 141 6 = some (.getfield 51, 3, none) ∧ zFl (zOn 141) 51 = some (8, 25) ∧ zFc 8 25 = some 3 := by decide +kernel
theorem k_141_9 : zD 141 9 = some (.iload_n 1, 1, none) := by decide +kernel
theorem k_141_10 : zD 141 10 = some (.iconst (0), 1, none) := by decide +kernel
theorem k_141_11 : zD 141 11 = some (.iastore, 1, none) := by decide +kernel
theorem k_141_12 : zD 141 12 = some (.aload_n 0, 1, none) := by decide +kernel
theorem k_141_13 : zD 141 13 = some (.iconst (1), 1, none) := by decide +kernel
theorem k_141_14 : zD 141 14 = some (.bipush (99), 2, none) := by decide +kernel
theorem k_141_16 : zD 141 16 = some (.invokevirtual 183, 3, none) ∧ zCk (zOn 141) 183 = some (0, 140) ∧ zNp 140 = 2 ∧ zML 140 = 4 ∧ zCo[8]? = some (zOn 140) ∧ (zRt 140 = some .int ∨ zRt 140 = some .boolean ∨ zRt 140 = some .char ∨ zRt 140 = some .byte) := by decide +kernel
theorem k_141_19 : zD 141 19 = some (.istore_n 2, 1, none) := by decide +kernel
theorem k_141_20 : zD 141 20 = some (.aload_n 0, 1, none) := by decide +kernel
theorem k_141_21 : zD 141 21 = some (.getfield 48, 3, none) ∧ zFl (zOn 141) 48 = some (8, 24) ∧ zFc 8 24 = some 3 := by decide +kernel
theorem k_141_24 : zD 141 24 = some (.iload_n 1, 1, none) := by decide +kernel
theorem k_141_25 : zD 141 25 = some (.aload_n 0, 1, none) := by decide +kernel
theorem k_141_26 : zD 141 26 = some (.getfield 180, 3, none) ∧ zFl (zOn 141) 180 = some (8, 21) ∧ zFc 8 21 = some 0 := by decide +kernel
theorem k_141_29 : zD 141 29 = some (.iastore, 1, none) := by decide +kernel
theorem k_141_30 : zD 141 30 = some (.iload_n 2, 1, none) := by decide +kernel
theorem k_141_31 : zD 141 31 = some (.ifCond .ne (60), 3, none) ∧ zTg 31 (60) = some 91 := by decide +kernel
theorem k_141_34 : zD 141 34 = some (.aload_n 0, 1, none) := by decide +kernel
theorem k_141_35 : zD 141 35 = some (.invokevirtual 189, 3, none) ∧ zCk (zOn 141) 189 = some (0, 136) ∧ zNp 136 = 0 ∧ zML 136 = 2 ∧ zCo[8]? = some (zOn 136) ∧ zRt 136 = none := by decide +kernel
theorem k_141_38 : zD 141 38 = some (.aload_n 0, 1, none) := by decide +kernel
theorem k_141_39 : zD 141 39 = some (.getfield 152, 3, none) ∧ zFl (zOn 141) 152 = some (8, 19) ∧ zFc 8 19 = some 2 := by decide +kernel
theorem k_141_42 : zD 141 42 = some (.bipush (102), 2, none) := by decide +kernel
theorem k_141_44 : zD 141 44 = some (.bipush (111), 2, none) := by decide +kernel
theorem k_141_46 : zD 141 46 = some (.bipush (108), 2, none) := by decide +kernel
theorem k_141_48 : zD 141 48 = some (.bipush (108), 2, none) := by decide +kernel
theorem k_141_50 : zD 141 50 = some (.invokestatic 192, 3, none) ∧ zAt.lookup (zOn 141, 192) = none ∧ zCk (zOn 141) 192 = some (1, 137) ∧ (1 = 1 ∨ 1 = 3) ∧ zNp 137 = 4 ∧ zML 137 = 4 ∧ zRt 137 = some .long := by decide +kernel
theorem k_141_53 : zD 141 53 = some (.bipush (111), 2, none) := by decide +kernel
theorem k_141_55 : zD 141 55 = some (.invokestatic 196, 3, none) ∧ zAt.lookup (zOn 141, 196) = none ∧ zCk (zOn 141) 196 = some (1, 138) ∧ (1 = 1 ∨ 1 = 3) ∧ zNp 138 = 2 ∧ zML 138 = 3 ∧ zRt 138 = some .long := by decide +kernel
theorem k_141_58 : zD 141 58 = some (.bipush (119), 2, none) := by decide +kernel
theorem k_141_60 : zD 141 60 = some (.invokestatic 196, 3, none) ∧ zAt.lookup (zOn 141, 196) = none ∧ zCk (zOn 141) 196 = some (1, 138) ∧ (1 = 1 ∨ 1 = 3) ∧ zNp 138 = 2 ∧ zML 138 = 3 ∧ zRt 138 = some .long := by decide +kernel
theorem k_141_63 : zD 141 63 = some (.bipush (115), 2, none) := by decide +kernel
theorem k_141_65 : zD 141 65 = some (.invokestatic 196, 3, none) ∧ zAt.lookup (zOn 141, 196) = none ∧ zCk (zOn 141) 196 = some (1, 138) ∧ (1 = 1 ∨ 1 = 3) ∧ zNp 138 = 2 ∧ zML 138 = 3 ∧ zRt 138 = some .long := by decide +kernel
theorem k_141_68 : zD 141 68 = some (.lcmp, 1, none) := by decide +kernel
theorem k_141_69 : zD 141 69 = some (.ifCond .ne (22), 3, none) ∧ zTg 69 (22) = some 91 := by decide +kernel
theorem k_141_72 : zD 141 72 = some (.aload_n 0, 1, none) := by decide +kernel
theorem k_141_73 : zD 141 73 = some (.aload_n 0, 1, none) := by decide +kernel
theorem k_141_74 : zD 141 74 = some (.getfield 155, 3, none) ∧ zFl (zOn 141) 155 = some (8, 20) ∧ zFc 8 20 = some 0 := by decide +kernel
theorem k_141_77 : zD 141 77 = some (.putfield 145, 3, none) ∧ zFl (zOn 141) 145 = some (8, 18) ∧ zFc 8 18 = some 0 := by decide +kernel
theorem k_141_80 : zD 141 80 = some (.aload_n 0, 1, none) := by decide +kernel
theorem k_141_81 : zD 141 81 = some (.aload_n 0, 1, none) := by decide +kernel
theorem k_141_82 : zD 141 82 = some (.getfield 51, 3, none) ∧ zFl (zOn 141) 51 = some (8, 25) ∧ zFc 8 25 = some 3 := by decide +kernel
theorem k_141_85 : zD 141 85 = some (.iload_n 1, 1, none) := by decide +kernel
theorem k_141_86 : zD 141 86 = some (.iload_n 1, 1, none) := by decide +kernel
theorem k_141_87 : zD 141 87 = some (.invokevirtual 200, 3, none) ∧ zCk (zOn 141) 200 = some (0, 142) ∧ zNp 142 = 3 ∧ zML 142 = 6 ∧ zCo[8]? = some (zOn 142) ∧ (zRt 142 = some .int ∨ zRt 142 = some .boolean ∨ zRt 142 = some .char ∨ zRt 142 = some .byte) := by decide +kernel
theorem k_141_90 : zD 141 90 = some (.istore_n 2, 1, none) := by decide +kernel
theorem k_141_91 : zD 141 91 = some (.aload_n 0, 1, some [true, false, true]) := by decide +kernel
theorem k_141_92 : zD 141 92 = some (.dup, 1, none) := by decide +kernel
theorem k_141_93 : zD 141 93 = some (.getfield 186, 3, none) ∧ zFl (zOn 141) 186 = some (8, 23) ∧ zFc 8 23 = some 0 := by decide +kernel
theorem k_141_96 : zD 141 96 = some (.iconst (1), 1, none) := by decide +kernel
theorem k_141_97 : zD 141 97 = some (.iadd, 1, none) := by decide +kernel
theorem k_141_98 : zD 141 98 = some (.putfield 186, 3, none) ∧ zFl (zOn 141) 186 = some (8, 23) ∧ zFc 8 23 = some 0 := by decide +kernel
theorem k_141_101 : zD 141 101 = some (.iload_n 2, 1, none) := by decide +kernel
theorem k_141_102 : zD 141 102 = some (.ireturn, 1, none) := by decide +kernel
theorem kd_141_91 : zD 141 91 = some (.aload_n 0, 1, some [true, false, true]) := k_141_91
theorem ml_142 : zML 142 = 6 := by decide +kernel
theorem rt_142 : zRt 142 = some .int := by decide +kernel
theorem k_142_0 : zD 142 0 = some (.iconst (1), 1, none) := by decide +kernel
theorem k_142_1 : zD 142 1 = some (.istore 4, 2, none) := by decide +kernel
theorem k_142_3 : zD 142 3 = some (.iload 4, 2, some [true, true, true, true, true, false]) := by decide +kernel
theorem k_142_5 : zD 142 5 = some (.ifCond .eq (94), 3, none) ∧ zTg 5 (94) = some 99 := by decide +kernel
theorem k_142_99 : zD 142 99 = some (.iconst (0), 1, none) := by decide +kernel
theorem k_142_100 : zD 142 100 = some (.ireturn, 1, none) := by decide +kernel
theorem k_142_8 : zD 142 8 = some (.aload_n 0, 1, none) := by decide +kernel
theorem k_142_9 : zD 142 9 = some (.iconst (0), 1, none) := by decide +kernel
theorem k_142_10 : zD 142 10 = some (.iload_n 3, 1, none) := by decide +kernel
theorem k_142_11 : zD 142 11 = some (.iconst (1), 1, none) := by decide +kernel
theorem k_142_12 : zD 142 12 = some (.isub, 1, none) := by decide +kernel
theorem k_142_13 : zD 142 13 = some (.invokevirtual 183, 3, none) ∧ zCk (zOn 142) 183 = some (0, 140) ∧ zNp 140 = 2 ∧ zML 140 = 4 ∧ zCo[8]? = some (zOn 140) ∧ (zRt 140 = some .int ∨ zRt 140 = some .boolean ∨ zRt 140 = some .char ∨ zRt 140 = some .byte) := by decide +kernel
theorem k_142_16 : zD 142 16 = some (.istore 5, 2, none) := by decide +kernel
theorem k_142_18 : zD 142 18 = some (.iload 5, 2, none) := by decide +kernel
theorem k_142_20 : zD 142 20 = some (.ifCond .le (6), 3, none) ∧ zTg 20 (6) = some 26 := by decide +kernel
theorem k_142_23 : zD 142 23 = some (.iload 5, 2, none) := by decide +kernel
theorem k_142_25 : zD 142 25 = some (.ireturn, 1, none) := by decide +kernel
theorem k_142_26 : zD 142 26 = some (.aload_n 1, 1, none) := by decide +kernel
theorem k_142_27 : zD 142 27 = some (.iload_n 2, 1, none) := by decide +kernel
theorem k_142_28 : zD 142 28 = some (.iaload, 1, none) := by decide +kernel
theorem k_142_29 : zD 142 29 = some (.aload_n 0, 1, none) := by decide +kernel
theorem k_142_30 : zD 142 30 = some (.getfield 180, 3, none) ∧ zFl (zOn 142) 180 = some (8, 21) ∧ zFc 8 21 = some 0 := by decide +kernel
theorem k_142_33 : zD 142 33 = some (.invokestatic 121, 3, none) ∧ zAt.lookup (zOn 142, 121) = none ∧ zCk (zOn 142) 121 = some (1, 129) ∧ (1 = 1 ∨ 1 = 3) ∧ zNp 129 = 2 ∧ zML 129 = 2 ∧ (zRt 129 = some .int ∨ zRt 129 = some .boolean ∨ zRt 129 = some .char ∨ zRt 129 = some .byte) := by decide +kernel
theorem k_142_36 : zD 142 36 = some (.ifCond .eq (13), 3, none) ∧ zTg 36 (13) = some 49 := by decide +kernel
theorem k_142_49 : zD 142 49 = some (.aload_n 1, 1, none) := by decide +kernel
theorem k_142_50 : zD 142 50 = some (.iload_n 2, 1, none) := by decide +kernel
theorem k_142_51 : zD 142 51 = some (.dup2, 1, none) := by decide +kernel
theorem k_142_52 : zD 142 52 = some (.iaload, 1, none) := by decide +kernel
theorem k_142_53 : zD 142 53 = some (.iconst (1), 1, none) := by decide +kernel
theorem k_142_54 : zD 142 54 = some (.aload_n 0, 1, none) := by decide +kernel
theorem k_142_55 : zD 142 55 = some (.getfield 180, 3, none) ∧ zFl (zOn 142) 180 = some (8, 21) ∧ zFc 8 21 = some 0 := by decide +kernel
theorem k_142_58 : zD 142 58 = some (.ishl, 1, none) := by decide +kernel
theorem k_142_59 : zD 142 59 = some (.ior, 1, none) := by decide +kernel
theorem k_142_60 : zD 142 60 = some (.iastore, 1, none) := by decide +kernel
theorem k_142_61 : zD 142 61 = some (.aload_n 0, 1, none) := by decide +kernel
theorem k_142_62 : zD 142 62 = some (.invokevirtual 148, 3, none) ∧ zCk (zOn 142) 148 = some (0, 134) ∧ zNp 134 = 0 ∧ zML 134 = 1 ∧ zCo[8]? = some (zOn 134) ∧ (zRt 134 = some .int ∨ zRt 134 = some .boolean ∨ zRt 134 = some .char ∨ zRt 134 = some .byte) := by decide +kernel
theorem k_142_65 : zD 142 65 = some (.bipush (44), 2, none) := by decide +kernel
theorem k_142_67 : zD 142 67 = some (.if_icmp .ne (7), 3, none) ∧ zTg 67 (7) = some 74 := by decide +kernel
theorem k_142_70 : zD 142 70 = some (.iconst (1), 1, none) := by decide +kernel
theorem k_142_71 : zD 142 71 = some (.goto (4), 3, none) ∧ zTg 71 (4) = some 75 := by decide +kernel
theorem k_142_74 : zD 142 74 = some (.iconst (0), 1, none) := by decide +kernel
theorem k_142_39 : zD 142 39 = some (.aload_n 0, 1, none) := by decide +kernel
theorem k_142_40 : zD 142 40 = some (.iconst (4), 1, none) := by decide +kernel
theorem k_142_41 : zD 142 41 = some (.aload_n 0, 1, none) := by decide +kernel
theorem k_142_42 : zD 142 42 = some (.getfield 177, 3, none) ∧ zFl (zOn 142) 177 = some (8, 22) ∧ zFc 8 22 = some 0 := by decide +kernel
theorem k_142_45 : zD 142 45 = some (.invokevirtual 174, 3, none) ∧ zCk (zOn 142) 174 = some (0, 139) ∧ zNp 139 = 2 ∧ zML 139 = 3 ∧ zCo[8]? = some (zOn 139) ∧ (zRt 139 = some .int ∨ zRt 139 = some .boolean ∨ zRt 139 = some .char ∨ zRt 139 = some .byte) := by decide +kernel
theorem k_142_48 : zD 142 48 = some (.ireturn, 1, none) := by decide +kernel
theorem k_142_75 : zD 142 75 = some (.istore 4, 2, some [true, true, true, true, false, false]) := by decide +kernel
theorem k_142_77 : zD 142 77 = some (.aload_n 0, 1, none) := by decide +kernel
theorem k_142_78 : zD 142 78 = some (.dup, 1, none) := by decide +kernel
theorem k_142_79 : zD 142 79 = some (.getfield 145, 3, none) ∧ zFl (zOn 142) 145 = some (8, 18) ∧ zFc 8 18 = some 0 := by decide +kernel
theorem k_142_82 : zD 142 82 = some (.iload 4, 2, none) := by decide +kernel
theorem k_142_84 : zD 142 84 = some (.ifCond .eq (7), 3, none) ∧ zTg 84 (7) = some 91 := by decide +kernel
theorem k_142_91 : zD 142 91 = some (.iconst (0), 1, none) := by decide +kernel
theorem k_142_92 : zD 142 92 = some (.iadd, 1, some [true, true, true, true, true, false]) := by decide +kernel
theorem k_142_93 : zD 142 93 = some (.putfield 145, 3, none) ∧ zFl (zOn 142) 145 = some (8, 18) ∧ zFc 8 18 = some 0 := by decide +kernel
theorem k_142_96 : zD 142 96 = some (.goto (-93), 3, none) ∧ zTg 96 (-93) = some 3 := by decide +kernel
theorem k_142_87 : zD 142 87 = some (.iconst (1), 1, none) := by decide +kernel
theorem k_142_88 : zD 142 88 = some (.goto (4), 3, none) ∧ zTg 88 (4) = some 92 := by decide +kernel
theorem kd_142_3 : zD 142 3 = some (.iload 4, 2, some [true, true, true, true, true, false]) := k_142_3
theorem kd_142_75 : zD 142 75 = some (.istore 4, 2, some [true, true, true, true, false, false]) := k_142_75
theorem ml_143 : zML 143 = 3 := by decide +kernel
theorem rt_143 : zRt 143 = some .int := by decide +kernel
theorem k_143_0 : zD 143 0 = some (.aload_n 0, 1, none) := by decide +kernel
theorem k_143_1 : zD 143 1 = some (.getfield 204, 3, none) ∧ zFl (zOn 143) 204 = some (8, 26) ∧ zFc 8 26 = some 0 := by decide +kernel
theorem k_143_4 : zD 143 4 = some (.istore_n 1, 1, none) := by decide +kernel
theorem k_143_5 : zD 143 5 = some (.aload_n 0, 1, none) := by decide +kernel
theorem k_143_6 : zD 143 6 = some (.getfield 54, 3, none) ∧ zFl (zOn 143) 54 = some (8, 27) ∧ zFc 8 27 = some 3 := by decide +kernel
theorem k_143_9 : zD 143 9 = some (.iload_n 1, 1, none) := by decide +kernel
theorem k_143_10 : zD 143 10 = some (.iconst (0), 1, none) := by decide +kernel
theorem k_143_11 : zD 143 11 = some (.iastore, 1, none) := by decide +kernel
theorem k_143_12 : zD 143 12 = some (.iconst (0), 1, none) := by decide +kernel
theorem k_143_13 : zD 143 13 = some (.istore_n 2, 1, none) := by decide +kernel
theorem k_143_14 : zD 143 14 = some (.aload_n 0, 1, none) := by decide +kernel
theorem k_143_15 : zD 143 15 = some (.invokevirtual 189, 3, none) ∧ zCk (zOn 143) 189 = some (0, 136) ∧ zNp 136 = 0 ∧ zML 136 = 2 ∧ zCo[8]? = some (zOn 136) ∧ zRt 136 = none := by decide +kernel
theorem k_143_18 : zD 143 18 = some (.aload_n 0, 1, none) := by decide +kernel
theorem k_143_19 : zD 143 19 = some (.getfield 152, 3, none) ∧ zFl (zOn 143) 152 = some (8, 19) ∧ zFc 8 19 = some 2 := by decide +kernel
theorem k_143_22 : zD 143 22 = some (.bipush (107), 2, none) := by decide +kernel
theorem k_143_24 : zD 143 24 = some (.bipush (110), 2, none) := by decide +kernel
theorem k_143_26 : zD 143 26 = some (.bipush (111), 2, none) := by decide +kernel
theorem k_143_28 : zD 143 28 = some (.bipush (119), 2, none) := by decide +kernel
theorem k_143_30 : zD 143 30 = some (.invokestatic 192, 3, none) ∧ zAt.lookup (zOn 143, 192) = none ∧ zCk (zOn 143) 192 = some (1, 137) ∧ (1 = 1 ∨ 1 = 3) ∧ zNp 137 = 4 ∧ zML 137 = 4 ∧ zRt 137 = some .long := by decide +kernel
theorem k_143_33 : zD 143 33 = some (.bipush (115), 2, none) := by decide +kernel
theorem k_143_35 : zD 143 35 = some (.invokestatic 196, 3, none) ∧ zAt.lookup (zOn 143, 196) = none ∧ zCk (zOn 143) 196 = some (1, 138) ∧ (1 = 1 ∨ 1 = 3) ∧ zNp 138 = 2 ∧ zML 138 = 3 ∧ zRt 138 = some .long := by decide +kernel
theorem k_143_38 : zD 143 38 = some (.lcmp, 1, none) := by decide +kernel
theorem k_143_39 : zD 143 39 = some (.ifCond .ne (25), 3, none) ∧ zTg 39 (25) = some 64 := by decide +kernel
theorem k_143_42 : zD 143 42 = some (.aload_n 0, 1, none) := by decide +kernel
theorem k_143_43 : zD 143 43 = some (.aload_n 0, 1, none) := by decide +kernel
theorem k_143_44 : zD 143 44 = some (.getfield 155, 3, none) ∧ zFl (zOn 143) 155 = some (8, 20) ∧ zFc 8 20 = some 0 := by decide +kernel
theorem k_143_47 : zD 143 47 = some (.putfield 145, 3, none) ∧ zFl (zOn 143) 145 = some (8, 18) ∧ zFc 8 18 = some 0 := by decide +kernel
theorem k_143_50 : zD 143 50 = some (.aload_n 0, 1, none) := by decide +kernel
theorem k_143_51 : zD 143 51 = some (.aload_n 0, 1, none) := by decide +kernel
theorem k_143_52 : zD 143 52 = some (.getfield 54, 3, none) ∧ zFl (zOn 143) 54 = some (8, 27) ∧ zFc 8 27 = some 3 := by decide +kernel
theorem k_143_55 : zD 143 55 = some (.iload_n 1, 1, none) := by decide +kernel
theorem k_143_56 : zD 143 56 = some (.aload_n 0, 1, none) := by decide +kernel
theorem k_143_57 : zD 143 57 = some (.getfield 186, 3, none) ∧ zFl (zOn 143) 186 = some (8, 23) ∧ zFc 8 23 = some 0 := by decide +kernel
theorem k_143_60 : zD 143 60 = some (.invokevirtual 200, 3, none) ∧ zCk (zOn 143) 200 = some (0, 142) ∧ zNp 142 = 3 ∧ zML 142 = 6 ∧ zCo[8]? = some (zOn 142) ∧ (zRt 142 = some .int ∨ zRt 142 = some .boolean ∨ zRt 142 = some .char ∨ zRt 142 = some .byte) := by decide +kernel
theorem k_143_63 : zD 143 63 = some (.istore_n 2, 1, none) := by decide +kernel
theorem k_143_64 : zD 143 64 = some (.aload_n 0, 1, some [true, false, true]) := by decide +kernel
theorem k_143_65 : zD 143 65 = some (.dup, 1, none) := by decide +kernel
theorem k_143_66 : zD 143 66 = some (.getfield 204, 3, none) ∧ zFl (zOn 143) 204 = some (8, 26) ∧ zFc 8 26 = some 0 := by decide +kernel
theorem k_143_69 : zD 143 69 = some (.iconst (1), 1, none) := by decide +kernel
theorem k_143_70 : zD 143 70 = some (.iadd, 1, none) := by decide +kernel
theorem k_143_71 : zD 143 71 = some (.putfield 204, 3, none) ∧ zFl (zOn 143) 204 = some (8, 26) ∧ zFc 8 26 = some 0 := by decide +kernel
theorem k_143_74 : zD 143 74 = some (.iload_n 2, 1, none) := by decide +kernel
theorem k_143_75 : zD 143 75 = some (.ireturn, 1, none) := by decide +kernel
theorem kd_143_64 : zD 143 64 = some (.aload_n 0, 1, some [true, false, true]) := k_143_64
theorem ml_144 : zML 144 = 1 := by decide +kernel
theorem rt_144 : zRt 144 = some .int := by decide +kernel
theorem k_144_0 : zD 144 0 = some (.aload_n 0, 1, none) := by decide +kernel
theorem k_144_1 : zD 144 1 = some (.getfield 45, 3, none) ∧ zFl (zOn 144) 45 = some (8, 17) ∧ zFc 8 17 = some 0 := by decide +kernel
theorem k_144_4 : zD 144 4 = some (.ireturn, 1, none) := by decide +kernel
theorem ml_145 : zML 145 = 2 := by decide +kernel
theorem rt_145 : zRt 145 = some .int := by decide +kernel
theorem k_145_0 : zD 145 0 = some (.iload_n 1, 1, none) := by decide +kernel
theorem k_145_1 : zD 145 1 = some (.tableswitch (81) (0) (6) #[43, 48, 53, 58, 63, 68, 73], 43, none) := by decide +kernel
theorem k_145_44 : zD 145 44 = some (.aload_n 0, 1, none) := by decide +kernel
theorem k_145_45 : zD 145 45 = some (.getfield 103, 3, none) ∧ zFl (zOn 145) 103 = some (8, 0) ∧ zFc 8 0 = some 0 := by decide +kernel
theorem k_145_48 : zD 145 48 = some (.ireturn, 1, none) := by decide +kernel
theorem k_145_49 : zD 145 49 = some (.aload_n 0, 1, none) := by decide +kernel
theorem k_145_50 : zD 145 50 = some (.getfield 110, 3, none) ∧ zFl (zOn 145) 110 = some (8, 3) ∧ zFc 8 3 = some 0 := by decide +kernel
theorem k_145_53 : zD 145 53 = some (.ireturn, 1, none) := by decide +kernel
theorem k_145_54 : zD 145 54 = some (.aload_n 0, 1, none) := by decide +kernel
theorem k_145_55 : zD 145 55 = some (.getfield 19, 3, none) ∧ zFl (zOn 145) 19 = some (8, 5) ∧ zFc 8 5 = some 0 := by decide +kernel
theorem k_145_58 : zD 145 58 = some (.ireturn, 1, none) := by decide +kernel
theorem k_145_59 : zD 145 59 = some (.aload_n 0, 1, none) := by decide +kernel
theorem k_145_60 : zD 145 60 = some (.getfield 139, 3, none) ∧ zFl (zOn 145) 139 = some (8, 16) ∧ zFc 8 16 = some 0 := by decide +kernel
theorem k_145_63 : zD 145 63 = some (.ireturn, 1, none) := by decide +kernel
theorem k_145_64 : zD 145 64 = some (.aload_n 0, 1, none) := by decide +kernel
theorem k_145_65 : zD 145 65 = some (.getfield 133, 3, none) ∧ zFl (zOn 145) 133 = some (8, 12) ∧ zFc 8 12 = some 0 := by decide +kernel
theorem k_145_68 : zD 145 68 = some (.ireturn, 1, none) := by decide +kernel
theorem k_145_69 : zD 145 69 = some (.aload_n 0, 1, none) := by decide +kernel
theorem k_145_70 : zD 145 70 = some (.getfield 219, 3, none) ∧ zFl (zOn 145) 219 = some (8, 35) ∧ zFc 8 35 = some 0 := by decide +kernel
theorem k_145_73 : zD 145 73 = some (.ireturn, 1, none) := by decide +kernel
theorem k_145_74 : zD 145 74 = some (.aload_n 0, 1, none) := by decide +kernel
theorem k_145_75 : zD 145 75 = some (.getfield 117, 3, none) ∧ zFl (zOn 145) 117 = some (8, 7) ∧ zFc 8 7 = some 2 := by decide +kernel
theorem k_145_78 : zD 145 78 = some (.invokestatic 222, 3, none) ∧ zAt.lookup (zOn 145, 222) = none ∧ zCk (zOn 145) 222 = some (1, 146) ∧ (1 = 1 ∨ 1 = 3) ∧ zNp 146 = 1 ∧ zML 146 = 4 ∧ (zRt 146 = some .int ∨ zRt 146 = some .boolean ∨ zRt 146 = some .char ∨ zRt 146 = some .byte) := by decide +kernel
theorem k_145_81 : zD 145 81 = some (.ireturn, 1, none) := by decide +kernel
theorem k_145_82 : zD 145 82 = some (.ldc 138, 2, none) ∧ zKc (zOn 145) 138 = some (.inl (-1000000002)) := by decide +kernel
theorem k_145_84 : zD 145 84 = some (.ireturn, 1, none) := by decide +kernel
theorem ml_146 : zML 146 = 4 := by decide +kernel
theorem rt_146 : zRt 146 = some .int := by decide +kernel
theorem k_146_0 : zD 146 0 = some (.iconst (0), 1, none) := by decide +kernel
theorem k_146_1 : zD 146 1 = some (.istore_n 2, 1, none) := by decide +kernel
theorem k_146_2 : zD 146 2 = some (.iconst (0), 1, none) := by decide +kernel
theorem k_146_3 : zD 146 3 = some (.istore_n 3, 1, none) := by decide +kernel
theorem k_146_4 : zD 146 4 = some (.iload_n 3, 1, some [true, false, true, true]) := by decide +kernel
theorem k_146_5 : zD 146 5 = some (.bipush (64), 2, none) := by decide +kernel
theorem k_146_7 : zD 146 7 = some (.if_icmp .ge (18), 3, none) ∧ zTg 7 (18) = some 25 := by decide +kernel
theorem k_146_10 : zD 146 10 = some (.iload_n 2, 1, none) := by decide +kernel
theorem k_146_11 : zD 146 11 = some (.lload_n 0, 1, none) := by decide +kernel
theorem k_146_12 : zD 146 12 = some (.iload_n 3, 1, none) := by decide +kernel
theorem k_146_13 : zD 146 13 = some (.lshr, 1, none) := by decide +kernel
theorem k_146_14 : zD 146 14 = some (.lconst 1, 1, none) := by decide +kernel
theorem k_146_15 : zD 146 15 = some (.land, 1, none) := by decide +kernel
theorem k_146_16 : zD 146 16 = some (.l2i, 1, none) := by decide +kernel
theorem k_146_17 : zD 146 17 = some (.iadd, 1, none) := by decide +kernel
theorem k_146_18 : zD 146 18 = some (.istore_n 2, 1, none) := by decide +kernel
theorem k_146_19 : zD 146 19 = some (.iinc 3 (1), 3, none) := by decide +kernel
theorem k_146_22 : zD 146 22 = some (.goto (-18), 3, none) ∧ zTg 22 (-18) = some 4 := by decide +kernel
theorem k_146_25 : zD 146 25 = some (.iload_n 2, 1, none) := by decide +kernel
theorem k_146_26 : zD 146 26 = some (.ireturn, 1, none) := by decide +kernel
theorem kd_146_4 : zD 146 4 = some (.iload_n 3, 1, some [true, false, true, true]) := k_146_4
theorem ml_147 : zML 147 = 3 := by decide +kernel
theorem rt_147 : zRt 147 = some .int := by decide +kernel
theorem k_147_0 : zD 147 0 = some (.aload_n 0, 1, none) := by decide +kernel
theorem k_147_1 : zD 147 1 = some (.iload_n 1, 1, none) := by decide +kernel
theorem k_147_2 : zD 147 2 = some (.invokevirtual 226, 3, none) ∧ zCk (zOn 147) 226 = some (0, 148) ∧ zNp 148 = 1 ∧ zML 148 = 2 ∧ zCo[8]? = some (zOn 148) ∧ (zRt 148 = some .int ∨ zRt 148 = some .boolean ∨ zRt 148 = some .char ∨ zRt 148 = some .byte) := by decide +kernel
theorem k_147_5 : zD 147 5 = some (.ifCond .ne (6), 3, none) ∧ zTg 5 (6) = some 11 := by decide +kernel
theorem k_147_8 : zD 147 8 = some (.ldc 229, 2, none) ∧ zKc (zOn 147) 229 = some (.inl (-1000000001)) := by decide +kernel
theorem k_147_10 : zD 147 10 = some (.ireturn, 1, none) := by decide +kernel
theorem k_147_11 : zD 147 11 = some (.iload_n 2, 1, none) := by decide +kernel
theorem k_147_12 : zD 147 12 = some (.ifCond .ne (12), 3, none) ∧ zTg 12 (12) = some 24 := by decide +kernel
theorem k_147_15 : zD 147 15 = some (.aload_n 0, 1, none) := by decide +kernel
theorem k_147_16 : zD 147 16 = some (.getfield 7, 3, none) ∧ zFl (zOn 147) 7 = some (8, 1) ∧ zFc 8 1 = some 3 := by decide +kernel
theorem k_147_19 : zD 147 19 = some (.iload_n 1, 1, none) := by decide +kernel
theorem k_147_20 : zD 147 20 = some (.iaload, 1, none) := by decide +kernel
theorem k_147_21 : zD 147 21 = some (.goto (32), 3, none) ∧ zTg 21 (32) = some 53 := by decide +kernel
theorem k_147_53 : zD 147 53 = some (.ireturn, 1, some [false, false, false]) := by decide +kernel
theorem k_147_24 : zD 147 24 = some (.iload_n 2, 1, none) := by decide +kernel
theorem k_147_25 : zD 147 25 = some (.iconst (1), 1, none) := by decide +kernel
theorem k_147_26 : zD 147 26 = some (.if_icmp .ne (12), 3, none) ∧ zTg 26 (12) = some 38 := by decide +kernel
theorem k_147_29 : zD 147 29 = some (.aload_n 0, 1, none) := by decide +kernel
theorem k_147_30 : zD 147 30 = some (.getfield 13, 3, none) ∧ zFl (zOn 147) 13 = some (8, 2) ∧ zFc 8 2 = some 3 := by decide +kernel
theorem k_147_33 : zD 147 33 = some (.iload_n 1, 1, none) := by decide +kernel
theorem k_147_34 : zD 147 34 = some (.iaload, 1, none) := by decide +kernel
theorem k_147_35 : zD 147 35 = some (.goto (18), 3, none) ∧ zTg 35 (18) = some 53 := by decide +kernel
theorem k_147_38 : zD 147 38 = some (.iload_n 2, 1, none) := by decide +kernel
theorem k_147_39 : zD 147 39 = some (.iconst (2), 1, none) := by decide +kernel
theorem k_147_40 : zD 147 40 = some (.if_icmp .ne (11), 3, none) ∧ zTg 40 (11) = some 51 := by decide +kernel
theorem k_147_43 : zD 147 43 = some (.aload_n 0, 1, none) := by decide +kernel
theorem k_147_44 : zD 147 44 = some (.iload_n 1, 1, none) := by decide +kernel
theorem k_147_45 : zD 147 45 = some (.invokevirtual 230, 3, none) ∧ zCk (zOn 147) 230 = some (0, 149) ∧ zNp 149 = 1 ∧ zML 149 = 4 ∧ zCo[8]? = some (zOn 149) ∧ (zRt 149 = some .int ∨ zRt 149 = some .boolean ∨ zRt 149 = some .char ∨ zRt 149 = some .byte) := by decide +kernel
theorem k_147_48 : zD 147 48 = some (.goto (5), 3, none) ∧ zTg 48 (5) = some 53 := by decide +kernel
theorem k_147_51 : zD 147 51 = some (.ldc 138, 2, none) ∧ zKc (zOn 147) 138 = some (.inl (-1000000002)) := by decide +kernel
theorem kd_147_53 : zD 147 53 = some (.ireturn, 1, some [false, false, false]) := k_147_53
theorem ml_148 : zML 148 = 2 := by decide +kernel
theorem rt_148 : zRt 148 = some .boolean := by decide +kernel
theorem k_148_0 : zD 148 0 = some (.iload_n 1, 1, none) := by decide +kernel
theorem k_148_1 : zD 148 1 = some (.i2l, 1, none) := by decide +kernel
theorem k_148_2 : zD 148 2 = some (.lconst 0, 1, none) := by decide +kernel
theorem k_148_3 : zD 148 3 = some (.aload_n 0, 1, none) := by decide +kernel
theorem k_148_4 : zD 148 4 = some (.getfield 103, 3, none) ∧ zFl (zOn 148) 103 = some (8, 0) ∧ zFc 8 0 = some 0 := by decide +kernel
theorem k_148_7 : zD 148 7 = some (.iconst (1), 1, none) := by decide +kernel
theorem k_148_8 : zD 148 8 = some (.isub, 1, none) := by decide +kernel
theorem k_148_9 : zD 148 9 = some (.i2l, 1, none) := by decide +kernel
theorem k_148_10 : zD 148 10 = some (.invokestatic 106, 3, none) ∧ zAt.lookup (zOn 148, 106) = none ∧ zCk (zOn 148) 106 = some (1, 132) ∧ (1 = 1 ∨ 1 = 3) ∧ zNp 132 = 3 ∧ zML 132 = 6 ∧ (zRt 132 = some .int ∨ zRt 132 = some .boolean ∨ zRt 132 = some .char ∨ zRt 132 = some .byte) := by decide +kernel
theorem k_148_13 : zD 148 13 = some (.ireturn, 1, none) := by decide +kernel
theorem ml_149 : zML 149 = 4 := by decide +kernel
theorem rt_149 : zRt 149 = some .int := by decide +kernel
theorem k_149_0 : zD 149 0 = some (.iconst (0), 1, none) := by decide +kernel
theorem k_149_1 : zD 149 1 = some (.istore_n 2, 1, none) := by decide +kernel
theorem k_149_2 : zD 149 2 = some (.iconst (0), 1, none) := by decide +kernel
theorem k_149_3 : zD 149 3 = some (.istore_n 3, 1, none) := by decide +kernel
theorem k_149_4 : zD 149 4 = some (.iload_n 3, 1, some [true, true, true, true]) := by decide +kernel
theorem k_149_5 : zD 149 5 = some (.aload_n 0, 1, none) := by decide +kernel
theorem k_149_6 : zD 149 6 = some (.getfield 110, 3, none) ∧ zFl (zOn 149) 110 = some (8, 3) ∧ zFc 8 3 = some 0 := by decide +kernel
theorem k_149_9 : zD 149 9 = some (.if_icmp .ge (32), 3, none) ∧ zTg 9 (32) = some 41 := by decide +kernel
theorem k_149_12 : zD 149 12 = some (.iload_n 2, 1, none) := by decide +kernel
theorem k_149_13 : zD 149 13 = some (.aload_n 0, 1, none) := by decide +kernel
theorem k_149_14 : zD 149 14 = some (.getfield 26, 3, none) ∧ zFl (zOn 149) 26 = some (8, 8) ∧ zFc 8 8 = some 3 := by decide +kernel
theorem k_149_17 : zD 149 17 = some (.iload_n 3, 1, none) := by decide +kernel
theorem k_149_18 : zD 149 18 = some (.iaload, 1, none) := by decide +kernel
theorem k_149_19 : zD 149 19 = some (.iload_n 1, 1, none) := by decide +kernel
theorem k_149_20 : zD 149 20 = some (.invokestatic 121, 3, none) ∧ zAt.lookup (zOn 149, 121) = none ∧ zCk (zOn 149) 121 = some (1, 129) ∧ (1 = 1 ∨ 1 = 3) ∧ zNp 129 = 2 ∧ zML 129 = 2 ∧ (zRt 129 = some .int ∨ zRt 129 = some .boolean ∨ zRt 129 = some .char ∨ zRt 129 = some .byte) := by decide +kernel
theorem k_149_23 : zD 149 23 = some (.ifCond .eq (9), 3, none) ∧ zTg 23 (9) = some 32 := by decide +kernel
theorem k_149_32 : zD 149 32 = some (.iconst (0), 1, none) := by decide +kernel
theorem k_149_33 : zD 149 33 = some (.ior, 1, some [true, true, false, true]) := by decide +kernel
theorem k_149_34 : zD 149 34 = some (.istore_n 2, 1, none) := by decide +kernel
theorem k_149_35 : zD 149 35 = some (.iinc 3 (1), 3, none) := by decide +kernel
theorem k_149_38 : zD 149 38 = some (.goto (-34), 3, none) ∧ zTg 38 (-34) = some 4 := by decide +kernel
theorem k_149_26 : zD 149 26 = some (.iconst (1), 1, none) := by decide +kernel
theorem k_149_27 : zD 149 27 = some (.iload_n 3, 1, none) := by decide +kernel
theorem k_149_28 : zD 149 28 = some (.ishl, 1, none) := by decide +kernel
theorem k_149_29 : zD 149 29 = some (.goto (4), 3, none) ∧ zTg 29 (4) = some 33 := by decide +kernel
theorem k_149_41 : zD 149 41 = some (.iload_n 2, 1, none) := by decide +kernel
theorem k_149_42 : zD 149 42 = some (.ireturn, 1, none) := by decide +kernel
theorem kd_149_4 : zD 149 4 = some (.iload_n 3, 1, some [true, true, true, true]) := k_149_4
theorem kd_149_33 : zD 149 33 = some (.ior, 1, some [true, true, false, true]) := k_149_33
theorem ml_150 : zML 150 = 3 := by decide +kernel
theorem rt_150 : zRt 150 = some .int := by decide +kernel
theorem k_150_0 : zD 150 0 = some (.aload_n 0, 1, none) := by decide +kernel
theorem k_150_1 : zD 150 1 = some (.iload_n 1, 1, none) := by decide +kernel
theorem k_150_2 : zD 150 2 = some (.invokevirtual 113, 3, none) ∧ zCk (zOn 150) 113 = some (0, 151) ∧ zNp 151 = 1 ∧ zML 151 = 2 ∧ zCo[8]? = some (zOn 151) ∧ (zRt 151 = some .int ∨ zRt 151 = some .boolean ∨ zRt 151 = some .char ∨ zRt 151 = some .byte) := by decide +kernel
theorem k_150_5 : zD 150 5 = some (.ifCond .ne (6), 3, none) ∧ zTg 5 (6) = some 11 := by decide +kernel
theorem k_150_8 : zD 150 8 = some (.ldc 229, 2, none) ∧ zKc (zOn 150) 229 = some (.inl (-1000000001)) := by decide +kernel
theorem k_150_10 : zD 150 10 = some (.ireturn, 1, none) := by decide +kernel
theorem k_150_11 : zD 150 11 = some (.iload_n 2, 1, none) := by decide +kernel
theorem k_150_12 : zD 150 12 = some (.tableswitch (59) (0) (3) #[32, 39, 46, 53], 32, none) := by decide +kernel
theorem k_150_44 : zD 150 44 = some (.aload_n 0, 1, none) := by decide +kernel
theorem k_150_45 : zD 150 45 = some (.getfield 26, 3, none) ∧ zFl (zOn 150) 26 = some (8, 8) ∧ zFc 8 8 = some 3 := by decide +kernel
theorem k_150_48 : zD 150 48 = some (.iload_n 1, 1, none) := by decide +kernel
theorem k_150_49 : zD 150 49 = some (.iaload, 1, none) := by decide +kernel
theorem k_150_50 : zD 150 50 = some (.ireturn, 1, none) := by decide +kernel
theorem k_150_51 : zD 150 51 = some (.aload_n 0, 1, none) := by decide +kernel
theorem k_150_52 : zD 150 52 = some (.getfield 29, 3, none) ∧ zFl (zOn 150) 29 = some (8, 9) ∧ zFc 8 9 = some 3 := by decide +kernel
theorem k_150_55 : zD 150 55 = some (.iload_n 1, 1, none) := by decide +kernel
theorem k_150_56 : zD 150 56 = some (.iaload, 1, none) := by decide +kernel
theorem k_150_57 : zD 150 57 = some (.ireturn, 1, none) := by decide +kernel
theorem k_150_58 : zD 150 58 = some (.aload_n 0, 1, none) := by decide +kernel
theorem k_150_59 : zD 150 59 = some (.getfield 36, 3, none) ∧ zFl (zOn 150) 36 = some (8, 11) ∧ zFc 8 11 = some 3 := by decide +kernel
theorem k_150_62 : zD 150 62 = some (.iload_n 1, 1, none) := by decide +kernel
theorem k_150_63 : zD 150 63 = some (.iaload, 1, none) := by decide +kernel
theorem k_150_64 : zD 150 64 = some (.ireturn, 1, none) := by decide +kernel
theorem k_150_65 : zD 150 65 = some (.aload_n 0, 1, none) := by decide +kernel
theorem k_150_66 : zD 150 66 = some (.iload_n 1, 1, none) := by decide +kernel
theorem k_150_67 : zD 150 67 = some (.invokevirtual 237, 3, none) ∧ zCk (zOn 150) 237 = some (0, 152) ∧ zNp 152 = 1 ∧ zML 152 = 2 ∧ zCo[8]? = some (zOn 152) ∧ (zRt 152 = some .int ∨ zRt 152 = some .boolean ∨ zRt 152 = some .char ∨ zRt 152 = some .byte) := by decide +kernel
theorem k_150_70 : zD 150 70 = some (.ireturn, 1, none) := by decide +kernel
theorem k_150_71 : zD 150 71 = some (.ldc 138, 2, none) ∧ zKc (zOn 150) 138 = some (.inl (-1000000002)) := by decide +kernel
theorem k_150_73 : zD 150 73 = some (.ireturn, 1, none) := by decide +kernel
theorem ml_151 : zML 151 = 2 := by decide +kernel
theorem rt_151 : zRt 151 = some .boolean := by decide +kernel
theorem k_151_0 : zD 151 0 = some (.iload_n 1, 1, none) := by decide +kernel
theorem k_151_1 : zD 151 1 = some (.i2l, 1, none) := by decide +kernel
theorem k_151_2 : zD 151 2 = some (.lconst 0, 1, none) := by decide +kernel
theorem k_151_3 : zD 151 3 = some (.aload_n 0, 1, none) := by decide +kernel
theorem k_151_4 : zD 151 4 = some (.getfield 110, 3, none) ∧ zFl (zOn 151) 110 = some (8, 3) ∧ zFc 8 3 = some 0 := by decide +kernel
theorem k_151_7 : zD 151 7 = some (.iconst (1), 1, none) := by decide +kernel
theorem k_151_8 : zD 151 8 = some (.isub, 1, none) := by decide +kernel
theorem k_151_9 : zD 151 9 = some (.i2l, 1, none) := by decide +kernel
theorem k_151_10 : zD 151 10 = some (.invokestatic 106, 3, none) ∧ zAt.lookup (zOn 151, 106) = none ∧ zCk (zOn 151) 106 = some (1, 132) ∧ (1 = 1 ∨ 1 = 3) ∧ zNp 132 = 3 ∧ zML 132 = 6 ∧ (zRt 132 = some .int ∨ zRt 132 = some .boolean ∨ zRt 132 = some .char ∨ zRt 132 = some .byte) := by decide +kernel
theorem k_151_13 : zD 151 13 = some (.ireturn, 1, none) := by decide +kernel
theorem ml_152 : zML 152 = 2 := by decide +kernel
theorem rt_152 : zRt 152 = some .int := by decide +kernel
theorem k_152_0 : zD 152 0 = some (.aload_n 0, 1, none) := by decide +kernel
theorem k_152_1 : zD 152 1 = some (.aload_n 0, 1, none) := by decide +kernel
theorem k_152_2 : zD 152 2 = some (.aload_n 0, 1, none) := by decide +kernel
theorem k_152_3 : zD 152 3 = some (.getfield 29, 3, none) ∧ zFl (zOn 152) 29 = some (8, 9) ∧ zFc 8 9 = some 3 := by decide +kernel
theorem k_152_6 : zD 152 6 = some (.iload_n 1, 1, none) := by decide +kernel
theorem k_152_7 : zD 152 7 = some (.iaload, 1, none) := by decide +kernel
theorem k_152_8 : zD 152 8 = some (.invokevirtual 129, 3, none) ∧ zCk (zOn 152) 129 = some (0, 130) ∧ zNp 130 = 1 ∧ zML 130 = 5 ∧ zCo[8]? = some (zOn 130) ∧ zRt 130 = some .long := by decide +kernel
theorem k_152_11 : zD 152 11 = some (.invokevirtual 234, 3, none) ∧ zCk (zOn 152) 234 = some (0, 153) ∧ zNp 153 = 1 ∧ zML 153 = 5 ∧ zCo[8]? = some (zOn 153) ∧ (zRt 153 = some .int ∨ zRt 153 = some .boolean ∨ zRt 153 = some .char ∨ zRt 153 = some .byte) := by decide +kernel
theorem k_152_14 : zD 152 14 = some (.ireturn, 1, none) := by decide +kernel
theorem ml_153 : zML 153 = 5 := by decide +kernel
theorem rt_153 : zRt 153 = some .int := by decide +kernel
theorem k_153_0 : zD 153 0 = some (.iconst (0), 1, none) := by decide +kernel
theorem k_153_1 : zD 153 1 = some (.istore_n 3, 1, none) := by decide +kernel
theorem k_153_2 : zD 153 2 = some (.iconst (0), 1, none) := by decide +kernel
theorem k_153_3 : zD 153 3 = some (.istore 4, 2, none) := by decide +kernel
theorem k_153_5 : zD 153 5 = some (.iload 4, 2, some [true, true, false, true, true]) := by decide +kernel
theorem k_153_7 : zD 153 7 = some (.iconst (1), 1, none) := by decide +kernel
theorem k_153_8 : zD 153 8 = some (.aload_n 0, 1, none) := by decide +kernel
theorem k_153_9 : zD 153 9 = some (.getfield 103, 3, none) ∧ zFl (zOn 153) 103 = some (8, 0) ∧ zFc 8 0 = some 0 := by decide +kernel
theorem k_153_12 : zD 153 12 = some (.ishl, 1, none) := by decide +kernel
theorem k_153_13 : zD 153 13 = some (.if_icmp .ge (29), 3, none) ∧ zTg 13 (29) = some 42 := by decide +kernel
theorem k_153_16 : zD 153 16 = some (.iload_n 3, 1, none) := by decide +kernel
theorem k_153_17 : zD 153 17 = some (.lload_n 1, 1, none) := by decide +kernel
theorem k_153_18 : zD 153 18 = some (.iload 4, 2, none) := by decide +kernel
theorem k_153_20 : zD 153 20 = some (.lshr, 1, none) := by decide +kernel
theorem k_153_21 : zD 153 21 = some (.lconst 1, 1, none) := by decide +kernel
theorem k_153_22 : zD 153 22 = some (.land, 1, none) := by decide +kernel
theorem k_153_23 : zD 153 23 = some (.lconst 1, 1, none) := by decide +kernel
theorem k_153_24 : zD 153 24 = some (.lcmp, 1, none) := by decide +kernel
theorem k_153_25 : zD 153 25 = some (.ifCond .ne (8), 3, none) ∧ zTg 25 (8) = some 33 := by decide +kernel
theorem k_153_28 : zD 153 28 = some (.iload 4, 2, none) := by decide +kernel
theorem k_153_30 : zD 153 30 = some (.goto (4), 3, none) ∧ zTg 30 (4) = some 34 := by decide +kernel
theorem k_153_34 : zD 153 34 = some (.ior, 1, some [true, true, false, false, true]) := by decide +kernel
theorem k_153_35 : zD 153 35 = some (.istore_n 3, 1, none) := by decide +kernel
theorem k_153_36 : zD 153 36 = some (.iinc 4 (1), 3, none) := by decide +kernel
theorem k_153_39 : zD 153 39 = some (.goto (-34), 3, none) ∧ zTg 39 (-34) = some 5 := by decide +kernel
theorem k_153_33 : zD 153 33 = some (.iconst (0), 1, none) := by decide +kernel
theorem k_153_42 : zD 153 42 = some (.iconst (1), 1, none) := by decide +kernel
theorem k_153_43 : zD 153 43 = some (.aload_n 0, 1, none) := by decide +kernel
theorem k_153_44 : zD 153 44 = some (.getfield 103, 3, none) ∧ zFl (zOn 153) 103 = some (8, 0) ∧ zFc 8 0 = some 0 := by decide +kernel
theorem k_153_47 : zD 153 47 = some (.ishl, 1, none) := by decide +kernel
theorem k_153_48 : zD 153 48 = some (.iconst (1), 1, none) := by decide +kernel
theorem k_153_49 : zD 153 49 = some (.isub, 1, none) := by decide +kernel
theorem k_153_50 : zD 153 50 = some (.iload_n 3, 1, none) := by decide +kernel
theorem k_153_51 : zD 153 51 = some (.iconst (-1), 1, none) := by decide +kernel
theorem k_153_52 : zD 153 52 = some (.ixor, 1, none) := by decide +kernel
theorem k_153_53 : zD 153 53 = some (.iand, 1, none) := by decide +kernel
theorem k_153_54 : zD 153 54 = some (.ireturn, 1, none) := by decide +kernel

theorem k_180_15 : zD 180 15 = some (.getfield 60, 3, none) ∧ zFl (zOn 180) 60 = some (8, 30) ∧ zFc 8 30 = some 3 := by decide +kernel
theorem k_180_18 : zD 180 18 = some (.iload_n 3, 1, none) := by decide +kernel
theorem k_180_19 : zD 180 19 = some (.iaload, 1, none) := by decide +kernel
theorem k_180_20 : zD 180 20 = some (.aload_n 0, 1, none) := by decide +kernel
theorem k_180_21 : zD 180 21 = some (.getfield 63, 3, none) ∧ zFl (zOn 180) 63 = some (8, 31) ∧ zFc 8 31 = some 3 := by decide +kernel
theorem k_180_24 : zD 180 24 = some (.iload_n 3, 1, none) := by decide +kernel
theorem k_180_25 : zD 180 25 = some (.iaload, 1, none) := by decide +kernel
theorem k_180_26 : zD 180 26 = some (.iand, 1, none) := by decide +kernel
theorem k_180_27 : zD 180 27 = some (.iconst (-1), 1, none) := by decide +kernel
theorem k_180_28 : zD 180 28 = some (.ixor, 1, none) := by decide +kernel
theorem k_180_29 : zD 180 29 = some (.iand, 1, none) := by decide +kernel
theorem k_180_30 : zD 180 30 = some (.ifCond .ne (7), 3, none) ∧ zTg 30 (7) = some 37 := by decide +kernel
theorem k_180_33 : zD 180 33 = some (.iconst (1), 1, none) := by decide +kernel
theorem k_180_34 : zD 180 34 = some (.goto (4), 3, none) ∧ zTg 34 (4) = some 38 := by decide +kernel
theorem k_180_37 : zD 180 37 = some (.iconst (0), 1, none) := by decide +kernel
theorem k_180_38 : zD 180 38 = some (.istore 4, 2, some [true, true, true, true, false]) := by decide +kernel
theorem k_180_40 : zD 180 40 = some (.iload_n 3, 1, none) := by decide +kernel
theorem k_180_41 : zD 180 41 = some (.iload_n 1, 1, none) := by decide +kernel
theorem k_180_42 : zD 180 42 = some (.if_icmp .ne (10), 3, none) ∧ zTg 42 (10) = some 52 := by decide +kernel
theorem k_180_45 : zD 180 45 = some (.iload 4, 2, none) := by decide +kernel
theorem k_180_47 : zD 180 47 = some (.ifCond .eq (5), 3, none) ∧ zTg 47 (5) = some 52 := by decide +kernel
theorem k_180_50 : zD 180 50 = some (.iconst (1), 1, none) := by decide +kernel
theorem k_180_51 : zD 180 51 = some (.ireturn, 1, none) := by decide +kernel
theorem k_180_52 : zD 180 52 = some (.aload_n 0, 1, some [true, true, true, true, false]) := by decide +kernel
theorem k_180_53 : zD 180 53 = some (.getfield 72, 3, none) ∧ zFl (zOn 180) 72 = some (8, 34) ∧ zFc 8 34 = some 3 := by decide +kernel
theorem k_180_56 : zD 180 56 = some (.iload_n 3, 1, none) := by decide +kernel
theorem k_180_57 : zD 180 57 = some (.dup2, 1, none) := by decide +kernel
theorem k_180_58 : zD 180 58 = some (.iaload, 1, none) := by decide +kernel
theorem k_180_59 : zD 180 59 = some (.iconst (1), 1, none) := by decide +kernel
theorem k_180_60 : zD 180 60 = some (.iadd, 1, none) := by decide +kernel
theorem k_180_61 : zD 180 61 = some (.iastore, 1, none) := by decide +kernel
theorem k_180_62 : zD 180 62 = some (.iload_n 3, 1, some [true, true, true, true, false]) := by decide +kernel
theorem k_180_63 : zD 180 63 = some (.iload_n 1, 1, none) := by decide +kernel
theorem k_180_64 : zD 180 64 = some (.if_icmp .ge (41), 3, none) ∧ zTg 64 (41) = some 105 := by decide +kernel
theorem k_180_67 : zD 180 67 = some (.aload_n 0, 1, none) := by decide +kernel
theorem k_180_68 : zD 180 68 = some (.getfield 72, 3, none) ∧ zFl (zOn 180) 72 = some (8, 34) ∧ zFc 8 34 = some 3 := by decide +kernel
theorem k_180_71 : zD 180 71 = some (.iload_n 3, 1, none) := by decide +kernel
theorem k_180_72 : zD 180 72 = some (.iaload, 1, none) := by decide +kernel
theorem k_180_73 : zD 180 73 = some (.bipush (12), 2, none) := by decide +kernel
theorem k_180_75 : zD 180 75 = some (.if_icmp .ge (30), 3, none) ∧ zTg 75 (30) = some 105 := by decide +kernel
theorem k_180_78 : zD 180 78 = some (.aload_n 0, 1, none) := by decide +kernel
theorem k_180_79 : zD 180 79 = some (.iload_n 3, 1, none) := by decide +kernel
theorem k_180_80 : zD 180 80 = some (.aload_n 0, 1, none) := by decide +kernel
theorem k_180_81 : zD 180 81 = some (.getfield 72, 3, none) ∧ zFl (zOn 180) 72 = some (8, 34) ∧ zFc 8 34 = some 3 := by decide +kernel
theorem k_180_84 : zD 180 84 = some (.iload_n 3, 1, none) := by decide +kernel
theorem k_180_85 : zD 180 85 = some (.iaload, 1, none) := by decide +kernel
theorem k_180_86 : zD 180 86 = some (.invokevirtual 294, 3, none) ∧ zCk (zOn 180) 294 = some (0, 181) ∧ zNp 181 = 2 ∧ zML 181 = 13 ∧ zCo[8]? = some (zOn 181) ∧ (zRt 181 = some .int ∨ zRt 181 = some .boolean ∨ zRt 181 = some .char ∨ zRt 181 = some .byte) := by decide +kernel
theorem k_180_89 : zD 180 89 = some (.ifCond .ne (16), 3, none) ∧ zTg 89 (16) = some 105 := by decide +kernel
theorem k_180_92 : zD 180 92 = some (.aload_n 0, 1, none) := by decide +kernel
theorem k_180_93 : zD 180 93 = some (.getfield 72, 3, none) ∧ zFl (zOn 180) 72 = some (8, 34) ∧ zFc 8 34 = some 3 := by decide +kernel
theorem k_180_96 : zD 180 96 = some (.iload_n 3, 1, none) := by decide +kernel
theorem k_180_97 : zD 180 97 = some (.dup2, 1, none) := by decide +kernel
theorem k_180_98 : zD 180 98 = some (.iaload, 1, none) := by decide +kernel
theorem k_180_99 : zD 180 99 = some (.iconst (1), 1, none) := by decide +kernel
theorem k_180_100 : zD 180 100 = some (.iadd, 1, none) := by decide +kernel
theorem k_180_101 : zD 180 101 = some (.iastore, 1, none) := by decide +kernel
theorem k_180_102 : zD 180 102 = some (.goto (-40), 3, none) ∧ zTg 102 (-40) = some 62 := by decide +kernel
theorem k_180_105 : zD 180 105 = some (.iload_n 3, 1, some [true, true, true, true, false]) := by decide +kernel
theorem k_180_106 : zD 180 106 = some (.iload_n 1, 1, none) := by decide +kernel
theorem k_180_107 : zD 180 107 = some (.if_icmp .ge (27), 3, none) ∧ zTg 107 (27) = some 134 := by decide +kernel
theorem k_180_110 : zD 180 110 = some (.aload_n 0, 1, none) := by decide +kernel
theorem k_180_111 : zD 180 111 = some (.getfield 72, 3, none) ∧ zFl (zOn 180) 72 = some (8, 34) ∧ zFc 8 34 = some 3 := by decide +kernel
theorem k_180_114 : zD 180 114 = some (.iload_n 3, 1, none) := by decide +kernel
theorem k_180_115 : zD 180 115 = some (.iaload, 1, none) := by decide +kernel
theorem k_180_116 : zD 180 116 = some (.bipush (12), 2, none) := by decide +kernel
theorem k_180_118 : zD 180 118 = some (.if_icmp .ge (16), 3, none) ∧ zTg 118 (16) = some 134 := by decide +kernel
theorem k_180_121 : zD 180 121 = some (.iinc 3 (1), 3, none) := by decide +kernel
theorem k_180_124 : zD 180 124 = some (.aload_n 0, 1, none) := by decide +kernel
theorem k_180_125 : zD 180 125 = some (.getfield 72, 3, none) ∧ zFl (zOn 180) 72 = some (8, 34) ∧ zFc 8 34 = some 3 := by decide +kernel
theorem k_180_128 : zD 180 128 = some (.iload_n 3, 1, none) := by decide +kernel
theorem k_180_129 : zD 180 129 = some (.iconst (-1), 1, none) := by decide +kernel
theorem k_180_130 : zD 180 130 = some (.iastore, 1, none) := by decide +kernel
theorem k_180_131 : zD 180 131 = some (.goto (6), 3, none) ∧ zTg 131 (6) = some 137 := by decide +kernel
theorem k_180_137 : zD 180 137 = some (.goto (-128), 3, some [true, true, true, true, false]) ∧ zTg 137 (-128) = some 9 := by decide +kernel
theorem k_180_134 : zD 180 134 = some (.iinc 3 (-1), 3, some [true, true, true, true, false]) := by decide +kernel
theorem kd_180_9 : zD 180 9 = some (.iload_n 3, 1, some [true, true, true, true, false]) := k_180_9
theorem kd_180_38 : zD 180 38 = some (.istore 4, 2, some [true, true, true, true, false]) := k_180_38
theorem kd_180_52 : zD 180 52 = some (.aload_n 0, 1, some [true, true, true, true, false]) := k_180_52
theorem kd_180_62 : zD 180 62 = some (.iload_n 3, 1, some [true, true, true, true, false]) := k_180_62
theorem kd_180_105 : zD 180 105 = some (.iload_n 3, 1, some [true, true, true, true, false]) := k_180_105
theorem ml_181 : zML 181 = 13 := by decide +kernel
theorem rt_181 : zRt 181 = some .boolean := by decide +kernel
theorem k_181_0 : zD 181 0 = some (.iload_n 2, 1, none) := by decide +kernel
theorem k_181_1 : zD 181 1 = some (.bipush (6), 2, none) := by decide +kernel
theorem k_181_3 : zD 181 3 = some (.irem, 1, none) := by decide +kernel
theorem k_181_4 : zD 181 4 = some (.istore_n 3, 1, none) := by decide +kernel
theorem k_181_5 : zD 181 5 = some (.iload_n 2, 1, none) := by decide +kernel
theorem k_181_6 : zD 181 6 = some (.bipush (6), 2, none) := by decide +kernel
theorem k_181_8 : zD 181 8 = some (.if_icmp .ge (7), 3, none) ∧ zTg 8 (7) = some 15 := by decide +kernel
theorem k_181_11 : zD 181 11 = some (.iconst (1), 1, none) := by decide +kernel
theorem k_181_12 : zD 181 12 = some (.goto (4), 3, none) ∧ zTg 12 (4) = some 16 := by decide +kernel
theorem k_181_15 : zD 181 15 = some (.iconst (0), 1, none) := by decide +kernel
theorem k_181_16 : zD 181 16 = some (.istore 4, 2, some [true, true, false, true, false, false, false, false, false, false, false, false, false]) := by decide +kernel
theorem k_181_18 : zD 181 18 = some (.iload 4, 2, none) := by decide +kernel
theorem k_181_20 : zD 181 20 = some (.ifCond .eq (12), 3, none) ∧ zTg 20 (12) = some 32 := by decide +kernel
theorem k_181_32 : zD 181 32 = some (.aload_n 0, 1, none) := by decide +kernel
theorem k_181_33 : zD 181 33 = some (.getfield 63, 3, none) ∧ zFl (zOn 181) 63 = some (8, 31) ∧ zFc 8 31 = some 3 := by decide +kernel
theorem k_181_36 : zD 181 36 = some (.iload_n 1, 1, none) := by decide +kernel
theorem k_181_37 : zD 181 37 = some (.iaload, 1, none) := by decide +kernel
theorem k_181_23 : zD 181 23 = some (.aload_n 0, 1, none) := by decide +kernel
theorem k_181_24 : zD 181 24 = some (.getfield 60, 3, none) ∧ zFl (zOn 181) 60 = some (8, 30) ∧ zFc 8 30 = some 3 := by decide +kernel
theorem k_181_27 : zD 181 27 = some (.iload_n 1, 1, none) := by decide +kernel
theorem k_181_28 : zD 181 28 = some (.iaload, 1, none) := by decide +kernel
theorem k_181_29 : zD 181 29 = some (.goto (9), 3, none) ∧ zTg 29 (9) = some 38 := by decide +kernel
theorem k_181_38 : zD 181 38 = some (.istore 5, 2, some [true, true, false, true, true, false, false, false, false, false, false, false, false]) := by decide +kernel
theorem k_181_40 : zD 181 40 = some (.iload 4, 2, none) := by decide +kernel
theorem k_181_42 : zD 181 42 = some (.ifCond .eq (12), 3, none) ∧ zTg 42 (12) = some 54 := by decide +kernel
theorem k_181_54 : zD 181 54 = some (.aload_n 0, 1, none) := by decide +kernel
theorem k_181_55 : zD 181 55 = some (.getfield 69, 3, none) ∧ zFl (zOn 181) 69 = some (8, 33) ∧ zFc 8 33 = some 3 := by decide +kernel
theorem k_181_58 : zD 181 58 = some (.iload_n 1, 1, none) := by decide +kernel
theorem k_181_59 : zD 181 59 = some (.laload, 1, none) := by decide +kernel
theorem k_181_45 : zD 181 45 = some (.aload_n 0, 1, none) := by decide +kernel
theorem k_181_46 : zD 181 46 = some (.getfield 66, 3, none) ∧ zFl (zOn 181) 66 = some (8, 32) ∧ zFc 8 32 = some 3 := by decide +kernel
theorem k_181_49 : zD 181 49 = some (.iload_n 1, 1, none) := by decide +kernel
theorem k_181_50 : zD 181 50 = some (.laload, 1, none) := by decide +kernel
theorem k_181_51 : zD 181 51 = some (.goto (9), 3, none) ∧ zTg 51 (9) = some 60 := by decide +kernel
theorem k_181_60 : zD 181 60 = some (.lstore 6, 2, some [true, true, false, true, true, true, false, false, false, false, false, false, false]) := by decide +kernel
theorem k_181_62 : zD 181 62 = some (.iload_n 3, 1, none) := by decide +kernel
theorem k_181_63 : zD 181 63 = some (.aload_n 0, 1, none) := by decide +kernel
theorem k_181_64 : zD 181 64 = some (.getfield 103, 3, none) ∧ zFl (zOn 181) 103 = some (8, 0) ∧ zFc 8 0 = some 0 := by decide +kernel
theorem k_181_67 : zD 181 67 = some (.if_icmp .ge (30), 3, none) ∧ zTg 67 (30) = some 97 := by decide +kernel
theorem k_181_70 : zD 181 70 = some (.iload 5, 2, none) := by decide +kernel
theorem k_181_72 : zD 181 72 = some (.iload_n 3, 1, none) := by decide +kernel
theorem k_181_73 : zD 181 73 = some (.invokestatic 121, 3, none) ∧ zAt.lookup (zOn 181, 121) = none ∧ zCk (zOn 181) 121 = some (1, 129) ∧ (1 = 1 ∨ 1 = 3) ∧ zNp 129 = 2 ∧ zML 129 = 2 ∧ (zRt 129 = some .int ∨ zRt 129 = some .boolean ∨ zRt 129 = some .char ∨ zRt 129 = some .byte) := by decide +kernel
theorem k_181_76 : zD 181 76 = some (.ifCond .eq (21), 3, none) ∧ zTg 76 (21) = some 97 := by decide +kernel
theorem k_181_97 : zD 181 97 = some (.iconst (0), 1, some [false, false, false, false, false, false, false, false, false, false, false, false, false]) := by decide +kernel
theorem k_181_98 : zD 181 98 = some (.ireturn, 1, none) := by decide +kernel
theorem k_181_79 : zD 181 79 = some (.aload_n 0, 1, none) := by decide +kernel
theorem k_181_80 : zD 181 80 = some (.lload 6, 2, none) := by decide +kernel
theorem k_181_82 : zD 181 82 = some (.invokevirtual 234, 3, none) ∧ zCk (zOn 181) 234 = some (0, 153) ∧ zNp 153 = 1 ∧ zML 153 = 5 ∧ zCo[8]? = some (zOn 153) ∧ (zRt 153 = some .int ∨ zRt 153 = some .boolean ∨ zRt 153 = some .char ∨ zRt 153 = some .byte) := by decide +kernel
theorem k_181_85 : zD 181 85 = some (.lload 6, 2, none) := by decide +kernel
theorem k_181_87 : zD 181 87 = some (.invokestatic 253, 3, none) ∧ zAt.lookup (zOn 181, 253) = none ∧ zCk (zOn 181) 253 = some (1, 162) ∧ (1 = 1 ∨ 1 = 3) ∧ zNp 162 = 2 ∧ zML 162 = 3 ∧ (zRt 162 = some .int ∨ zRt 162 = some .boolean ∨ zRt 162 = some .char ∨ zRt 162 = some .byte) := by decide +kernel
theorem k_181_90 : zD 181 90 = some (.iload_n 3, 1, none) := by decide +kernel
theorem k_181_91 : zD 181 91 = some (.invokestatic 121, 3, none) ∧ zAt.lookup (zOn 181, 121) = none ∧ zCk (zOn 181) 121 = some (1, 129) ∧ (1 = 1 ∨ 1 = 3) ∧ zNp 129 = 2 ∧ zML 129 = 2 ∧ (zRt 129 = some .int ∨ zRt 129 = some .boolean ∨ zRt 129 = some .char ∨ zRt 129 = some .byte) := by decide +kernel
theorem k_181_94 : zD 181 94 = some (.ifCond .ne (5), 3, none) ∧ zTg 94 (5) = some 99 := by decide +kernel
theorem k_181_99 : zD 181 99 = some (.iload 4, 2, none) := by decide +kernel
theorem k_181_101 : zD 181 101 = some (.ifCond .eq (12), 3, none) ∧ zTg 101 (12) = some 113 := by decide +kernel
theorem k_181_113 : zD 181 113 = some (.aload_n 0, 1, none) := by decide +kernel
theorem k_181_114 : zD 181 114 = some (.getfield 60, 3, none) ∧ zFl (zOn 181) 60 = some (8, 30) ∧ zFc 8 30 = some 3 := by decide +kernel
theorem k_181_117 : zD 181 117 = some (.iload_n 1, 1, none) := by decide +kernel
theorem k_181_118 : zD 181 118 = some (.iaload, 1, none) := by decide +kernel
theorem k_181_104 : zD 181 104 = some (.aload_n 0, 1, none) := by decide +kernel
theorem k_181_105 : zD 181 105 = some (.getfield 63, 3, none) ∧ zFl (zOn 181) 63 = some (8, 31) ∧ zFc 8 31 = some 3 := by decide +kernel
theorem k_181_108 : zD 181 108 = some (.iload_n 1, 1, none) := by decide +kernel
theorem k_181_109 : zD 181 109 = some (.iaload, 1, none) := by decide +kernel
theorem k_181_110 : zD 181 110 = some (.goto (9), 3, none) ∧ zTg 110 (9) = some 119 := by decide +kernel
theorem k_181_119 : zD 181 119 = some (.istore 8, 2, some [true, true, false, true, true, false, true, false, false, false, false, false, false]) := by decide +kernel
theorem k_181_121 : zD 181 121 = some (.aload_n 0, 1, none) := by decide +kernel
theorem k_181_122 : zD 181 122 = some (.aload_n 0, 1, none) := by decide +kernel
theorem k_181_123 : zD 181 123 = some (.lload 6, 2, none) := by decide +kernel
theorem k_181_125 : zD 181 125 = some (.iload_n 3, 1, none) := by decide +kernel
theorem k_181_126 : zD 181 126 = some (.iload 8, 2, none) := by decide +kernel
theorem k_181_128 : zD 181 128 = some (.iload_n 3, 1, none) := by decide +kernel
theorem k_181_129 : zD 181 129 = some (.invokestatic 121, 3, none) ∧ zAt.lookup (zOn 181, 121) = none ∧ zCk (zOn 181) 121 = some (1, 129) ∧ (1 = 1 ∨ 1 = 3) ∧ zNp 129 = 2 ∧ zML 129 = 2 ∧ (zRt 129 = some .int ∨ zRt 129 = some .boolean ∨ zRt 129 = some .char ∨ zRt 129 = some .byte) := by decide +kernel
theorem k_181_132 : zD 181 132 = some (.invokevirtual 267, 3, none) ∧ zCk (zOn 181) 267 = some (0, 168) ∧ zNp 168 = 3 ∧ zML 168 = 8 ∧ zCo[8]? = some (zOn 168) ∧ zRt 168 = some .long := by decide +kernel
theorem k_181_135 : zD 181 135 = some (.iload_n 3, 1, none) := by decide +kernel
theorem k_181_136 : zD 181 136 = some (.invokevirtual 278, 3, none) ∧ zCk (zOn 181) 278 = some (0, 173) ∧ zNp 173 = 2 ∧ zML 173 = 7 ∧ zCo[8]? = some (zOn 173) ∧ zRt 173 = some .long := by decide +kernel
theorem k_181_139 : zD 181 139 = some (.lstore 9, 2, none) := by decide +kernel
theorem k_181_141 : zD 181 141 = some (.aload_n 0, 1, none) := by decide +kernel
theorem k_181_142 : zD 181 142 = some (.iload 4, 2, none) := by decide +kernel
theorem k_181_144 : zD 181 144 = some (.ifCond .eq (12), 3, none) ∧ zTg 144 (12) = some 156 := by decide +kernel
theorem k_181_156 : zD 181 156 = some (.aload_n 0, 1, none) := by decide +kernel
theorem k_181_157 : zD 181 157 = some (.getfield 66, 3, none) ∧ zFl (zOn 181) 66 = some (8, 32) ∧ zFc 8 32 = some 3 := by decide +kernel
theorem k_181_160 : zD 181 160 = some (.iload_n 1, 1, none) := by decide +kernel
theorem k_181_161 : zD 181 161 = some (.laload, 1, none) := by decide +kernel
theorem k_181_147 : zD 181 147 = some (.aload_n 0, 1, none) := by decide +kernel
theorem k_181_148 : zD 181 148 = some (.getfield 69, 3, none) ∧ zFl (zOn 181) 69 = some (8, 33) ∧ zFc 8 33 = some 3 := by decide +kernel
theorem k_181_151 : zD 181 151 = some (.iload_n 1, 1, none) := by decide +kernel
theorem k_181_152 : zD 181 152 = some (.laload, 1, none) := by decide +kernel
theorem k_181_153 : zD 181 153 = some (.goto (9), 3, none) ∧ zTg 153 (9) = some 162 := by decide +kernel
theorem k_181_162 : zD 181 162 = some (.iload_n 3, 1, some [true, true, false, true, true, false, false, false, false, true, false, false, false]) := by decide +kernel
theorem k_181_163 : zD 181 163 = some (.iconst (1), 1, none) := by decide +kernel
theorem k_181_164 : zD 181 164 = some (.invokevirtual 267, 3, none) ∧ zCk (zOn 181) 267 = some (0, 168) ∧ zNp 168 = 3 ∧ zML 168 = 8 ∧ zCo[8]? = some (zOn 168) ∧ zRt 168 = some .long := by decide +kernel
theorem k_181_167 : zD 181 167 = some (.lstore 11, 2, none) := by decide +kernel
theorem k_181_169 : zD 181 169 = some (.aload_n 0, 1, none) := by decide +kernel
theorem k_181_170 : zD 181 170 = some (.getfield 60, 3, none) ∧ zFl (zOn 181) 60 = some (8, 30) ∧ zFc 8 30 = some 3 := by decide +kernel
theorem k_181_173 : zD 181 173 = some (.iload_n 1, 1, none) := by decide +kernel
theorem k_181_174 : zD 181 174 = some (.iconst (1), 1, none) := by decide +kernel
theorem k_181_175 : zD 181 175 = some (.iadd, 1, none) := by decide +kernel
theorem k_181_176 : zD 181 176 = some (.iload 4, 2, none) := by decide +kernel
theorem k_181_178 : zD 181 178 = some (.ifCond .eq (12), 3, none) ∧ zTg 178 (12) = some 190 := by decide +kernel
theorem k_181_190 : zD 181 190 = some (.aload_n 0, 1, none) := by decide +kernel
theorem k_181_191 : zD 181 191 = some (.getfield 23, 3, none) ∧ zFl (zOn 181) 23 = some (8, 6) ∧ zFc 8 6 = some 3 := by decide +kernel
theorem k_181_194 : zD 181 194 = some (.aload_n 0, 1, none) := by decide +kernel
theorem k_181_195 : zD 181 195 = some (.getfield 60, 3, none) ∧ zFl (zOn 181) 60 = some (8, 30) ∧ zFc 8 30 = some 3 := by decide +kernel
theorem k_181_198 : zD 181 198 = some (.iload_n 1, 1, none) := by decide +kernel
theorem k_181_199 : zD 181 199 = some (.iaload, 1, none) := by decide +kernel
theorem k_181_200 : zD 181 200 = some (.iconst (1), 1, none) := by decide +kernel
theorem k_181_201 : zD 181 201 = some (.iload_n 3, 1, none) := by decide +kernel
theorem k_181_202 : zD 181 202 = some (.ishl, 1, none) := by decide +kernel
theorem k_181_203 : zD 181 203 = some (.ior, 1, none) := by decide +kernel
theorem k_181_204 : zD 181 204 = some (.iaload, 1, none) := by decide +kernel
theorem k_181_181 : zD 181 181 = some (.aload_n 0, 1, none) := by decide +kernel
theorem k_181_182 : zD 181 182 = some (.getfield 60, 3, none) ∧ zFl (zOn 181) 60 = some (8, 30) ∧ zFc 8 30 = some 3 := by decide +kernel
theorem k_181_185 : zD 181 185 = some (.iload_n 1, 1, none) := by decide +kernel
theorem k_181_186 : zD 181 186 = some (.iaload, 1, none) := by decide +kernel
theorem k_181_187 : zD 181 187 = some (.goto (18), 3, none) ∧ zTg 187 (18) = some 205 := by decide +kernel
theorem k_181_205 : zD 181 205 = some (.iastore, 1, some [true, true, false, true, true, false, false, false, false, true, false, true, false]) := by decide +kernel
theorem k_181_206 : zD 181 206 = some (.aload_n 0, 1, none) := by decide +kernel
theorem k_181_207 : zD 181 207 = some (.getfield 63, 3, none) ∧ zFl (zOn 181) 63 = some (8, 31) ∧ zFc 8 31 = some 3 := by decide +kernel
theorem k_181_210 : zD 181 210 = some (.iload_n 1, 1, none) := by decide +kernel
theorem k_181_211 : zD 181 211 = some (.iconst (1), 1, none) := by decide +kernel
theorem k_181_212 : zD 181 212 = some (.iadd, 1, none) := by decide +kernel
theorem k_181_213 : zD 181 213 = some (.iload 4, 2, none) := by decide +kernel
theorem k_181_215 : zD 181 215 = some (.ifCond .eq (21), 3, none) ∧ zTg 215 (21) = some 236 := by decide +kernel
theorem k_181_236 : zD 181 236 = some (.aload_n 0, 1, none) := by decide +kernel
theorem k_181_237 : zD 181 237 = some (.getfield 63, 3, none) ∧ zFl (zOn 181) 63 = some (8, 31) ∧ zFc 8 31 = some 3 := by decide +kernel
theorem k_181_240 : zD 181 240 = some (.iload_n 1, 1, none) := by decide +kernel
theorem k_181_241 : zD 181 241 = some (.iaload, 1, none) := by decide +kernel
theorem k_181_218 : zD 181 218 = some (.aload_n 0, 1, none) := by decide +kernel
theorem k_181_219 : zD 181 219 = some (.getfield 23, 3, none) ∧ zFl (zOn 181) 23 = some (8, 6) ∧ zFc 8 6 = some 3 := by decide +kernel
theorem k_181_222 : zD 181 222 = some (.aload_n 0, 1, none) := by decide +kernel
theorem k_181_223 : zD 181 223 = some (.getfield 63, 3, none) ∧ zFl (zOn 181) 63 = some (8, 31) ∧ zFc 8 31 = some 3 := by decide +kernel
theorem k_181_226 : zD 181 226 = some (.iload_n 1, 1, none) := by decide +kernel
theorem k_181_227 : zD 181 227 = some (.iaload, 1, none) := by decide +kernel
theorem k_181_228 : zD 181 228 = some (.iconst (1), 1, none) := by decide +kernel
theorem k_181_229 : zD 181 229 = some (.iload_n 3, 1, none) := by decide +kernel
theorem k_181_230 : zD 181 230 = some (.ishl, 1, none) := by decide +kernel
theorem k_181_231 : zD 181 231 = some (.ior, 1, none) := by decide +kernel
theorem k_181_232 : zD 181 232 = some (.iaload, 1, none) := by decide +kernel
theorem k_181_233 : zD 181 233 = some (.goto (9), 3, none) ∧ zTg 233 (9) = some 242 := by decide +kernel
theorem k_181_242 : zD 181 242 = some (.iastore, 1, some [true, true, false, false, true, false, false, false, false, true, false, true, false]) := by decide +kernel
theorem k_181_243 : zD 181 243 = some (.aload_n 0, 1, none) := by decide +kernel
theorem k_181_244 : zD 181 244 = some (.getfield 66, 3, none) ∧ zFl (zOn 181) 66 = some (8, 32) ∧ zFc 8 32 = some 3 := by decide +kernel
theorem k_181_247 : zD 181 247 = some (.iload_n 1, 1, none) := by decide +kernel
theorem k_181_248 : zD 181 248 = some (.iconst (1), 1, none) := by decide +kernel
theorem k_181_249 : zD 181 249 = some (.iadd, 1, none) := by decide +kernel
theorem k_181_250 : zD 181 250 = some (.iload 4, 2, none) := by decide +kernel
theorem k_181_252 : zD 181 252 = some (.ifCond .eq (8), 3, none) ∧ zTg 252 (8) = some 260 := by decide +kernel
theorem k_181_260 : zD 181 260 = some (.lload 11, 2, none) := by decide +kernel
theorem k_181_255 : zD 181 255 = some (.lload 9, 2, none) := by decide +kernel
theorem k_181_257 : zD 181 257 = some (.goto (5), 3, none) ∧ zTg 257 (5) = some 262 := by decide +kernel
theorem k_181_262 : zD 181 262 = some (.lastore, 1, some [true, true, false, false, true, false, false, false, false, true, false, true, false]) := by decide +kernel
theorem k_181_263 : zD 181 263 = some (.aload_n 0, 1, none) := by decide +kernel
theorem k_181_264 : zD 181 264 = some (.getfield 69, 3, none) ∧ zFl (zOn 181) 69 = some (8, 33) ∧ zFc 8 33 = some 3 := by decide +kernel
theorem k_181_267 : zD 181 267 = some (.iload_n 1, 1, none) := by decide +kernel
theorem k_181_268 : zD 181 268 = some (.iconst (1), 1, none) := by decide +kernel
theorem k_181_269 : zD 181 269 = some (.iadd, 1, none) := by decide +kernel
theorem k_181_270 : zD 181 270 = some (.iload 4, 2, none) := by decide +kernel
theorem k_181_272 : zD 181 272 = some (.ifCond .eq (8), 3, none) ∧ zTg 272 (8) = some 280 := by decide +kernel
theorem k_181_280 : zD 181 280 = some (.lload 9, 2, none) := by decide +kernel
theorem k_181_282 : zD 181 282 = some (.lastore, 1, some [false, false, false, false, false, false, false, false, false, false, false, false, false]) := by decide +kernel
theorem k_181_283 : zD 181 283 = some (.iconst (1), 1, none) := by decide +kernel
theorem k_181_284 : zD 181 284 = some (.ireturn, 1, none) := by decide +kernel
theorem k_181_275 : zD 181 275 = some (.lload 11, 2, none) := by decide +kernel
theorem k_181_277 : zD 181 277 = some (.goto (5), 3, none) ∧ zTg 277 (5) = some 282 := by decide +kernel
theorem kd_181_16 : zD 181 16 = some (.istore 4, 2, some [true, true, false, true, false, false, false, false, false, false, false, false, false]) := k_181_16
theorem kd_181_38 : zD 181 38 = some (.istore 5, 2, some [true, true, false, true, true, false, false, false, false, false, false, false, false]) := k_181_38
theorem kd_181_60 : zD 181 60 = some (.lstore 6, 2, some [true, true, false, true, true, true, false, false, false, false, false, false, false]) := k_181_60
theorem kd_181_97 : zD 181 97 = some (.iconst (0), 1, some [false, false, false, false, false, false, false, false, false, false, false, false, false]) := k_181_97
theorem kd_181_119 : zD 181 119 = some (.istore 8, 2, some [true, true, false, true, true, false, true, false, false, false, false, false, false]) := k_181_119
theorem kd_181_162 : zD 181 162 = some (.iload_n 3, 1, some [true, true, false, true, true, false, false, false, false, true, false, false, false]) := k_181_162
theorem kd_181_205 : zD 181 205 = some (.iastore, 1, some [true, true, false, true, true, false, false, false, false, true, false, true, false]) := k_181_205
theorem kd_181_242 : zD 181 242 = some (.iastore, 1, some [true, true, false, false, true, false, false, false, false, true, false, true, false]) := k_181_242
theorem kd_181_262 : zD 181 262 = some (.lastore, 1, some [true, true, false, false, true, false, false, false, false, true, false, true, false]) := k_181_262
theorem kd_181_282 : zD 181 282 = some (.lastore, 1, some [false, false, false, false, false, false, false, false, false, false, false, false, false]) := k_181_282
theorem ml_182 : zML 182 = 3 := by decide +kernel
theorem rt_182 : zRt 182 = some .int := by decide +kernel
theorem k_182_0 : zD 182 0 = some (.iload_n 1, 1, none) := by decide +kernel
theorem k_182_1 : zD 182 1 = some (.i2l, 1, none) := by decide +kernel
theorem k_182_2 : zD 182 2 = some (.lconst 1, 1, none) := by decide +kernel
theorem k_182_3 : zD 182 3 = some (.ldc2_w 300, 3, none) ∧ zKc (zOn 182) 300 = some (.inr 6) := by decide +kernel
theorem k_182_6 : zD 182 6 = some (.invokestatic 106, 3, none) ∧ zAt.lookup (zOn 182, 106) = none ∧ zCk (zOn 182) 106 = some (1, 132) ∧ (1 = 1 ∨ 1 = 3) ∧ zNp 132 = 3 ∧ zML 132 = 6 ∧ (zRt 132 = some .int ∨ zRt 132 = some .boolean ∨ zRt 132 = some .char ∨ zRt 132 = some .byte) := by decide +kernel
theorem k_182_9 : zD 182 9 = some (.ifCond .ne (6), 3, none) ∧ zTg 9 (6) = some 15 := by decide +kernel
theorem k_182_12 : zD 182 12 = some (.ldc 138, 2, none) ∧ zKc (zOn 182) 138 = some (.inl (-1000000002)) := by decide +kernel
theorem k_182_14 : zD 182 14 = some (.ireturn, 1, none) := by decide +kernel
theorem k_182_15 : zD 182 15 = some (.iconst (2), 1, none) := by decide +kernel
theorem k_182_16 : zD 182 16 = some (.istore_n 2, 1, none) := by decide +kernel
theorem k_182_17 : zD 182 17 = some (.iload_n 2, 1, some [true, true, true]) := by decide +kernel
theorem k_182_18 : zD 182 18 = some (.bipush (100), 2, none) := by decide +kernel
theorem k_182_20 : zD 182 20 = some (.if_icmp .ge (20), 3, none) ∧ zTg 20 (20) = some 40 := by decide +kernel
theorem k_182_23 : zD 182 23 = some (.aload_n 0, 1, none) := by decide +kernel
theorem k_182_24 : zD 182 24 = some (.iload_n 2, 1, none) := by decide +kernel
theorem k_182_25 : zD 182 25 = some (.iload_n 1, 1, none) := by decide +kernel
theorem k_182_26 : zD 182 26 = some (.invokevirtual 302, 3, none) ∧ zCk (zOn 182) 302 = some (0, 183) ∧ zNp 183 = 2 ∧ zML 183 = 8 ∧ zCo[8]? = some (zOn 183) ∧ (zRt 183 = some .int ∨ zRt 183 = some .boolean ∨ zRt 183 = some .char ∨ zRt 183 = some .byte) := by decide +kernel
theorem k_182_29 : zD 182 29 = some (.ifCond .eq (5), 3, none) ∧ zTg 29 (5) = some 34 := by decide +kernel
theorem k_182_34 : zD 182 34 = some (.iinc 2 (1), 3, none) := by decide +kernel
theorem k_182_37 : zD 182 37 = some (.goto (-20), 3, none) ∧ zTg 37 (-20) = some 17 := by decide +kernel
theorem k_182_32 : zD 182 32 = some (.iload_n 2, 1, none) := by decide +kernel
theorem k_182_33 : zD 182 33 = some (.ireturn, 1, none) := by decide +kernel
theorem k_182_40 : zD 182 40 = some (.iconst (-1), 1, none) := by decide +kernel
theorem k_182_41 : zD 182 41 = some (.ireturn, 1, none) := by decide +kernel
theorem kd_182_17 : zD 182 17 = some (.iload_n 2, 1, some [true, true, true]) := k_182_17
theorem ml_183 : zML 183 = 8 := by decide +kernel
theorem rt_183 : zRt 183 = some .boolean := by decide +kernel
theorem k_183_0 : zD 183 0 = some (.iconst (1), 1, none) := by decide +kernel
theorem k_183_1 : zD 183 1 = some (.istore_n 3, 1, none) := by decide +kernel
theorem k_183_2 : zD 183 2 = some (.iconst (0), 1, none) := by decide +kernel
theorem k_183_3 : zD 183 3 = some (.istore 4, 2, none) := by decide +kernel
theorem k_183_5 : zD 183 5 = some (.iload 4, 2, some [true, true, true, true, true, false, false, false]) := by decide +kernel
theorem k_183_7 : zD 183 7 = some (.iconst (1), 1, none) := by decide +kernel
theorem k_183_8 : zD 183 8 = some (.iconst (2), 1, none) := by decide +kernel
theorem k_183_9 : zD 183 9 = some (.aload_n 0, 1, none) := by decide +kernel
theorem k_183_10 : zD 183 10 = some (.getfield 103, 3, none) ∧ zFl (zOn 183) 103 = some (8, 0) ∧ zFc 8 0 = some 0 := by decide +kernel
theorem k_183_13 : zD 183 13 = some (.imul, 1, none) := by decide +kernel
theorem k_183_14 : zD 183 14 = some (.ishl, 1, none) := by decide +kernel
theorem k_183_15 : zD 183 15 = some (.if_icmp .ge (117), 3, none) ∧ zTg 15 (117) = some 132 := by decide +kernel
theorem k_183_18 : zD 183 18 = some (.iload_n 3, 1, none) := by decide +kernel
theorem k_183_19 : zD 183 19 = some (.ifCond .eq (113), 3, none) ∧ zTg 19 (113) = some 132 := by decide +kernel
theorem k_183_132 : zD 183 132 = some (.iload_n 3, 1, some [false, false, false, true, false, false, false, false]) := by decide +kernel
theorem k_183_133 : zD 183 133 = some (.ireturn, 1, none) := by decide +kernel
theorem k_183_22 : zD 183 22 = some (.iload 4, 2, none) := by decide +kernel
theorem k_183_24 : zD 183 24 = some (.aload_n 0, 1, none) := by decide +kernel
theorem k_183_25 : zD 183 25 = some (.getfield 103, 3, none) ∧ zFl (zOn 183) 103 = some (8, 0) ∧ zFc 8 0 = some 0 := by decide +kernel
theorem k_183_28 : zD 183 28 = some (.ishr, 1, none) := by decide +kernel
theorem k_183_29 : zD 183 29 = some (.istore 5, 2, none) := by decide +kernel
theorem k_183_31 : zD 183 31 = some (.iload 4, 2, none) := by decide +kernel
theorem k_183_33 : zD 183 33 = some (.iconst (1), 1, none) := by decide +kernel
theorem k_183_34 : zD 183 34 = some (.aload_n 0, 1, none) := by decide +kernel
theorem k_183_35 : zD 183 35 = some (.getfield 103, 3, none) ∧ zFl (zOn 183) 103 = some (8, 0) ∧ zFc 8 0 = some 0 := by decide +kernel
theorem k_183_38 : zD 183 38 = some (.ishl, 1, none) := by decide +kernel
theorem k_183_39 : zD 183 39 = some (.iconst (1), 1, none) := by decide +kernel
theorem k_183_40 : zD 183 40 = some (.isub, 1, none) := by decide +kernel
theorem k_183_41 : zD 183 41 = some (.iand, 1, none) := by decide +kernel
theorem k_183_42 : zD 183 42 = some (.istore 6, 2, none) := by decide +kernel
theorem k_183_44 : zD 183 44 = some (.aload_n 0, 1, none) := by decide +kernel
theorem k_183_45 : zD 183 45 = some (.getfield 117, 3, none) ∧ zFl (zOn 183) 117 = some (8, 7) ∧ zFc 8 7 = some 2 := by decide +kernel
theorem k_183_48 : zD 183 48 = some (.iload 5, 2, none) := by decide +kernel
theorem k_183_50 : zD 183 50 = some (.lshr, 1, none) := by decide +kernel
theorem k_183_51 : zD 183 51 = some (.lconst 1, 1, none) := by decide +kernel
theorem k_183_52 : zD 183 52 = some (.land, 1, none) := by decide +kernel
theorem k_183_53 : zD 183 53 = some (.lconst 1, 1, none) := by decide +kernel
theorem k_183_54 : zD 183 54 = some (.lcmp, 1, none) := by decide +kernel
theorem k_183_55 : zD 183 55 = some (.ifCond .ne (21), 3, none) ∧ zTg 55 (21) = some 76 := by decide +kernel
theorem k_183_58 : zD 183 58 = some (.aload_n 0, 1, none) := by decide +kernel
theorem k_183_59 : zD 183 59 = some (.getfield 117, 3, none) ∧ zFl (zOn 183) 117 = some (8, 7) ∧ zFc 8 7 = some 2 := by decide +kernel
theorem k_183_62 : zD 183 62 = some (.iload 6, 2, none) := by decide +kernel
theorem k_183_64 : zD 183 64 = some (.lshr, 1, none) := by decide +kernel
theorem k_183_65 : zD 183 65 = some (.lconst 1, 1, none) := by decide +kernel
theorem k_183_66 : zD 183 66 = some (.land, 1, none) := by decide +kernel
theorem k_183_67 : zD 183 67 = some (.lconst 1, 1, none) := by decide +kernel
theorem k_183_68 : zD 183 68 = some (.lcmp, 1, none) := by decide +kernel
theorem k_183_69 : zD 183 69 = some (.ifCond .ne (7), 3, none) ∧ zTg 69 (7) = some 76 := by decide +kernel
theorem k_183_72 : zD 183 72 = some (.iconst (1), 1, none) := by decide +kernel
theorem k_183_73 : zD 183 73 = some (.goto (4), 3, none) ∧ zTg 73 (4) = some 77 := by decide +kernel
theorem k_183_76 : zD 183 76 = some (.iconst (0), 1, some [true, true, true, false, true, true, true, false]) := by decide +kernel
theorem k_183_77 : zD 183 77 = some (.istore 7, 2, some [true, true, true, false, true, true, true, false]) := by decide +kernel
theorem k_183_79 : zD 183 79 = some (.iload 7, 2, none) := by decide +kernel
theorem k_183_81 : zD 183 81 = some (.ifCond .eq (39), 3, none) ∧ zTg 81 (39) = some 120 := by decide +kernel
theorem k_183_120 : zD 183 120 = some (.iconst (1), 1, some [true, true, true, false, true, false, false, false]) := by decide +kernel
theorem k_183_121 : zD 183 121 = some (.goto (4), 3, none) ∧ zTg 121 (4) = some 125 := by decide +kernel
theorem k_183_125 : zD 183 125 = some (.istore_n 3, 1, some [true, true, true, false, true, false, false, false]) := by decide +kernel
theorem k_183_126 : zD 183 126 = some (.iinc 4 (1), 3, none) := by decide +kernel
theorem k_183_129 : zD 183 129 = some (.goto (-124), 3, none) ∧ zTg 129 (-124) = some 5 := by decide +kernel
theorem k_183_84 : zD 183 84 = some (.iload 5, 2, none) := by decide +kernel
theorem k_183_86 : zD 183 86 = some (.iload 6, 2, none) := by decide +kernel
theorem k_183_88 : zD 183 88 = some (.ixor, 1, none) := by decide +kernel
theorem k_183_89 : zD 183 89 = some (.i2l, 1, none) := by decide +kernel
theorem k_183_90 : zD 183 90 = some (.invokestatic 222, 3, none) ∧ zAt.lookup (zOn 183, 222) = none ∧ zCk (zOn 183) 222 = some (1, 146) ∧ (1 = 1 ∨ 1 = 3) ∧ zNp 146 = 1 ∧ zML 146 = 4 ∧ (zRt 146 = some .int ∨ zRt 146 = some .boolean ∨ zRt 146 = some .char ∨ zRt 146 = some .byte) := by decide +kernel
theorem k_183_93 : zD 183 93 = some (.i2l, 1, none) := by decide +kernel
theorem k_183_94 : zD 183 94 = some (.lconst 1, 1, none) := by decide +kernel
theorem k_183_95 : zD 183 95 = some (.iload_n 2, 1, none) := by decide +kernel
theorem k_183_96 : zD 183 96 = some (.i2l, 1, none) := by decide +kernel
theorem k_183_97 : zD 183 97 = some (.invokestatic 106, 3, none) ∧ zAt.lookup (zOn 183, 106) = none ∧ zCk (zOn 183) 106 = some (1, 132) ∧ (1 = 1 ∨ 1 = 3) ∧ zNp 132 = 3 ∧ zML 132 = 6 ∧ (zRt 132 = some .int ∨ zRt 132 = some .boolean ∨ zRt 132 = some .char ∨ zRt 132 = some .byte) := by decide +kernel
theorem k_183_100 : zD 183 100 = some (.ifCond .eq (20), 3, none) ∧ zTg 100 (20) = some 120 := by decide +kernel
theorem k_183_103 : zD 183 103 = some (.aload_n 0, 1, none) := by decide +kernel
theorem k_183_104 : zD 183 104 = some (.iload 5, 2, none) := by decide +kernel
theorem k_183_106 : zD 183 106 = some (.iload_n 1, 1, none) := by decide +kernel
theorem k_183_107 : zD 183 107 = some (.invokevirtual 125, 3, none) ∧ zCk (zOn 183) 125 = some (0, 128) ∧ zNp 128 = 2 ∧ zML 128 = 5 ∧ zCo[8]? = some (zOn 128) ∧ (zRt 128 = some .int ∨ zRt 128 = some .boolean ∨ zRt 128 = some .char ∨ zRt 128 = some .byte) := by decide +kernel
theorem k_183_110 : zD 183 110 = some (.aload_n 0, 1, none) := by decide +kernel
theorem k_183_111 : zD 183 111 = some (.iload 6, 2, none) := by decide +kernel
theorem k_183_113 : zD 183 113 = some (.iload_n 1, 1, none) := by decide +kernel
theorem k_183_114 : zD 183 114 = some (.invokevirtual 125, 3, none) ∧ zCk (zOn 183) 125 = some (0, 128) ∧ zNp 128 = 2 ∧ zML 128 = 5 ∧ zCo[8]? = some (zOn 128) ∧ (zRt 128 = some .int ∨ zRt 128 = some .boolean ∨ zRt 128 = some .char ∨ zRt 128 = some .byte) := by decide +kernel
theorem k_183_117 : zD 183 117 = some (.if_icmp .eq (7), 3, none) ∧ zTg 117 (7) = some 124 := by decide +kernel
theorem k_183_124 : zD 183 124 = some (.iconst (0), 1, none) := by decide +kernel
theorem kd_183_5 : zD 183 5 = some (.iload 4, 2, some [true, true, true, true, true, false, false, false]) := k_183_5
theorem kd_183_76 : zD 183 76 = some (.iconst (0), 1, some [true, true, true, false, true, true, true, false]) := k_183_76
theorem kd_183_77 : zD 183 77 = some (.istore 7, 2, some [true, true, true, false, true, true, true, false]) := k_183_77
theorem kd_183_120 : zD 183 120 = some (.iconst (1), 1, some [true, true, true, false, true, false, false, false]) := k_183_120
theorem kd_183_125 : zD 183 125 = some (.istore_n 3, 1, some [true, true, true, false, true, false, false, false]) := k_183_125
theorem kd_183_132 : zD 183 132 = some (.iload_n 3, 1, some [false, false, false, true, false, false, false, false]) := k_183_132
theorem ml_184 : zML 184 = 4 := by decide +kernel
theorem rt_184 : zRt 184 = some .int := by decide +kernel
theorem k_184_0 : zD 184 0 = some (.aload_n 0, 1, none) := by decide +kernel
theorem k_184_1 : zD 184 1 = some (.iload_n 2, 1, none) := by decide +kernel
theorem k_184_2 : zD 184 2 = some (.iload_n 3, 1, none) := by decide +kernel
theorem k_184_3 : zD 184 3 = some (.invokevirtual 243, 3, none) ∧ zCk (zOn 184) 243 = some (0, 157) ∧ zNp 157 = 2 ∧ zML 157 = 3 ∧ zCo[8]? = some (zOn 157) ∧ (zRt 157 = some .int ∨ zRt 157 = some .boolean ∨ zRt 157 = some .char ∨ zRt 157 = some .byte) := by decide +kernel
theorem k_184_6 : zD 184 6 = some (.ifCond .eq (17), 3, none) ∧ zTg 6 (17) = some 23 := by decide +kernel
theorem k_184_23 : zD 184 23 = some (.ldc 229, 2, some [false, false, false, false]) ∧ zKc (zOn 184) 229 = some (.inl (-1000000001)) := by decide +kernel
theorem k_184_25 : zD 184 25 = some (.ireturn, 1, none) := by decide +kernel
theorem k_184_9 : zD 184 9 = some (.aload_n 0, 1, none) := by decide +kernel
theorem k_184_10 : zD 184 10 = some (.iload_n 1, 1, none) := by decide +kernel
theorem k_184_11 : zD 184 11 = some (.iload_n 2, 1, none) := by decide +kernel
theorem k_184_12 : zD 184 12 = some (.invokevirtual 243, 3, none) ∧ zCk (zOn 184) 243 = some (0, 157) ∧ zNp 157 = 2 ∧ zML 157 = 3 ∧ zCo[8]? = some (zOn 157) ∧ (zRt 157 = some .int ∨ zRt 157 = some .boolean ∨ zRt 157 = some .char ∨ zRt 157 = some .byte) := by decide +kernel
theorem k_184_15 : zD 184 15 = some (.ifCond .eq (8), 3, none) ∧ zTg 15 (8) = some 23 := by decide +kernel
theorem k_184_18 : zD 184 18 = some (.iload_n 1, 1, none) := by decide +kernel
theorem k_184_19 : zD 184 19 = some (.iload_n 3, 1, none) := by decide +kernel
theorem k_184_20 : zD 184 20 = some (.if_icmp .ne (6), 3, none) ∧ zTg 20 (6) = some 26 := by decide +kernel
theorem k_184_26 : zD 184 26 = some (.aload_n 0, 1, none) := by decide +kernel
theorem k_184_27 : zD 184 27 = some (.iload_n 1, 1, none) := by decide +kernel
theorem k_184_28 : zD 184 28 = some (.iload_n 2, 1, none) := by decide +kernel
theorem k_184_29 : zD 184 29 = some (.invokevirtual 257, 3, none) ∧ zCk (zOn 184) 257 = some (0, 160) ∧ zNp 160 = 2 ∧ zML 160 = 3 ∧ zCo[8]? = some (zOn 160) ∧ (zRt 160 = some .int ∨ zRt 160 = some .boolean ∨ zRt 160 = some .char ∨ zRt 160 = some .byte) := by decide +kernel
theorem k_184_32 : zD 184 32 = some (.aload_n 0, 1, none) := by decide +kernel
theorem k_184_33 : zD 184 33 = some (.iload_n 1, 1, none) := by decide +kernel
theorem k_184_34 : zD 184 34 = some (.iload_n 3, 1, none) := by decide +kernel
theorem k_184_35 : zD 184 35 = some (.invokevirtual 257, 3, none) ∧ zCk (zOn 184) 257 = some (0, 160) ∧ zNp 160 = 2 ∧ zML 160 = 3 ∧ zCo[8]? = some (zOn 160) ∧ (zRt 160 = some .int ∨ zRt 160 = some .boolean ∨ zRt 160 = some .char ∨ zRt 160 = some .byte) := by decide +kernel
theorem k_184_38 : zD 184 38 = some (.iand, 1, none) := by decide +kernel
theorem k_184_39 : zD 184 39 = some (.ireturn, 1, none) := by decide +kernel
theorem kd_184_23 : zD 184 23 = some (.ldc 229, 2, some [false, false, false, false]) := k_184_23.1
theorem ml_185 : zML 185 = 8 := by decide +kernel
theorem rt_185 : zRt 185 = some .int := by decide +kernel
theorem k_185_0 : zD 185 0 = some (.aload_n 0, 1, none) := by decide +kernel
theorem k_185_1 : zD 185 1 = some (.iload_n 1, 1, none) := by decide +kernel
theorem k_185_2 : zD 185 2 = some (.invokevirtual 113, 3, none) ∧ zCk (zOn 185) 113 = some (0, 151) ∧ zNp 151 = 1 ∧ zML 151 = 2 ∧ zCo[8]? = some (zOn 151) ∧ (zRt 151 = some .int ∨ zRt 151 = some .boolean ∨ zRt 151 = some .char ∨ zRt 151 = some .byte) := by decide +kernel
theorem k_185_5 : zD 185 5 = some (.ifCond .ne (6), 3, none) ∧ zTg 5 (6) = some 11 := by decide +kernel
theorem k_185_8 : zD 185 8 = some (.ldc 229, 2, none) ∧ zKc (zOn 185) 229 = some (.inl (-1000000001)) := by decide +kernel
theorem k_185_10 : zD 185 10 = some (.ireturn, 1, none) := by decide +kernel
theorem k_185_11 : zD 185 11 = some (.aload_n 0, 1, none) := by decide +kernel
theorem k_185_12 : zD 185 12 = some (.aload_n 0, 1, none) := by decide +kernel
theorem k_185_13 : zD 185 13 = some (.getfield 29, 3, none) ∧ zFl (zOn 185) 29 = some (8, 9) ∧ zFc 8 9 = some 3 := by decide +kernel
theorem k_185_16 : zD 185 16 = some (.iload_n 1, 1, none) := by decide +kernel
theorem k_185_17 : zD 185 17 = some (.iaload, 1, none) := by decide +kernel
theorem k_185_18 : zD 185 18 = some (.invokevirtual 129, 3, none) ∧ zCk (zOn 185) 129 = some (0, 130) ∧ zNp 130 = 1 ∧ zML 130 = 5 ∧ zCo[8]? = some (zOn 130) ∧ zRt 130 = some .long := by decide +kernel
theorem k_185_21 : zD 185 21 = some (.lstore_n 3, 1, none) := by decide +kernel
theorem k_185_22 : zD 185 22 = some (.lconst 0, 1, none) := by decide +kernel
theorem k_185_23 : zD 185 23 = some (.lstore 5, 2, none) := by decide +kernel
theorem k_185_25 : zD 185 25 = some (.iconst (0), 1, none) := by decide +kernel
theorem k_185_26 : zD 185 26 = some (.istore 7, 2, none) := by decide +kernel
theorem k_185_28 : zD 185 28 = some (.iload 7, 2, some [true, true, true, true, false, true, false, true]) := by decide +kernel
theorem k_185_30 : zD 185 30 = some (.iconst (1), 1, none) := by decide +kernel
theorem k_185_31 : zD 185 31 = some (.aload_n 0, 1, none) := by decide +kernel
theorem k_185_32 : zD 185 32 = some (.getfield 103, 3, none) ∧ zFl (zOn 185) 103 = some (8, 0) ∧ zFc 8 0 = some 0 := by decide +kernel
theorem k_185_35 : zD 185 35 = some (.ishl, 1, none) := by decide +kernel
theorem k_185_36 : zD 185 36 = some (.if_icmp .ge (43), 3, none) ∧ zTg 36 (43) = some 79 := by decide +kernel
theorem k_185_39 : zD 185 39 = some (.lload 5, 2, none) := by decide +kernel
theorem k_185_41 : zD 185 41 = some (.lload_n 3, 1, none) := by decide +kernel
theorem k_185_42 : zD 185 42 = some (.iload 7, 2, none) := by decide +kernel
theorem k_185_44 : zD 185 44 = some (.lshr, 1, none) := by decide +kernel
theorem k_185_45 : zD 185 45 = some (.lconst 1, 1, none) := by decide +kernel
theorem k_185_46 : zD 185 46 = some (.land, 1, none) := by decide +kernel
theorem k_185_47 : zD 185 47 = some (.lconst 1, 1, none) := by decide +kernel
theorem k_185_48 : zD 185 48 = some (.lcmp, 1, none) := by decide +kernel
theorem k_185_49 : zD 185 49 = some (.ifCond .ne (20), 3, none) ∧ zTg 49 (20) = some 69 := by decide +kernel
theorem k_185_52 : zD 185 52 = some (.aload_n 0, 1, none) := by decide +kernel
theorem k_185_53 : zD 185 53 = some (.iload_n 1, 1, none) := by decide +kernel
theorem k_185_54 : zD 185 54 = some (.iload 7, 2, none) := by decide +kernel
theorem k_185_56 : zD 185 56 = some (.invokevirtual 305, 3, none) ∧ zCk (zOn 185) 305 = some (0, 186) ∧ zNp 186 = 2 ∧ zML 186 = 7 ∧ zCo[8]? = some (zOn 186) ∧ (zRt 186 = some .int ∨ zRt 186 = some .boolean ∨ zRt 186 = some .char ∨ zRt 186 = some .byte) := by decide +kernel
theorem k_185_59 : zD 185 59 = some (.ifCond .eq (10), 3, none) ∧ zTg 59 (10) = some 69 := by decide +kernel
theorem k_185_69 : zD 185 69 = some (.lconst 0, 1, some [true, true, true, true, false, false, false, true]) := by decide +kernel
theorem k_185_70 : zD 185 70 = some (.lor, 1, some [true, true, true, true, false, false, false, true]) := by decide +kernel
theorem k_185_71 : zD 185 71 = some (.lstore 5, 2, none) := by decide +kernel
theorem k_185_73 : zD 185 73 = some (.iinc 7 (1), 3, none) := by decide +kernel
theorem k_185_76 : zD 185 76 = some (.goto (-48), 3, none) ∧ zTg 76 (-48) = some 28 := by decide +kernel
theorem k_185_62 : zD 185 62 = some (.lconst 1, 1, none) := by decide +kernel
theorem k_185_63 : zD 185 63 = some (.iload 7, 2, none) := by decide +kernel
theorem k_185_65 : zD 185 65 = some (.lshl, 1, none) := by decide +kernel
theorem k_185_66 : zD 185 66 = some (.goto (4), 3, none) ∧ zTg 66 (4) = some 70 := by decide +kernel
theorem k_185_79 : zD 185 79 = some (.aload_n 0, 1, none) := by decide +kernel
theorem k_185_80 : zD 185 80 = some (.lload 5, 2, none) := by decide +kernel
theorem k_185_82 : zD 185 82 = some (.iload_n 2, 1, none) := by decide +kernel
theorem k_185_83 : zD 185 83 = some (.invokevirtual 246, 3, none) ∧ zCk (zOn 185) 246 = some (0, 158) ∧ zNp 158 = 2 ∧ zML 158 = 6 ∧ zCo[8]? = some (zOn 158) ∧ (zRt 158 = some .int ∨ zRt 158 = some .boolean ∨ zRt 158 = some .char ∨ zRt 158 = some .byte) := by decide +kernel
theorem k_185_86 : zD 185 86 = some (.ireturn, 1, none) := by decide +kernel
theorem kd_185_28 : zD 185 28 = some (.iload 7, 2, some [true, true, true, true, false, true, false, true]) := k_185_28
theorem kd_185_69 : zD 185 69 = some (.lconst 0, 1, some [true, true, true, true, false, false, false, true]) := k_185_69
theorem kd_185_70 : zD 185 70 = some (.lor, 1, some [true, true, true, true, false, false, false, true]) := k_185_70
theorem ml_186 : zML 186 = 7 := by decide +kernel
theorem rt_186 : zRt 186 = some .boolean := by decide +kernel
theorem k_186_0 : zD 186 0 = some (.iload_n 2, 1, none) := by decide +kernel
theorem k_186_1 : zD 186 1 = some (.istore_n 3, 1, none) := by decide +kernel
theorem k_186_2 : zD 186 2 = some (.iconst (0), 1, none) := by decide +kernel
theorem k_186_3 : zD 186 3 = some (.istore 4, 2, none) := by decide +kernel
theorem k_186_5 : zD 186 5 = some (.iload 4, 2, some [true, true, false, true, true, false, false]) := by decide +kernel
theorem k_186_7 : zD 186 7 = some (.aload_n 0, 1, none) := by decide +kernel
theorem k_186_8 : zD 186 8 = some (.getfield 133, 3, none) ∧ zFl (zOn 186) 133 = some (8, 12) ∧ zFc 8 12 = some 0 := by decide +kernel
theorem k_186_11 : zD 186 11 = some (.if_icmp .ge (143), 3, none) ∧ zTg 11 (143) = some 154 := by decide +kernel
theorem k_186_14 : zD 186 14 = some (.aload_n 0, 1, none) := by decide +kernel
theorem k_186_15 : zD 186 15 = some (.getfield 39, 3, none) ∧ zFl (zOn 186) 39 = some (8, 13) ∧ zFc 8 13 = some 3 := by decide +kernel
theorem k_186_18 : zD 186 18 = some (.iconst (5), 1, none) := by decide +kernel
theorem k_186_19 : zD 186 19 = some (.iload 4, 2, none) := by decide +kernel
theorem k_186_21 : zD 186 21 = some (.imul, 1, none) := by decide +kernel
theorem k_186_22 : zD 186 22 = some (.iconst (2), 1, none) := by decide +kernel
theorem k_186_23 : zD 186 23 = some (.iadd, 1, none) := by decide +kernel
theorem k_186_24 : zD 186 24 = some (.iaload, 1, none) := by decide +kernel
theorem k_186_25 : zD 186 25 = some (.istore 5, 2, none) := by decide +kernel
theorem k_186_27 : zD 186 27 = some (.aload_n 0, 1, none) := by decide +kernel
theorem k_186_28 : zD 186 28 = some (.getfield 39, 3, none) ∧ zFl (zOn 186) 39 = some (8, 13) ∧ zFc 8 13 = some 3 := by decide +kernel
theorem k_186_31 : zD 186 31 = some (.iconst (5), 1, none) := by decide +kernel
theorem k_186_32 : zD 186 32 = some (.iload 4, 2, none) := by decide +kernel
theorem k_186_34 : zD 186 34 = some (.imul, 1, none) := by decide +kernel
theorem k_186_35 : zD 186 35 = some (.iaload, 1, none) := by decide +kernel
theorem k_186_36 : zD 186 36 = some (.iload_n 1, 1, none) := by decide +kernel
theorem k_186_37 : zD 186 37 = some (.if_icmp .ne (14), 3, none) ∧ zTg 37 (14) = some 51 := by decide +kernel
theorem k_186_40 : zD 186 40 = some (.iload_n 3, 1, none) := by decide +kernel
theorem k_186_41 : zD 186 41 = some (.iload 5, 2, none) := by decide +kernel
theorem k_186_43 : zD 186 43 = some (.invokestatic 121, 3, none) ∧ zAt.lookup (zOn 186, 121) = none ∧ zCk (zOn 186) 121 = some (1, 129) ∧ (1 = 1 ∨ 1 = 3) ∧ zNp 129 = 2 ∧ zML 129 = 2 ∧ (zRt 129 = some .int ∨ zRt 129 = some .boolean ∨ zRt 129 = some .char ∨ zRt 129 = some .byte) := by decide +kernel
theorem k_186_46 : zD 186 46 = some (.ifCond .ne (5), 3, none) ∧ zTg 46 (5) = some 51 := by decide +kernel
theorem k_186_49 : zD 186 49 = some (.iconst (0), 1, none) := by decide +kernel
theorem k_186_50 : zD 186 50 = some (.ireturn, 1, none) := by decide +kernel
theorem k_186_154 : zD 186 154 = some (.iconst (1), 1, none) := by decide +kernel
theorem k_186_155 : zD 186 155 = some (.ireturn, 1, none) := by decide +kernel
theorem k_186_51 : zD 186 51 = some (.aload_n 0, 1, some [true, true, false, true, true, true, false]) := by decide +kernel
theorem k_186_52 : zD 186 52 = some (.getfield 39, 3, none) ∧ zFl (zOn 186) 39 = some (8, 13) ∧ zFc 8 13 = some 3 := by decide +kernel
theorem k_186_55 : zD 186 55 = some (.iconst (5), 1, none) := by decide +kernel
theorem k_186_56 : zD 186 56 = some (.iload 4, 2, none) := by decide +kernel
theorem k_186_58 : zD 186 58 = some (.imul, 1, none) := by decide +kernel
theorem k_186_59 : zD 186 59 = some (.iconst (1), 1, none) := by decide +kernel
theorem k_186_60 : zD 186 60 = some (.iadd, 1, none) := by decide +kernel
theorem k_186_61 : zD 186 61 = some (.iaload, 1, none) := by decide +kernel
theorem k_186_62 : zD 186 62 = some (.iload_n 1, 1, none) := by decide +kernel
theorem k_186_63 : zD 186 63 = some (.if_icmp .ne (7), 3, none) ∧ zTg 63 (7) = some 70 := by decide +kernel
theorem k_186_66 : zD 186 66 = some (.iconst (1), 1, none) := by decide +kernel
theorem k_186_67 : zD 186 67 = some (.goto (4), 3, none) ∧ zTg 67 (4) = some 71 := by decide +kernel
theorem k_186_70 : zD 186 70 = some (.iconst (0), 1, none) := by decide +kernel
theorem k_186_71 : zD 186 71 = some (.istore 6, 2, some [true, true, false, true, true, true, false]) := by decide +kernel
theorem k_186_73 : zD 186 73 = some (.iload 6, 2, none) := by decide +kernel
theorem k_186_75 : zD 186 75 = some (.ifCond .eq (34), 3, none) ∧ zTg 75 (34) = some 109 := by decide +kernel
theorem k_186_78 : zD 186 78 = some (.iload_n 3, 1, none) := by decide +kernel
theorem k_186_79 : zD 186 79 = some (.iload 5, 2, none) := by decide +kernel
theorem k_186_81 : zD 186 81 = some (.invokestatic 121, 3, none) ∧ zAt.lookup (zOn 186, 121) = none ∧ zCk (zOn 186) 121 = some (1, 129) ∧ (1 = 1 ∨ 1 = 3) ∧ zNp 129 = 2 ∧ zML 129 = 2 ∧ (zRt 129 = some .int ∨ zRt 129 = some .boolean ∨ zRt 129 = some .char ∨ zRt 129 = some .byte) := by decide +kernel
theorem k_186_84 : zD 186 84 = some (.aload_n 0, 1, none) := by decide +kernel
theorem k_186_85 : zD 186 85 = some (.getfield 39, 3, none) ∧ zFl (zOn 186) 39 = some (8, 13) ∧ zFc 8 13 = some 3 := by decide +kernel
theorem k_186_88 : zD 186 88 = some (.iconst (5), 1, none) := by decide +kernel
theorem k_186_89 : zD 186 89 = some (.iload 4, 2, none) := by decide +kernel
theorem k_186_91 : zD 186 91 = some (.imul, 1, none) := by decide +kernel
theorem k_186_92 : zD 186 92 = some (.iconst (4), 1, none) := by decide +kernel
theorem k_186_93 : zD 186 93 = some (.iadd, 1, none) := by decide +kernel
theorem k_186_94 : zD 186 94 = some (.iaload, 1, none) := by decide +kernel
theorem k_186_95 : zD 186 95 = some (.iconst (1), 1, none) := by decide +kernel
theorem k_186_96 : zD 186 96 = some (.if_icmp .ne (7), 3, none) ∧ zTg 96 (7) = some 103 := by decide +kernel
theorem k_186_99 : zD 186 99 = some (.iconst (1), 1, none) := by decide +kernel
theorem k_186_100 : zD 186 100 = some (.goto (4), 3, none) ∧ zTg 100 (4) = some 104 := by decide +kernel
theorem k_186_103 : zD 186 103 = some (.iconst (0), 1, none) := by decide +kernel
theorem k_186_104 : zD 186 104 = some (.if_icmp .eq (5), 3, some [true, true, false, true, true, true, true]) ∧ zTg 104 (5) = some 109 := by decide +kernel
theorem k_186_107 : zD 186 107 = some (.iconst (0), 1, none) := by decide +kernel
theorem k_186_108 : zD 186 108 = some (.ireturn, 1, none) := by decide +kernel
theorem k_186_109 : zD 186 109 = some (.iload 6, 2, some [true, true, false, true, true, true, true]) := by decide +kernel
theorem k_186_111 : zD 186 111 = some (.ifCond .ne (21), 3, none) ∧ zTg 111 (21) = some 132 := by decide +kernel
theorem k_186_114 : zD 186 114 = some (.aload_n 0, 1, none) := by decide +kernel
theorem k_186_115 : zD 186 115 = some (.getfield 39, 3, none) ∧ zFl (zOn 186) 39 = some (8, 13) ∧ zFc 8 13 = some 3 := by decide +kernel
theorem k_186_118 : zD 186 118 = some (.iconst (5), 1, none) := by decide +kernel
theorem k_186_119 : zD 186 119 = some (.iload 4, 2, none) := by decide +kernel
theorem k_186_121 : zD 186 121 = some (.imul, 1, none) := by decide +kernel
theorem k_186_122 : zD 186 122 = some (.iconst (3), 1, none) := by decide +kernel
theorem k_186_123 : zD 186 123 = some (.iadd, 1, none) := by decide +kernel
theorem k_186_124 : zD 186 124 = some (.iaload, 1, none) := by decide +kernel
theorem k_186_125 : zD 186 125 = some (.iload_n 1, 1, none) := by decide +kernel
theorem k_186_126 : zD 186 126 = some (.invokestatic 121, 3, none) ∧ zAt.lookup (zOn 186, 121) = none ∧ zCk (zOn 186) 121 = some (1, 129) ∧ (1 = 1 ∨ 1 = 3) ∧ zNp 129 = 2 ∧ zML 129 = 2 ∧ (zRt 129 = some .int ∨ zRt 129 = some .boolean ∨ zRt 129 = some .char ∨ zRt 129 = some .byte) := by decide +kernel
theorem k_186_129 : zD 186 129 = some (.ifCond .eq (17), 3, none) ∧ zTg 129 (17) = some 146 := by decide +kernel
theorem k_186_146 : zD 186 146 = some (.iload_n 3, 1, none) := by decide +kernel
theorem k_186_147 : zD 186 147 = some (.istore_n 3, 1, some [true, true, false, false, true, false, false]) := by decide +kernel
theorem k_186_148 : zD 186 148 = some (.iinc 4 (1), 3, none) := by decide +kernel
theorem k_186_151 : zD 186 151 = some (.goto (-146), 3, none) ∧ zTg 151 (-146) = some 5 := by decide +kernel
theorem k_186_132 : zD 186 132 = some (.aload_n 0, 1, some [true, true, false, true, true, true, false]) := by decide +kernel
theorem k_186_133 : zD 186 133 = some (.getfield 23, 3, none) ∧ zFl (zOn 186) 23 = some (8, 6) ∧ zFc 8 6 = some 3 := by decide +kernel
theorem k_186_136 : zD 186 136 = some (.iload_n 3, 1, none) := by decide +kernel
theorem k_186_137 : zD 186 137 = some (.iconst (1), 1, none) := by decide +kernel
theorem k_186_138 : zD 186 138 = some (.iload 5, 2, none) := by decide +kernel
theorem k_186_140 : zD 186 140 = some (.ishl, 1, none) := by decide +kernel
theorem k_186_141 : zD 186 141 = some (.ior, 1, none) := by decide +kernel
theorem k_186_142 : zD 186 142 = some (.iaload, 1, none) := by decide +kernel
theorem k_186_143 : zD 186 143 = some (.goto (4), 3, none) ∧ zTg 143 (4) = some 147 := by decide +kernel
theorem kd_186_5 : zD 186 5 = some (.iload 4, 2, some [true, true, false, true, true, false, false]) := k_186_5
theorem kd_186_51 : zD 186 51 = some (.aload_n 0, 1, some [true, true, false, true, true, true, false]) := k_186_51
theorem kd_186_71 : zD 186 71 = some (.istore 6, 2, some [true, true, false, true, true, true, false]) := k_186_71
theorem kd_186_104 : zD 186 104 = some (.if_icmp .eq (5), 3, some [true, true, false, true, true, true, true]) := k_186_104.1
theorem kd_186_109 : zD 186 109 = some (.iload 6, 2, some [true, true, false, true, true, true, true]) := k_186_109
theorem kd_186_132 : zD 186 132 = some (.aload_n 0, 1, some [true, true, false, true, true, true, false]) := k_186_132
theorem kd_186_147 : zD 186 147 = some (.istore_n 3, 1, some [true, true, false, false, true, false, false]) := k_186_147
theorem ml_187 : zML 187 = 6 := by decide +kernel
theorem rt_187 : zRt 187 = some .int := by decide +kernel
theorem k_187_0 : zD 187 0 = some (.iconst (-1), 1, none) := by decide +kernel
theorem k_187_1 : zD 187 1 = some (.istore_n 1, 1, none) := by decide +kernel
theorem k_187_2 : zD 187 2 = some (.iconst (0), 1, none) := by decide +kernel
theorem k_187_3 : zD 187 3 = some (.istore_n 2, 1, none) := by decide +kernel
theorem k_187_4 : zD 187 4 = some (.iconst (0), 1, none) := by decide +kernel
theorem k_187_5 : zD 187 5 = some (.istore_n 3, 1, none) := by decide +kernel
theorem k_187_6 : zD 187 6 = some (.iload_n 3, 1, some [true, true, true, true, false, false]) := by decide +kernel
theorem k_187_7 : zD 187 7 = some (.aload_n 0, 1, none) := by decide +kernel
theorem k_187_8 : zD 187 8 = some (.getfield 110, 3, none) ∧ zFl (zOn 187) 110 = some (8, 3) ∧ zFc 8 3 = some 0 := by decide +kernel
theorem k_187_11 : zD 187 11 = some (.if_icmp .ge (108), 3, none) ∧ zTg 11 (108) = some 119 := by decide +kernel
theorem k_187_14 : zD 187 14 = some (.iconst (0), 1, none) := by decide +kernel
theorem k_187_15 : zD 187 15 = some (.istore 4, 2, none) := by decide +kernel
theorem k_187_17 : zD 187 17 = some (.iconst (0), 1, none) := by decide +kernel
theorem k_187_18 : zD 187 18 = some (.istore 5, 2, none) := by decide +kernel
theorem k_187_119 : zD 187 119 = some (.iload_n 1, 1, none) := by decide +kernel
theorem k_187_120 : zD 187 120 = some (.ireturn, 1, none) := by decide +kernel
theorem k_187_20 : zD 187 20 = some (.iload 5, 2, some [true, true, true, true, true, true]) := by decide +kernel
theorem k_187_22 : zD 187 22 = some (.aload_n 0, 1, none) := by decide +kernel
theorem k_187_23 : zD 187 23 = some (.getfield 110, 3, none) ∧ zFl (zOn 187) 110 = some (8, 3) ∧ zFc 8 3 = some 0 := by decide +kernel
theorem k_187_26 : zD 187 26 = some (.if_icmp .ge (47), 3, none) ∧ zTg 26 (47) = some 73 := by decide +kernel
theorem k_187_29 : zD 187 29 = some (.iload 4, 2, none) := by decide +kernel
theorem k_187_31 : zD 187 31 = some (.iload_n 3, 1, none) := by decide +kernel
theorem k_187_32 : zD 187 32 = some (.iload 5, 2, none) := by decide +kernel
theorem k_187_34 : zD 187 34 = some (.if_icmp .ne (7), 3, none) ∧ zTg 34 (7) = some 41 := by decide +kernel
theorem k_187_37 : zD 187 37 = some (.iconst (0), 1, none) := by decide +kernel
theorem k_187_38 : zD 187 38 = some (.goto (26), 3, none) ∧ zTg 38 (26) = some 64 := by decide +kernel
theorem k_187_64 : zD 187 64 = some (.iadd, 1, some [true, true, true, true, false, true]) := by decide +kernel
theorem k_187_65 : zD 187 65 = some (.istore 4, 2, none) := by decide +kernel
theorem k_187_67 : zD 187 67 = some (.iinc 5 (1), 3, none) := by decide +kernel
theorem k_187_70 : zD 187 70 = some (.goto (-50), 3, none) ∧ zTg 70 (-50) = some 20 := by decide +kernel
theorem k_187_41 : zD 187 41 = some (.aload_n 0, 1, none) := by decide +kernel
theorem k_187_42 : zD 187 42 = some (.iload_n 3, 1, none) := by decide +kernel
theorem k_187_43 : zD 187 43 = some (.iload 5, 2, none) := by decide +kernel
theorem k_187_45 : zD 187 45 = some (.invokevirtual 257, 3, none) ∧ zCk (zOn 187) 257 = some (0, 160) ∧ zNp 160 = 2 ∧ zML 160 = 3 ∧ zCo[8]? = some (zOn 160) ∧ (zRt 160 = some .int ∨ zRt 160 = some .boolean ∨ zRt 160 = some .char ∨ zRt 160 = some .byte) := by decide +kernel
theorem k_187_48 : zD 187 48 = some (.i2l, 1, none) := by decide +kernel
theorem k_187_49 : zD 187 49 = some (.invokestatic 222, 3, none) ∧ zAt.lookup (zOn 187, 222) = none ∧ zCk (zOn 187) 222 = some (1, 146) ∧ (1 = 1 ∨ 1 = 3) ∧ zNp 146 = 1 ∧ zML 146 = 4 ∧ (zRt 146 = some .int ∨ zRt 146 = some .boolean ∨ zRt 146 = some .char ∨ zRt 146 = some .byte) := by decide +kernel
theorem k_187_52 : zD 187 52 = some (.aload_n 0, 1, none) := by decide +kernel
theorem k_187_53 : zD 187 53 = some (.iload_n 3, 1, none) := by decide +kernel
theorem k_187_54 : zD 187 54 = some (.iload 5, 2, none) := by decide +kernel
theorem k_187_56 : zD 187 56 = some (.invokevirtual 260, 3, none) ∧ zCk (zOn 187) 260 = some (0, 163) ∧ zNp 163 = 2 ∧ zML 163 = 3 ∧ zCo[8]? = some (zOn 163) ∧ (zRt 163 = some .int ∨ zRt 163 = some .boolean ∨ zRt 163 = some .char ∨ zRt 163 = some .byte) := by decide +kernel
theorem k_187_59 : zD 187 59 = some (.i2l, 1, none) := by decide +kernel
theorem k_187_60 : zD 187 60 = some (.invokestatic 222, 3, none) ∧ zAt.lookup (zOn 187, 222) = none ∧ zCk (zOn 187) 222 = some (1, 146) ∧ (1 = 1 ∨ 1 = 3) ∧ zNp 146 = 1 ∧ zML 146 = 4 ∧ (zRt 146 = some .int ∨ zRt 146 = some .boolean ∨ zRt 146 = some .char ∨ zRt 146 = some .byte) := by decide +kernel
theorem k_187_63 : zD 187 63 = some (.iadd, 1, none) := by decide +kernel
theorem k_187_73 : zD 187 73 = some (.iload_n 1, 1, none) := by decide +kernel
theorem k_187_74 : zD 187 74 = some (.ifCond .lt (9), 3, none) ∧ zTg 74 (9) = some 83 := by decide +kernel
theorem k_187_77 : zD 187 77 = some (.iload 4, 2, none) := by decide +kernel
theorem k_187_79 : zD 187 79 = some (.iload_n 2, 1, none) := by decide +kernel
theorem k_187_80 : zD 187 80 = some (.if_icmp .ge (7), 3, none) ∧ zTg 80 (7) = some 87 := by decide +kernel
theorem k_187_87 : zD 187 87 = some (.iconst (0), 1, none) := by decide +kernel
theorem k_187_83 : zD 187 83 = some (.iconst (1), 1, some [true, true, true, true, true, false]) := by decide +kernel
theorem k_187_84 : zD 187 84 = some (.goto (4), 3, none) ∧ zTg 84 (4) = some 88 := by decide +kernel
theorem k_187_88 : zD 187 88 = some (.istore 5, 2, some [true, true, true, true, true, false]) := by decide +kernel
theorem k_187_90 : zD 187 90 = some (.iload 5, 2, none) := by decide +kernel
theorem k_187_92 : zD 187 92 = some (.ifCond .eq (7), 3, none) ∧ zTg 92 (7) = some 99 := by decide +kernel
theorem k_187_99 : zD 187 99 = some (.iload_n 1, 1, none) := by decide +kernel
theorem k_187_95 : zD 187 95 = some (.iload_n 3, 1, none) := by decide +kernel
theorem k_187_96 : zD 187 96 = some (.goto (4), 3, none) ∧ zTg 96 (4) = some 100 := by decide +kernel
theorem k_187_100 : zD 187 100 = some (.istore_n 1, 1, some [true, false, true, true, true, true]) := by decide +kernel
theorem k_187_101 : zD 187 101 = some (.iload 5, 2, none) := by decide +kernel
theorem k_187_103 : zD 187 103 = some (.ifCond .eq (8), 3, none) ∧ zTg 103 (8) = some 111 := by decide +kernel
theorem k_187_111 : zD 187 111 = some (.iload_n 2, 1, none) := by decide +kernel
theorem k_187_112 : zD 187 112 = some (.istore_n 2, 1, some [true, true, false, true, false, false]) := by decide +kernel
theorem k_187_113 : zD 187 113 = some (.iinc 3 (1), 3, none) := by decide +kernel
theorem k_187_116 : zD 187 116 = some (.goto (-110), 3, none) ∧ zTg 116 (-110) = some 6 := by decide +kernel
theorem k_187_106 : zD 187 106 = some (.iload 4, 2, none) := by decide +kernel
theorem k_187_108 : zD 187 108 = some (.goto (4), 3, none) ∧ zTg 108 (4) = some 112 := by decide +kernel
theorem kd_187_6 : zD 187 6 = some (.iload_n 3, 1, some [true, true, true, true, false, false]) := k_187_6
theorem kd_187_20 : zD 187 20 = some (.iload 5, 2, some [true, true, true, true, true, true]) := k_187_20
theorem kd_187_64 : zD 187 64 = some (.iadd, 1, some [true, true, true, true, false, true]) := k_187_64
theorem kd_187_83 : zD 187 83 = some (.iconst (1), 1, some [true, true, true, true, true, false]) := k_187_83
theorem kd_187_88 : zD 187 88 = some (.istore 5, 2, some [true, true, true, true, true, false]) := k_187_88
theorem kd_187_100 : zD 187 100 = some (.istore_n 1, 1, some [true, false, true, true, true, true]) := k_187_100
theorem kd_187_112 : zD 187 112 = some (.istore_n 2, 1, some [true, true, false, true, false, false]) := k_187_112
theorem ml_188 : zML 188 = 3 := by decide +kernel
theorem rt_188 : zRt 188 = some .int := by decide +kernel
theorem k_188_0 : zD 188 0 = some (.iload_n 2, 1, none) := by decide +kernel
theorem k_188_1 : zD 188 1 = some (.i2l, 1, none) := by decide +kernel
theorem k_188_2 : zD 188 2 = some (.lconst 0, 1, none) := by decide +kernel
theorem k_188_3 : zD 188 3 = some (.ldc2_w 308, 3, none) ∧ zKc (zOn 188) 308 = some (.inr 4) := by decide +kernel
theorem k_188_6 : zD 188 6 = some (.invokestatic 106, 3, none) ∧ zAt.lookup (zOn 188, 106) = none ∧ zCk (zOn 188) 106 = some (1, 132) ∧ (1 = 1 ∨ 1 = 3) ∧ zNp 132 = 3 ∧ zML 132 = 6 ∧ (zRt 132 = some .int ∨ zRt 132 = some .boolean ∨ zRt 132 = some .char ∨ zRt 132 = some .byte) := by decide +kernel
theorem k_188_9 : zD 188 9 = some (.ifCond .ne (6), 3, none) ∧ zTg 9 (6) = some 15 := by decide +kernel
theorem k_188_12 : zD 188 12 = some (.ldc 138, 2, none) ∧ zKc (zOn 188) 138 = some (.inl (-1000000002)) := by decide +kernel
theorem k_188_14 : zD 188 14 = some (.ireturn, 1, none) := by decide +kernel
theorem k_188_15 : zD 188 15 = some (.iload_n 1, 1, none) := by decide +kernel
theorem k_188_16 : zD 188 16 = some (.i2l, 1, none) := by decide +kernel
theorem k_188_17 : zD 188 17 = some (.lconst 0, 1, none) := by decide +kernel
theorem k_188_18 : zD 188 18 = some (.aload_n 0, 1, none) := by decide +kernel
theorem k_188_19 : zD 188 19 = some (.getfield 133, 3, none) ∧ zFl (zOn 188) 133 = some (8, 12) ∧ zFc 8 12 = some 0 := by decide +kernel
theorem k_188_22 : zD 188 22 = some (.iconst (1), 1, none) := by decide +kernel
theorem k_188_23 : zD 188 23 = some (.isub, 1, none) := by decide +kernel
theorem k_188_24 : zD 188 24 = some (.i2l, 1, none) := by decide +kernel
theorem k_188_25 : zD 188 25 = some (.invokestatic 106, 3, none) ∧ zAt.lookup (zOn 188, 106) = none ∧ zCk (zOn 188) 106 = some (1, 132) ∧ (1 = 1 ∨ 1 = 3) ∧ zNp 132 = 3 ∧ zML 132 = 6 ∧ (zRt 132 = some .int ∨ zRt 132 = some .boolean ∨ zRt 132 = some .char ∨ zRt 132 = some .byte) := by decide +kernel
theorem k_188_28 : zD 188 28 = some (.ifCond .eq (16), 3, none) ∧ zTg 28 (16) = some 44 := by decide +kernel
theorem k_188_44 : zD 188 44 = some (.iconst (-1), 1, none) := by decide +kernel
theorem k_188_45 : zD 188 45 = some (.ireturn, 1, some [false, false, false]) := by decide +kernel
theorem k_188_31 : zD 188 31 = some (.aload_n 0, 1, none) := by decide +kernel
theorem k_188_32 : zD 188 32 = some (.getfield 39, 3, none) ∧ zFl (zOn 188) 39 = some (8, 13) ∧ zFc 8 13 = some 3 := by decide +kernel
theorem k_188_35 : zD 188 35 = some (.iconst (5), 1, none) := by decide +kernel
theorem k_188_36 : zD 188 36 = some (.iload_n 1, 1, none) := by decide +kernel
theorem k_188_37 : zD 188 37 = some (.imul, 1, none) := by decide +kernel
theorem k_188_38 : zD 188 38 = some (.iload_n 2, 1, none) := by decide +kernel
theorem k_188_39 : zD 188 39 = some (.iadd, 1, none) := by decide +kernel
theorem k_188_40 : zD 188 40 = some (.iaload, 1, none) := by decide +kernel
theorem k_188_41 : zD 188 41 = some (.goto (4), 3, none) ∧ zTg 41 (4) = some 45 := by decide +kernel
theorem kd_188_45 : zD 188 45 = some (.ireturn, 1, some [false, false, false]) := k_188_45
theorem ml_189 : zML 189 = 4 := by decide +kernel
theorem rt_189 : zRt 189 = some .int := by decide +kernel
theorem k_189_0 : zD 189 0 = some (.aload_n 0, 1, none) := by decide +kernel
theorem k_189_1 : zD 189 1 = some (.iload_n 1, 1, none) := by decide +kernel
theorem k_189_2 : zD 189 2 = some (.iload_n 2, 1, none) := by decide +kernel
theorem k_189_3 : zD 189 3 = some (.invokevirtual 243, 3, none) ∧ zCk (zOn 189) 243 = some (0, 157) ∧ zNp 157 = 2 ∧ zML 157 = 3 ∧ zCo[8]? = some (zOn 157) ∧ (zRt 157 = some .int ∨ zRt 157 = some .boolean ∨ zRt 157 = some .char ∨ zRt 157 = some .byte) := by decide +kernel
theorem k_189_6 : zD 189 6 = some (.ifCond .eq (11), 3, none) ∧ zTg 6 (11) = some 17 := by decide +kernel
theorem k_189_17 : zD 189 17 = some (.ldc 229, 2, some [false, false, false, false]) ∧ zKc (zOn 189) 229 = some (.inl (-1000000001)) := by decide +kernel
theorem k_189_19 : zD 189 19 = some (.ireturn, 1, none) := by decide +kernel
theorem k_189_9 : zD 189 9 = some (.aload_n 0, 1, none) := by decide +kernel
theorem k_189_10 : zD 189 10 = some (.iload_n 3, 1, none) := by decide +kernel
theorem k_189_11 : zD 189 11 = some (.invokevirtual 226, 3, none) ∧ zCk (zOn 189) 226 = some (0, 148) ∧ zNp 148 = 1 ∧ zML 148 = 2 ∧ zCo[8]? = some (zOn 148) ∧ (zRt 148 = some .int ∨ zRt 148 = some .boolean ∨ zRt 148 = some .char ∨ zRt 148 = some .byte) := by decide +kernel
theorem k_189_14 : zD 189 14 = some (.ifCond .ne (6), 3, none) ∧ zTg 14 (6) = some 20 := by decide +kernel
theorem k_189_20 : zD 189 20 = some (.aload_n 0, 1, none) := by decide +kernel
theorem k_189_21 : zD 189 21 = some (.getfield 219, 3, none) ∧ zFl (zOn 189) 219 = some (8, 35) ∧ zFc 8 35 = some 0 := by decide +kernel
theorem k_189_24 : zD 189 24 = some (.bipush (30), 2, none) := by decide +kernel
theorem k_189_26 : zD 189 26 = some (.if_icmp .ne (6), 3, none) ∧ zTg 26 (6) = some 32 := by decide +kernel
theorem k_189_29 : zD 189 29 = some (.ldc 142, 2, none) ∧ zKc (zOn 189) 142 = some (.inl (-1000000004)) := by decide +kernel
theorem k_189_31 : zD 189 31 = some (.ireturn, 1, none) := by decide +kernel
theorem k_189_32 : zD 189 32 = some (.aload_n 0, 1, none) := by decide +kernel
theorem k_189_33 : zD 189 33 = some (.getfield 75, 3, none) ∧ zFl (zOn 189) 75 = some (8, 36) ∧ zFc 8 36 = some 3 := by decide +kernel
theorem k_189_36 : zD 189 36 = some (.aload_n 0, 1, none) := by decide +kernel
theorem k_189_37 : zD 189 37 = some (.getfield 219, 3, none) ∧ zFl (zOn 189) 219 = some (8, 35) ∧ zFc 8 35 = some 0 := by decide +kernel
theorem k_189_40 : zD 189 40 = some (.iload_n 1, 1, none) := by decide +kernel
theorem k_189_41 : zD 189 41 = some (.iastore, 1, none) := by decide +kernel
theorem k_189_42 : zD 189 42 = some (.aload_n 0, 1, none) := by decide +kernel
theorem k_189_43 : zD 189 43 = some (.getfield 78, 3, none) ∧ zFl (zOn 189) 78 = some (8, 37) ∧ zFc 8 37 = some 3 := by decide +kernel
theorem k_189_46 : zD 189 46 = some (.aload_n 0, 1, none) := by decide +kernel
theorem k_189_47 : zD 189 47 = some (.getfield 219, 3, none) ∧ zFl (zOn 189) 219 = some (8, 35) ∧ zFc 8 35 = some 0 := by decide +kernel
theorem k_189_50 : zD 189 50 = some (.iload_n 2, 1, none) := by decide +kernel
theorem k_189_51 : zD 189 51 = some (.iastore, 1, none) := by decide +kernel
theorem k_189_52 : zD 189 52 = some (.aload_n 0, 1, none) := by decide +kernel
theorem k_189_53 : zD 189 53 = some (.getfield 81, 3, none) ∧ zFl (zOn 189) 81 = some (8, 38) ∧ zFc 8 38 = some 3 := by decide +kernel
theorem k_189_56 : zD 189 56 = some (.aload_n 0, 1, none) := by decide +kernel
theorem k_189_57 : zD 189 57 = some (.getfield 219, 3, none) ∧ zFl (zOn 189) 219 = some (8, 35) ∧ zFc 8 35 = some 0 := by decide +kernel
theorem k_189_60 : zD 189 60 = some (.iload_n 3, 1, none) := by decide +kernel
theorem k_189_61 : zD 189 61 = some (.iastore, 1, none) := by decide +kernel
theorem k_189_62 : zD 189 62 = some (.aload_n 0, 1, none) := by decide +kernel
theorem k_189_63 : zD 189 63 = some (.dup, 1, none) := by decide +kernel
theorem k_189_64 : zD 189 64 = some (.getfield 219, 3, none) ∧ zFl (zOn 189) 219 = some (8, 35) ∧ zFc 8 35 = some 0 := by decide +kernel
theorem k_189_67 : zD 189 67 = some (.iconst (1), 1, none) := by decide +kernel
theorem k_189_68 : zD 189 68 = some (.iadd, 1, none) := by decide +kernel
theorem k_189_69 : zD 189 69 = some (.putfield 219, 3, none) ∧ zFl (zOn 189) 219 = some (8, 35) ∧ zFc 8 35 = some 0 := by decide +kernel
theorem k_189_72 : zD 189 72 = some (.aload_n 0, 1, none) := by decide +kernel
theorem k_189_73 : zD 189 73 = some (.getfield 219, 3, none) ∧ zFl (zOn 189) 219 = some (8, 35) ∧ zFc 8 35 = some 0 := by decide +kernel
theorem k_189_76 : zD 189 76 = some (.ireturn, 1, none) := by decide +kernel
theorem kd_189_17 : zD 189 17 = some (.ldc 229, 2, some [false, false, false, false]) := k_189_17.1
theorem ml_190 : zML 190 = 2 := by decide +kernel
theorem rt_190 : zRt 190 = some .int := by decide +kernel
theorem k_190_0 : zD 190 0 = some (.aload_n 0, 1, none) := by decide +kernel
theorem k_190_1 : zD 190 1 = some (.getfield 219, 3, none) ∧ zFl (zOn 190) 219 = some (8, 35) ∧ zFc 8 35 = some 0 := by decide +kernel
theorem k_190_4 : zD 190 4 = some (.istore_n 1, 1, none) := by decide +kernel
theorem k_190_5 : zD 190 5 = some (.aload_n 0, 1, none) := by decide +kernel
theorem k_190_6 : zD 190 6 = some (.iconst (0), 1, none) := by decide +kernel
theorem k_190_7 : zD 190 7 = some (.putfield 219, 3, none) ∧ zFl (zOn 190) 219 = some (8, 35) ∧ zFc 8 35 = some 0 := by decide +kernel
theorem k_190_10 : zD 190 10 = some (.iload_n 1, 1, none) := by decide +kernel
theorem k_190_11 : zD 190 11 = some (.ireturn, 1, none) := by decide +kernel
theorem ml_191 : zML 191 = 3 := by decide +kernel
theorem rt_191 : zRt 191 = some .int := by decide +kernel
theorem k_191_0 : zD 191 0 = some (.iconst (0), 1, none) := by decide +kernel
theorem k_191_1 : zD 191 1 = some (.istore_n 1, 1, none) := by decide +kernel
theorem k_191_2 : zD 191 2 = some (.iload_n 1, 1, some [true, true, false]) := by decide +kernel
theorem k_191_3 : zD 191 3 = some (.iconst (5), 1, none) := by decide +kernel
theorem k_191_4 : zD 191 4 = some (.if_icmp .ge (21), 3, none) ∧ zTg 4 (21) = some 25 := by decide +kernel
theorem k_191_7 : zD 191 7 = some (.aload_n 0, 1, none) := by decide +kernel
theorem k_191_8 : zD 191 8 = some (.getfield 84, 3, none) ∧ zFl (zOn 191) 84 = some (8, 39) ∧ zFc 8 39 = some 3 := by decide +kernel
theorem k_191_11 : zD 191 11 = some (.iload_n 1, 1, none) := by decide +kernel
theorem k_191_12 : zD 191 12 = some (.aload_n 0, 1, none) := by decide +kernel
theorem k_191_13 : zD 191 13 = some (.getfield 26, 3, none) ∧ zFl (zOn 191) 26 = some (8, 8) ∧ zFc 8 8 = some 3 := by decide +kernel
theorem k_191_16 : zD 191 16 = some (.iload_n 1, 1, none) := by decide +kernel
theorem k_191_17 : zD 191 17 = some (.iaload, 1, none) := by decide +kernel
theorem k_191_18 : zD 191 18 = some (.iastore, 1, none) := by decide +kernel
theorem k_191_19 : zD 191 19 = some (.iinc 1 (1), 3, none) := by decide +kernel
theorem k_191_22 : zD 191 22 = some (.goto (-20), 3, none) ∧ zTg 22 (-20) = some 2 := by decide +kernel
theorem k_191_25 : zD 191 25 = some (.iconst (0), 1, none) := by decide +kernel
theorem k_191_26 : zD 191 26 = some (.istore_n 1, 1, none) := by decide +kernel
theorem k_191_27 : zD 191 27 = some (.iload_n 1, 1, some [true, true, false]) := by decide +kernel
theorem k_191_28 : zD 191 28 = some (.aload_n 0, 1, none) := by decide +kernel
theorem k_191_29 : zD 191 29 = some (.getfield 219, 3, none) ∧ zFl (zOn 191) 219 = some (8, 35) ∧ zFc 8 35 = some 0 := by decide +kernel
theorem k_191_32 : zD 191 32 = some (.if_icmp .ge (85), 3, none) ∧ zTg 32 (85) = some 117 := by decide +kernel
theorem k_191_35 : zD 191 35 = some (.aload_n 0, 1, none) := by decide +kernel
theorem k_191_36 : zD 191 36 = some (.getfield 78, 3, none) ∧ zFl (zOn 191) 78 = some (8, 37) ∧ zFc 8 37 = some 3 := by decide +kernel
theorem k_191_39 : zD 191 39 = some (.iload_n 1, 1, none) := by decide +kernel
theorem k_191_40 : zD 191 40 = some (.iaload, 1, none) := by decide +kernel
theorem k_191_41 : zD 191 41 = some (.istore_n 2, 1, none) := by decide +kernel
theorem k_191_42 : zD 191 42 = some (.aload_n 0, 1, none) := by decide +kernel
theorem k_191_43 : zD 191 43 = some (.getfield 84, 3, none) ∧ zFl (zOn 191) 84 = some (8, 39) ∧ zFc 8 39 = some 3 := by decide +kernel
theorem k_191_46 : zD 191 46 = some (.aload_n 0, 1, none) := by decide +kernel
theorem k_191_47 : zD 191 47 = some (.getfield 75, 3, none) ∧ zFl (zOn 191) 75 = some (8, 36) ∧ zFc 8 36 = some 3 := by decide +kernel
theorem k_191_50 : zD 191 50 = some (.iload_n 1, 1, none) := by decide +kernel
theorem k_191_51 : zD 191 51 = some (.iaload, 1, none) := by decide +kernel
theorem k_191_52 : zD 191 52 = some (.iaload, 1, none) := by decide +kernel
theorem k_191_53 : zD 191 53 = some (.aload_n 0, 1, none) := by decide +kernel
theorem k_191_54 : zD 191 54 = some (.getfield 81, 3, none) ∧ zFl (zOn 191) 81 = some (8, 38) ∧ zFc 8 38 = some 3 := by decide +kernel
theorem k_191_57 : zD 191 57 = some (.iload_n 1, 1, none) := by decide +kernel
theorem k_191_58 : zD 191 58 = some (.iaload, 1, none) := by decide +kernel
theorem k_191_59 : zD 191 59 = some (.invokestatic 121, 3, none) ∧ zAt.lookup (zOn 191, 121) = none ∧ zCk (zOn 191) 121 = some (1, 129) ∧ (1 = 1 ∨ 1 = 3) ∧ zNp 129 = 2 ∧ zML 129 = 2 ∧ (zRt 129 = some .int ∨ zRt 129 = some .boolean ∨ zRt 129 = some .char ∨ zRt 129 = some .byte) := by decide +kernel
theorem k_191_62 : zD 191 62 = some (.ifCond .eq (21), 3, none) ∧ zTg 62 (21) = some 83 := by decide +kernel
theorem k_191_83 : zD 191 83 = some (.iload_n 1, 1, some [false, true, false]) := by decide +kernel
theorem k_191_84 : zD 191 84 = some (.ireturn, 1, none) := by decide +kernel
theorem k_191_65 : zD 191 65 = some (.aload_n 0, 1, none) := by decide +kernel
theorem k_191_66 : zD 191 66 = some (.getfield 84, 3, none) ∧ zFl (zOn 191) 84 = some (8, 39) ∧ zFc 8 39 = some 3 := by decide +kernel
theorem k_191_69 : zD 191 69 = some (.iload_n 2, 1, none) := by decide +kernel
theorem k_191_70 : zD 191 70 = some (.iaload, 1, none) := by decide +kernel
theorem k_191_71 : zD 191 71 = some (.aload_n 0, 1, none) := by decide +kernel
theorem k_191_72 : zD 191 72 = some (.getfield 81, 3, none) ∧ zFl (zOn 191) 81 = some (8, 38) ∧ zFc 8 38 = some 3 := by decide +kernel
theorem k_191_75 : zD 191 75 = some (.iload_n 1, 1, none) := by decide +kernel
theorem k_191_76 : zD 191 76 = some (.iaload, 1, none) := by decide +kernel
theorem k_191_77 : zD 191 77 = some (.invokestatic 121, 3, none) ∧ zAt.lookup (zOn 191, 121) = none ∧ zCk (zOn 191) 121 = some (1, 129) ∧ (1 = 1 ∨ 1 = 3) ∧ zNp 129 = 2 ∧ zML 129 = 2 ∧ (zRt 129 = some .int ∨ zRt 129 = some .boolean ∨ zRt 129 = some .char ∨ zRt 129 = some .byte) := by decide +kernel
theorem k_191_80 : zD 191 80 = some (.ifCond .eq (5), 3, none) ∧ zTg 80 (5) = some 85 := by decide +kernel
theorem k_191_85 : zD 191 85 = some (.aload_n 0, 1, none) := by decide +kernel
theorem k_191_86 : zD 191 86 = some (.getfield 84, 3, none) ∧ zFl (zOn 191) 84 = some (8, 39) ∧ zFc 8 39 = some 3 := by decide +kernel
theorem k_191_89 : zD 191 89 = some (.iload_n 2, 1, none) := by decide +kernel
theorem k_191_90 : zD 191 90 = some (.aload_n 0, 1, none) := by decide +kernel
theorem k_191_91 : zD 191 91 = some (.getfield 23, 3, none) ∧ zFl (zOn 191) 23 = some (8, 6) ∧ zFc 8 6 = some 3 := by decide +kernel
theorem k_191_94 : zD 191 94 = some (.aload_n 0, 1, none) := by decide +kernel
theorem k_191_95 : zD 191 95 = some (.getfield 84, 3, none) ∧ zFl (zOn 191) 84 = some (8, 39) ∧ zFc 8 39 = some 3 := by decide +kernel
theorem k_191_98 : zD 191 98 = some (.iload_n 2, 1, none) := by decide +kernel
theorem k_191_99 : zD 191 99 = some (.iaload, 1, none) := by decide +kernel
theorem k_191_100 : zD 191 100 = some (.iconst (1), 1, none) := by decide +kernel
theorem k_191_101 : zD 191 101 = some (.aload_n 0, 1, none) := by decide +kernel
theorem k_191_102 : zD 191 102 = some (.getfield 81, 3, none) ∧ zFl (zOn 191) 81 = some (8, 38) ∧ zFc 8 38 = some 3 := by decide +kernel
theorem k_191_105 : zD 191 105 = some (.iload_n 1, 1, none) := by decide +kernel
theorem k_191_106 : zD 191 106 = some (.iaload, 1, none) := by decide +kernel
theorem k_191_107 : zD 191 107 = some (.ishl, 1, none) := by decide +kernel
theorem k_191_108 : zD 191 108 = some (.ior, 1, none) := by decide +kernel
theorem k_191_109 : zD 191 109 = some (.iaload, 1, none) := by decide +kernel
theorem k_191_110 : zD 191 110 = some (.iastore, 1, none) := by decide +kernel
theorem k_191_111 : zD 191 111 = some (.iinc 1 (1), 3, none) := by decide +kernel
theorem k_191_114 : zD 191 114 = some (.goto (-87), 3, none) ∧ zTg 114 (-87) = some 27 := by decide +kernel
theorem k_191_117 : zD 191 117 = some (.iconst (-1), 1, none) := by decide +kernel
theorem k_191_118 : zD 191 118 = some (.ireturn, 1, none) := by decide +kernel
theorem kd_191_2 : zD 191 2 = some (.iload_n 1, 1, some [true, true, false]) := k_191_2
theorem kd_191_27 : zD 191 27 = some (.iload_n 1, 1, some [true, true, false]) := k_191_27
theorem kd_191_83 : zD 191 83 = some (.iload_n 1, 1, some [false, true, false]) := k_191_83
theorem ml_192 : zML 192 = 9 := by decide +kernel
theorem rt_192 : zRt 192 = some .int := by decide +kernel
theorem k_192_0 : zD 192 0 = some (.iload_n 1, 1, none) := by decide +kernel
theorem k_192_1 : zD 192 1 = some (.i2l, 1, none) := by decide +kernel
theorem k_192_2 : zD 192 2 = some (.lconst 1, 1, none) := by decide +kernel
theorem k_192_3 : zD 192 3 = some (.ldc2_w 320, 3, none) ∧ zKc (zOn 192) 320 = some (.inr 99) := by decide +kernel
theorem k_192_6 : zD 192 6 = some (.invokestatic 106, 3, none) ∧ zAt.lookup (zOn 192, 106) = none ∧ zCk (zOn 192) 106 = some (1, 132) ∧ (1 = 1 ∨ 1 = 3) ∧ zNp 132 = 3 ∧ zML 132 = 6 ∧ (zRt 132 = some .int ∨ zRt 132 = some .boolean ∨ zRt 132 = some .char ∨ zRt 132 = some .byte) := by decide +kernel
theorem k_192_9 : zD 192 9 = some (.ifCond .eq (15), 3, none) ∧ zTg 9 (15) = some 24 := by decide +kernel
theorem k_192_24 : zD 192 24 = some (.ldc 138, 2, some [false, false, false, false, false, false, false, false, false]) ∧ zKc (zOn 192) 138 = some (.inl (-1000000002)) := by decide +kernel
theorem k_192_26 : zD 192 26 = some (.ireturn, 1, none) := by decide +kernel
theorem k_192_12 : zD 192 12 = some (.iload_n 2, 1, none) := by decide +kernel
theorem k_192_13 : zD 192 13 = some (.i2l, 1, none) := by decide +kernel
theorem k_192_14 : zD 192 14 = some (.lconst 0, 1, none) := by decide +kernel
theorem k_192_15 : zD 192 15 = some (.ldc2_w 322, 3, none) ∧ zKc (zOn 192) 322 = some (.inr 1000000) := by decide +kernel
theorem k_192_18 : zD 192 18 = some (.invokestatic 106, 3, none) ∧ zAt.lookup (zOn 192, 106) = none ∧ zCk (zOn 192) 106 = some (1, 132) ∧ (1 = 1 ∨ 1 = 3) ∧ zNp 132 = 3 ∧ zML 132 = 6 ∧ (zRt 132 = some .int ∨ zRt 132 = some .boolean ∨ zRt 132 = some .char ∨ zRt 132 = some .byte) := by decide +kernel
theorem k_192_21 : zD 192 21 = some (.ifCond .ne (6), 3, none) ∧ zTg 21 (6) = some 27 := by decide +kernel
theorem k_192_27 : zD 192 27 = some (.aload_n 0, 1, none) := by decide +kernel
theorem k_192_28 : zD 192 28 = some (.getfield 110, 3, none) ∧ zFl (zOn 192) 110 = some (8, 3) ∧ zFc 8 3 = some 0 := by decide +kernel
theorem k_192_31 : zD 192 31 = some (.iconst (2), 1, none) := by decide +kernel
theorem k_192_32 : zD 192 32 = some (.if_icmp .ge (7), 3, none) ∧ zTg 32 (7) = some 39 := by decide +kernel
theorem k_192_35 : zD 192 35 = some (.ldc_w 281, 3, none) ∧ zKc (zOn 192) 281 = some (.inl (-1000000003)) := by decide +kernel
theorem k_192_38 : zD 192 38 = some (.ireturn, 1, none) := by decide +kernel
theorem k_192_39 : zD 192 39 = some (.iconst (0), 1, none) := by decide +kernel
theorem k_192_40 : zD 192 40 = some (.istore_n 3, 1, none) := by decide +kernel
theorem k_192_41 : zD 192 41 = some (.iconst (0), 1, none) := by decide +kernel
theorem k_192_42 : zD 192 42 = some (.istore 4, 2, none) := by decide +kernel
theorem k_192_44 : zD 192 44 = some (.iload 4, 2, some [true, true, true, true, true, false, false, false, false]) := by decide +kernel
theorem k_192_46 : zD 192 46 = some (.iload_n 1, 1, none) := by decide +kernel
theorem k_192_47 : zD 192 47 = some (.if_icmp .ge (116), 3, none) ∧ zTg 47 (116) = some 163 := by decide +kernel
theorem k_192_50 : zD 192 50 = some (.aload_n 0, 1, none) := by decide +kernel
theorem k_192_51 : zD 192 51 = some (.aload_n 0, 1, none) := by decide +kernel
theorem k_192_52 : zD 192 52 = some (.getfield 110, 3, none) ∧ zFl (zOn 192) 110 = some (8, 3) ∧ zFc 8 3 = some 0 := by decide +kernel
theorem k_192_55 : zD 192 55 = some (.invokevirtual 324, 3, none) ∧ zCk (zOn 192) 324 = some (0, 193) ∧ zNp 193 = 1 ∧ zML 193 = 2 ∧ zCo[8]? = some (zOn 193) ∧ (zRt 193 = some .int ∨ zRt 193 = some .boolean ∨ zRt 193 = some .char ∨ zRt 193 = some .byte) := by decide +kernel
theorem k_192_58 : zD 192 58 = some (.istore 5, 2, none) := by decide +kernel
theorem k_192_60 : zD 192 60 = some (.aload_n 0, 1, none) := by decide +kernel
theorem k_192_61 : zD 192 61 = some (.aload_n 0, 1, none) := by decide +kernel
theorem k_192_62 : zD 192 62 = some (.getfield 110, 3, none) ∧ zFl (zOn 192) 110 = some (8, 3) ∧ zFc 8 3 = some 0 := by decide +kernel
theorem k_192_65 : zD 192 65 = some (.iconst (1), 1, none) := by decide +kernel
theorem k_192_66 : zD 192 66 = some (.isub, 1, none) := by decide +kernel
theorem k_192_67 : zD 192 67 = some (.invokevirtual 324, 3, none) ∧ zCk (zOn 192) 324 = some (0, 193) ∧ zNp 193 = 1 ∧ zML 193 = 2 ∧ zCo[8]? = some (zOn 193) ∧ (zRt 193 = some .int ∨ zRt 193 = some .boolean ∨ zRt 193 = some .char ∨ zRt 193 = some .byte) := by decide +kernel
theorem k_192_70 : zD 192 70 = some (.istore 6, 2, none) := by decide +kernel
theorem k_192_72 : zD 192 72 = some (.iload 6, 2, none) := by decide +kernel
theorem k_192_74 : zD 192 74 = some (.iload 6, 2, none) := by decide +kernel
theorem k_192_76 : zD 192 76 = some (.iload 5, 2, none) := by decide +kernel
theorem k_192_78 : zD 192 78 = some (.if_icmp .lt (7), 3, none) ∧ zTg 78 (7) = some 85 := by decide +kernel
theorem k_192_85 : zD 192 85 = some (.iconst (0), 1, none) := by decide +kernel
theorem k_192_81 : zD 192 81 = some (.iconst (1), 1, none) := by decide +kernel
theorem k_192_82 : zD 192 82 = some (.goto (4), 3, none) ∧ zTg 82 (4) = some 86 := by decide +kernel
theorem k_192_163 : zD 192 163 = some (.iload_n 3, 1, none) := by decide +kernel
theorem k_192_164 : zD 192 164 = some (.ireturn, 1, none) := by decide +kernel
theorem k_192_86 : zD 192 86 = some (.iadd, 1, some [true, true, true, true, true, true, false, false, false]) := by decide +kernel
theorem k_192_87 : zD 192 87 = some (.istore 6, 2, none) := by decide +kernel
theorem k_192_89 : zD 192 89 = some (.aload_n 0, 1, none) := by decide +kernel
theorem k_192_90 : zD 192 90 = some (.iload 5, 2, none) := by decide +kernel
theorem k_192_92 : zD 192 92 = some (.iload 6, 2, none) := by decide +kernel
theorem k_192_94 : zD 192 94 = some (.invokevirtual 275, 3, none) ∧ zCk (zOn 192) 275 = some (0, 170) ∧ zNp 170 = 2 ∧ zML 170 = 5 ∧ zCo[8]? = some (zOn 170) ∧ (zRt 170 = some .int ∨ zRt 170 = some .boolean ∨ zRt 170 = some .char ∨ zRt 170 = some .byte) := by decide +kernel
theorem k_192_97 : zD 192 97 = some (.istore 7, 2, none) := by decide +kernel
theorem k_192_99 : zD 192 99 = some (.iload 7, 2, none) := by decide +kernel
theorem k_192_101 : zD 192 101 = some (.ifCond .lt (46), 3, none) ∧ zTg 101 (46) = some 147 := by decide +kernel
theorem k_192_104 : zD 192 104 = some (.aload_n 0, 1, none) := by decide +kernel
theorem k_192_105 : zD 192 105 = some (.iload 5, 2, none) := by decide +kernel
theorem k_192_107 : zD 192 107 = some (.iload 6, 2, none) := by decide +kernel
theorem k_192_109 : zD 192 109 = some (.iload 7, 2, none) := by decide +kernel
theorem k_192_111 : zD 192 111 = some (.invokevirtual 271, 3, none) ∧ zCk (zOn 192) 271 = some (0, 167) ∧ zNp 167 = 3 ∧ zML 167 = 6 ∧ zCo[8]? = some (zOn 167) ∧ (zRt 167 = some .int ∨ zRt 167 = some .boolean ∨ zRt 167 = some .char ∨ zRt 167 = some .byte) := by decide +kernel
theorem k_192_114 : zD 192 114 = some (.iload_n 2, 1, none) := by decide +kernel
theorem k_192_115 : zD 192 115 = some (.if_icmp .lt (32), 3, none) ∧ zTg 115 (32) = some 147 := by decide +kernel
theorem k_192_118 : zD 192 118 = some (.aload_n 0, 1, none) := by decide +kernel
theorem k_192_119 : zD 192 119 = some (.iload 5, 2, none) := by decide +kernel
theorem k_192_121 : zD 192 121 = some (.iload 6, 2, none) := by decide +kernel
theorem k_192_123 : zD 192 123 = some (.iload 7, 2, none) := by decide +kernel
theorem k_192_125 : zD 192 125 = some (.iconst (0), 1, none) := by decide +kernel
theorem k_192_126 : zD 192 126 = some (.invokevirtual 282, 3, none) ∧ zCk (zOn 192) 282 = some (0, 172) ∧ zNp 172 = 4 ∧ zML 172 = 10 ∧ zCo[8]? = some (zOn 172) ∧ (zRt 172 = some .int ∨ zRt 172 = some .boolean ∨ zRt 172 = some .char ∨ zRt 172 = some .byte) := by decide +kernel
theorem k_192_129 : zD 192 129 = some (.istore 8, 2, none) := by decide +kernel
theorem k_192_131 : zD 192 131 = some (.iload_n 3, 1, none) := by decide +kernel
theorem k_192_132 : zD 192 132 = some (.iload 8, 2, none) := by decide +kernel
theorem k_192_134 : zD 192 134 = some (.ifCond .eq (7), 3, none) ∧ zTg 134 (7) = some 141 := by decide +kernel
theorem k_192_141 : zD 192 141 = some (.iconst (0), 1, none) := by decide +kernel
theorem k_192_142 : zD 192 142 = some (.iadd, 1, some [true, true, true, false, true, false, false, false, false]) := by decide +kernel
theorem k_192_143 : zD 192 143 = some (.istore_n 3, 1, none) := by decide +kernel
theorem k_192_144 : zD 192 144 = some (.goto (13), 3, none) ∧ zTg 144 (13) = some 157 := by decide +kernel
theorem k_192_157 : zD 192 157 = some (.iinc 4 (1), 3, some [true, true, true, true, true, false, false, false, false]) := by decide +kernel
theorem k_192_160 : zD 192 160 = some (.goto (-116), 3, none) ∧ zTg 160 (-116) = some 44 := by decide +kernel
theorem k_192_137 : zD 192 137 = some (.iconst (1), 1, none) := by decide +kernel
theorem k_192_138 : zD 192 138 = some (.goto (4), 3, none) ∧ zTg 138 (4) = some 142 := by decide +kernel
theorem k_192_147 : zD 192 147 = some (.aload_n 0, 1, some [true, true, true, true, true, true, true, false, false]) := by decide +kernel
theorem k_192_148 : zD 192 148 = some (.iload 5, 2, none) := by decide +kernel
theorem k_192_150 : zD 192 150 = some (.iload 6, 2, none) := by decide +kernel
theorem k_192_152 : zD 192 152 = some (.invokevirtual 288, 3, none) ∧ zCk (zOn 192) 288 = some (0, 175) ∧ zNp 175 = 2 ∧ zML 175 = 9 ∧ zCo[8]? = some (zOn 175) ∧ (zRt 175 = some .int ∨ zRt 175 = some .boolean ∨ zRt 175 = some .char ∨ zRt 175 = some .byte) := by decide +kernel
theorem k_192_155 : zD 192 155 = some (.istore 8, 2, none) := by decide +kernel
theorem kd_192_24 : zD 192 24 = some (.ldc 138, 2, some [false, false, false, false, false, false, false, false, false]) := k_192_24.1
theorem kd_192_44 : zD 192 44 = some (.iload 4, 2, some [true, true, true, true, true, false, false, false, false]) := k_192_44
theorem kd_192_86 : zD 192 86 = some (.iadd, 1, some [true, true, true, true, true, true, false, false, false]) := k_192_86
theorem kd_192_142 : zD 192 142 = some (.iadd, 1, some [true, true, true, false, true, false, false, false, false]) := k_192_142
theorem kd_192_147 : zD 192 147 = some (.aload_n 0, 1, some [true, true, true, true, true, true, true, false, false]) := k_192_147
theorem kd_192_157 : zD 192 157 = some (.iinc 4 (1), 3, some [true, true, true, true, true, false, false, false, false]) := k_192_157
theorem ml_193 : zML 193 = 2 := by decide +kernel
theorem rt_193 : zRt 193 = some .int := by decide +kernel
theorem k_193_0 : zD 193 0 = some (.aload_n 0, 1, none) := by decide +kernel
theorem k_193_1 : zD 193 1 = some (.aload_n 0, 1, none) := by decide +kernel
theorem k_193_2 : zD 193 2 = some (.getfield 310, 3, none) ∧ zFl (zOn 193) 310 = some (8, 14) ∧ zFc 8 14 = some 0 := by decide +kernel
theorem k_193_5 : zD 193 5 = some (.i2l, 1, none) := by decide +kernel
theorem k_193_6 : zD 193 6 = some (.ldc2_w 313, 3, none) ∧ zKc (zOn 193) 313 = some (.inr 1103515245) := by decide +kernel
theorem k_193_9 : zD 193 9 = some (.lmul, 1, none) := by decide +kernel
theorem k_193_10 : zD 193 10 = some (.ldc2_w 315, 3, none) ∧ zKc (zOn 193) 315 = some (.inr 12345) := by decide +kernel
theorem k_193_13 : zD 193 13 = some (.ladd, 1, none) := by decide +kernel
theorem k_193_14 : zD 193 14 = some (.ldc2_w 317, 3, none) ∧ zKc (zOn 193) 317 = some (.inr 2147483648) := by decide +kernel
theorem k_193_17 : zD 193 17 = some (.lrem, 1, none) := by decide +kernel
theorem k_193_18 : zD 193 18 = some (.l2i, 1, none) := by decide +kernel
theorem k_193_19 : zD 193 19 = some (.putfield 310, 3, none) ∧ zFl (zOn 193) 310 = some (8, 14) ∧ zFc 8 14 = some 0 := by decide +kernel
theorem k_193_22 : zD 193 22 = some (.aload_n 0, 1, none) := by decide +kernel
theorem k_193_23 : zD 193 23 = some (.getfield 310, 3, none) ∧ zFl (zOn 193) 310 = some (8, 14) ∧ zFc 8 14 = some 0 := by decide +kernel
theorem k_193_26 : zD 193 26 = some (.ldc_w 319, 3, none) ∧ zKc (zOn 193) 319 = some (.inl 65536) := by decide +kernel
theorem k_193_29 : zD 193 29 = some (.idiv, 1, none) := by decide +kernel
theorem k_193_30 : zD 193 30 = some (.iload_n 1, 1, none) := by decide +kernel
theorem k_193_31 : zD 193 31 = some (.irem, 1, none) := by decide +kernel
theorem k_193_32 : zD 193 32 = some (.ireturn, 1, none) := by decide +kernel
theorem ml_194 : zML 194 = 3 := by decide +kernel
theorem rt_194 : zRt 194 = some .int := by decide +kernel
theorem k_194_0 : zD 194 0 = some (.iload_n 1, 1, none) := by decide +kernel
theorem k_194_1 : zD 194 1 = some (.ifCond .ge (6), 3, none) ∧ zTg 1 (6) = some 7 := by decide +kernel
theorem k_194_4 : zD 194 4 = some (.ldc 138, 2, none) ∧ zKc (zOn 194) 138 = some (.inl (-1000000002)) := by decide +kernel
theorem k_194_6 : zD 194 6 = some (.ireturn, 1, none) := by decide +kernel
theorem k_194_7 : zD 194 7 = some (.aload_n 0, 1, none) := by decide +kernel
theorem k_194_8 : zD 194 8 = some (.getfield 310, 3, none) ∧ zFl (zOn 194) 310 = some (8, 14) ∧ zFc 8 14 = some 0 := by decide +kernel
theorem k_194_11 : zD 194 11 = some (.istore_n 2, 1, none) := by decide +kernel
theorem k_194_12 : zD 194 12 = some (.aload_n 0, 1, none) := by decide +kernel
theorem k_194_13 : zD 194 13 = some (.iload_n 1, 1, none) := by decide +kernel
theorem k_194_14 : zD 194 14 = some (.putfield 310, 3, none) ∧ zFl (zOn 194) 310 = some (8, 14) ∧ zFc 8 14 = some 0 := by decide +kernel
theorem k_194_17 : zD 194 17 = some (.iload_n 2, 1, none) := by decide +kernel
theorem k_194_18 : zD 194 18 = some (.ireturn, 1, none) := by decide +kernel
theorem ml_195 : zML 195 = 4 := by decide +kernel
theorem rt_195 : zRt 195 = some .int := by decide +kernel
theorem k_195_0 : zD 195 0 = some (.iload_n 1, 1, none) := by decide +kernel
theorem k_195_1 : zD 195 1 = some (.i2l, 1, none) := by decide +kernel
theorem k_195_2 : zD 195 2 = some (.lconst 0, 1, none) := by decide +kernel
theorem k_195_3 : zD 195 3 = some (.lconst 1, 1, none) := by decide +kernel
theorem k_195_4 : zD 195 4 = some (.invokestatic 106, 3, none) ∧ zAt.lookup (zOn 195, 106) = none ∧ zCk (zOn 195) 106 = some (1, 132) ∧ (1 = 1 ∨ 1 = 3) ∧ zNp 132 = 3 ∧ zML 132 = 6 ∧ (zRt 132 = some .int ∨ zRt 132 = some .boolean ∨ zRt 132 = some .char ∨ zRt 132 = some .byte) := by decide +kernel
theorem k_195_7 : zD 195 7 = some (.ifCond .ne (6), 3, none) ∧ zTg 7 (6) = some 13 := by decide +kernel
theorem k_195_10 : zD 195 10 = some (.ldc 229, 2, none) ∧ zKc (zOn 195) 229 = some (.inl (-1000000001)) := by decide +kernel
theorem k_195_12 : zD 195 12 = some (.ireturn, 1, none) := by decide +kernel
theorem k_195_13 : zD 195 13 = some (.sipush (320), 3, none) := by decide +kernel
theorem k_195_16 : zD 195 16 = some (.iload_n 1, 1, none) := by decide +kernel
theorem k_195_17 : zD 195 17 = some (.imul, 1, none) := by decide +kernel
theorem k_195_18 : zD 195 18 = some (.istore_n 2, 1, none) := by decide +kernel
theorem k_195_19 : zD 195 19 = some (.iconst (0), 1, none) := by decide +kernel
theorem k_195_20 : zD 195 20 = some (.istore_n 3, 1, none) := by decide +kernel
theorem k_195_21 : zD 195 21 = some (.iload_n 3, 1, some [true, true, true, true]) := by decide +kernel
theorem k_195_22 : zD 195 22 = some (.iconst (5), 1, none) := by decide +kernel
theorem k_195_23 : zD 195 23 = some (.if_icmp .ge (56), 3, none) ∧ zTg 23 (56) = some 79 := by decide +kernel
theorem k_195_26 : zD 195 26 = some (.aload_n 0, 1, none) := by decide +kernel
theorem k_195_27 : zD 195 27 = some (.getfield 87, 3, none) ∧ zFl (zOn 195) 87 = some (8, 40) ∧ zFc 8 40 = some 3 := by decide +kernel
theorem k_195_30 : zD 195 30 = some (.iload_n 2, 1, none) := by decide +kernel
theorem k_195_31 : zD 195 31 = some (.iload_n 3, 1, none) := by decide +kernel
theorem k_195_32 : zD 195 32 = some (.iadd, 1, none) := by decide +kernel
theorem k_195_33 : zD 195 33 = some (.aload_n 0, 1, none) := by decide +kernel
theorem k_195_34 : zD 195 34 = some (.getfield 26, 3, none) ∧ zFl (zOn 195) 26 = some (8, 8) ∧ zFc 8 8 = some 3 := by decide +kernel
theorem k_195_37 : zD 195 37 = some (.iload_n 3, 1, none) := by decide +kernel
theorem k_195_38 : zD 195 38 = some (.iaload, 1, none) := by decide +kernel
theorem k_195_39 : zD 195 39 = some (.iastore, 1, none) := by decide +kernel
theorem k_195_40 : zD 195 40 = some (.aload_n 0, 1, none) := by decide +kernel
theorem k_195_41 : zD 195 41 = some (.getfield 87, 3, none) ∧ zFl (zOn 195) 87 = some (8, 40) ∧ zFc 8 40 = some 3 := by decide +kernel
theorem k_195_44 : zD 195 44 = some (.iload_n 2, 1, none) := by decide +kernel
theorem k_195_45 : zD 195 45 = some (.iconst (5), 1, none) := by decide +kernel
theorem k_195_46 : zD 195 46 = some (.iadd, 1, none) := by decide +kernel
theorem k_195_47 : zD 195 47 = some (.iload_n 3, 1, none) := by decide +kernel
theorem k_195_48 : zD 195 48 = some (.iadd, 1, none) := by decide +kernel
theorem k_195_49 : zD 195 49 = some (.aload_n 0, 1, none) := by decide +kernel
theorem k_195_50 : zD 195 50 = some (.getfield 29, 3, none) ∧ zFl (zOn 195) 29 = some (8, 9) ∧ zFc 8 9 = some 3 := by decide +kernel
theorem k_195_53 : zD 195 53 = some (.iload_n 3, 1, none) := by decide +kernel
theorem k_195_54 : zD 195 54 = some (.iaload, 1, none) := by decide +kernel
theorem k_195_55 : zD 195 55 = some (.iastore, 1, none) := by decide +kernel
theorem k_195_56 : zD 195 56 = some (.aload_n 0, 1, none) := by decide +kernel
theorem k_195_57 : zD 195 57 = some (.getfield 87, 3, none) ∧ zFl (zOn 195) 87 = some (8, 40) ∧ zFc 8 40 = some 3 := by decide +kernel
theorem k_195_60 : zD 195 60 = some (.iload_n 2, 1, none) := by decide +kernel
theorem k_195_61 : zD 195 61 = some (.bipush (10), 2, none) := by decide +kernel
theorem k_195_63 : zD 195 63 = some (.iadd, 1, none) := by decide +kernel
theorem k_195_64 : zD 195 64 = some (.iload_n 3, 1, none) := by decide +kernel
theorem k_195_65 : zD 195 65 = some (.iadd, 1, none) := by decide +kernel
theorem k_195_66 : zD 195 66 = some (.aload_n 0, 1, none) := by decide +kernel
theorem k_195_67 : zD 195 67 = some (.getfield 36, 3, none) ∧ zFl (zOn 195) 36 = some (8, 11) ∧ zFc 8 11 = some 3 := by decide +kernel
theorem k_195_70 : zD 195 70 = some (.iload_n 3, 1, none) := by decide +kernel
theorem k_195_71 : zD 195 71 = some (.iaload, 1, none) := by decide +kernel
theorem k_195_72 : zD 195 72 = some (.iastore, 1, none) := by decide +kernel
theorem k_195_73 : zD 195 73 = some (.iinc 3 (1), 3, none) := by decide +kernel
theorem k_195_76 : zD 195 76 = some (.goto (-55), 3, none) ∧ zTg 76 (-55) = some 21 := by decide +kernel
theorem k_195_79 : zD 195 79 = some (.aload_n 0, 1, none) := by decide +kernel
theorem k_195_80 : zD 195 80 = some (.getfield 87, 3, none) ∧ zFl (zOn 195) 87 = some (8, 40) ∧ zFc 8 40 = some 3 := by decide +kernel
theorem k_195_83 : zD 195 83 = some (.iload_n 2, 1, none) := by decide +kernel
theorem k_195_84 : zD 195 84 = some (.bipush (15), 2, none) := by decide +kernel
theorem k_195_86 : zD 195 86 = some (.iadd, 1, none) := by decide +kernel
theorem k_195_87 : zD 195 87 = some (.aload_n 0, 1, none) := by decide +kernel
theorem k_195_88 : zD 195 88 = some (.getfield 133, 3, none) ∧ zFl (zOn 195) 133 = some (8, 12) ∧ zFc 8 12 = some 0 := by decide +kernel
theorem k_195_91 : zD 195 91 = some (.iastore, 1, none) := by decide +kernel
theorem k_195_92 : zD 195 92 = some (.aload_n 0, 1, none) := by decide +kernel
theorem k_195_93 : zD 195 93 = some (.getfield 87, 3, none) ∧ zFl (zOn 195) 87 = some (8, 40) ∧ zFc 8 40 = some 3 := by decide +kernel
theorem k_195_96 : zD 195 96 = some (.iload_n 2, 1, none) := by decide +kernel
theorem k_195_97 : zD 195 97 = some (.bipush (16), 2, none) := by decide +kernel
theorem k_195_99 : zD 195 99 = some (.iadd, 1, none) := by decide +kernel
theorem k_195_100 : zD 195 100 = some (.aload_n 0, 1, none) := by decide +kernel
theorem k_195_101 : zD 195 101 = some (.getfield 310, 3, none) ∧ zFl (zOn 195) 310 = some (8, 14) ∧ zFc 8 14 = some 0 := by decide +kernel
theorem k_195_104 : zD 195 104 = some (.iastore, 1, none) := by decide +kernel
theorem k_195_105 : zD 195 105 = some (.iconst (0), 1, none) := by decide +kernel
theorem k_195_106 : zD 195 106 = some (.istore_n 3, 1, none) := by decide +kernel
theorem k_195_107 : zD 195 107 = some (.iload_n 3, 1, some [true, true, true, true]) := by decide +kernel
theorem k_195_108 : zD 195 108 = some (.sipush (300), 3, none) := by decide +kernel
theorem k_195_111 : zD 195 111 = some (.if_icmp .ge (26), 3, none) ∧ zTg 111 (26) = some 137 := by decide +kernel
theorem k_195_114 : zD 195 114 = some (.aload_n 0, 1, none) := by decide +kernel
theorem k_195_115 : zD 195 115 = some (.getfield 87, 3, none) ∧ zFl (zOn 195) 87 = some (8, 40) ∧ zFc 8 40 = some 3 := by decide +kernel
theorem k_195_118 : zD 195 118 = some (.iload_n 2, 1, none) := by decide +kernel
theorem k_195_119 : zD 195 119 = some (.bipush (20), 2, none) := by decide +kernel
theorem k_195_121 : zD 195 121 = some (.iadd, 1, none) := by decide +kernel
theorem k_195_122 : zD 195 122 = some (.iload_n 3, 1, none) := by decide +kernel
theorem k_195_123 : zD 195 123 = some (.iadd, 1, none) := by decide +kernel
theorem k_195_124 : zD 195 124 = some (.aload_n 0, 1, none) := by decide +kernel
theorem k_195_125 : zD 195 125 = some (.getfield 39, 3, none) ∧ zFl (zOn 195) 39 = some (8, 13) ∧ zFc 8 13 = some 3 := by decide +kernel
theorem k_195_128 : zD 195 128 = some (.iload_n 3, 1, none) := by decide +kernel
theorem k_195_129 : zD 195 129 = some (.iaload, 1, none) := by decide +kernel
theorem k_195_130 : zD 195 130 = some (.iastore, 1, none) := by decide +kernel
theorem k_195_131 : zD 195 131 = some (.iinc 3 (1), 3, none) := by decide +kernel
theorem k_195_134 : zD 195 134 = some (.goto (-27), 3, none) ∧ zTg 134 (-27) = some 107 := by decide +kernel
theorem k_195_137 : zD 195 137 = some (.iconst (0), 1, none) := by decide +kernel
theorem k_195_138 : zD 195 138 = some (.istore_n 3, 1, none) := by decide +kernel
theorem k_195_139 : zD 195 139 = some (.iload_n 3, 1, some [true, true, false, true]) := by decide +kernel
theorem k_195_140 : zD 195 140 = some (.bipush (25), 2, none) := by decide +kernel
theorem k_195_142 : zD 195 142 = some (.if_icmp .ge (26), 3, none) ∧ zTg 142 (26) = some 168 := by decide +kernel
theorem k_195_145 : zD 195 145 = some (.aload_n 0, 1, none) := by decide +kernel
theorem k_195_146 : zD 195 146 = some (.getfield 90, 3, none) ∧ zFl (zOn 195) 90 = some (8, 41) ∧ zFc 8 41 = some 3 := by decide +kernel
theorem k_195_149 : zD 195 149 = some (.bipush (25), 2, none) := by decide +kernel
theorem k_195_151 : zD 195 151 = some (.iload_n 1, 1, none) := by decide +kernel
theorem k_195_152 : zD 195 152 = some (.imul, 1, none) := by decide +kernel
theorem k_195_153 : zD 195 153 = some (.iload_n 3, 1, none) := by decide +kernel
theorem k_195_154 : zD 195 154 = some (.iadd, 1, none) := by decide +kernel
theorem k_195_155 : zD 195 155 = some (.aload_n 0, 1, none) := by decide +kernel
theorem k_195_156 : zD 195 156 = some (.getfield 32, 3, none) ∧ zFl (zOn 195) 32 = some (8, 10) ∧ zFc 8 10 = some 3 := by decide +kernel
theorem k_195_159 : zD 195 159 = some (.iload_n 3, 1, none) := by decide +kernel
theorem k_195_160 : zD 195 160 = some (.laload, 1, none) := by decide +kernel
theorem k_195_161 : zD 195 161 = some (.lastore, 1, none) := by decide +kernel
theorem k_195_162 : zD 195 162 = some (.iinc 3 (1), 3, none) := by decide +kernel
theorem k_195_165 : zD 195 165 = some (.goto (-26), 3, none) ∧ zTg 165 (-26) = some 139 := by decide +kernel
theorem k_195_168 : zD 195 168 = some (.aload_n 0, 1, none) := by decide +kernel
theorem k_195_169 : zD 195 169 = some (.getfield 93, 3, none) ∧ zFl (zOn 195) 93 = some (8, 42) ∧ zFc 8 42 = some 3 := by decide +kernel
theorem k_195_172 : zD 195 172 = some (.iload_n 1, 1, none) := by decide +kernel
theorem k_195_173 : zD 195 173 = some (.iconst (1), 1, none) := by decide +kernel
theorem k_195_174 : zD 195 174 = some (.bastore, 1, none) := by decide +kernel
theorem k_195_175 : zD 195 175 = some (.iconst (1), 1, none) := by decide +kernel
theorem k_195_176 : zD 195 176 = some (.ireturn, 1, none) := by decide +kernel
theorem kd_195_21 : zD 195 21 = some (.iload_n 3, 1, some [true, true, true, true]) := k_195_21
theorem kd_195_107 : zD 195 107 = some (.iload_n 3, 1, some [true, true, true, true]) := k_195_107
theorem kd_195_139 : zD 195 139 = some (.iload_n 3, 1, some [true, true, false, true]) := k_195_139
theorem ml_196 : zML 196 = 4 := by decide +kernel
theorem rt_196 : zRt 196 = some .int := by decide +kernel
theorem k_196_0 : zD 196 0 = some (.iload_n 1, 1, none) := by decide +kernel
theorem k_196_1 : zD 196 1 = some (.i2l, 1, none) := by decide +kernel
theorem k_196_2 : zD 196 2 = some (.lconst 0, 1, none) := by decide +kernel
theorem k_196_3 : zD 196 3 = some (.lconst 1, 1, none) := by decide +kernel
theorem k_196_4 : zD 196 4 = some (.invokestatic 106, 3, none) ∧ zAt.lookup (zOn 196, 106) = none ∧ zCk (zOn 196) 106 = some (1, 132) ∧ (1 = 1 ∨ 1 = 3) ∧ zNp 132 = 3 ∧ zML 132 = 6 ∧ (zRt 132 = some .int ∨ zRt 132 = some .boolean ∨ zRt 132 = some .char ∨ zRt 132 = some .byte) := by decide +kernel
theorem k_196_7 : zD 196 7 = some (.ifCond .ne (6), 3, none) ∧ zTg 7 (6) = some 13 := by decide +kernel
theorem k_196_10 : zD 196 10 = some (.ldc 229, 2, none) ∧ zKc (zOn 196) 229 = some (.inl (-1000000001)) := by decide +kernel
theorem k_196_12 : zD 196 12 = some (.ireturn, 1, none) := by decide +kernel
theorem k_196_13 : zD 196 13 = some (.aload_n 0, 1, none) := by decide +kernel
theorem k_196_14 : zD 196 14 = some (.getfield 93, 3, none) ∧ zFl (zOn 196) 93 = some (8, 42) ∧ zFc 8 42 = some 3 := by decide +kernel
theorem k_196_17 : zD 196 17 = some (.iload_n 1, 1, none) := by decide +kernel
theorem k_196_18 : zD 196 18 = some (.baload, 1, none) := by decide +kernel
theorem k_196_19 : zD 196 19 = some (.ifCond .ne (7), 3, none) ∧ zTg 19 (7) = some 26 := by decide +kernel
theorem k_196_22 : zD 196 22 = some (.ldc_w 281, 3, none) ∧ zKc (zOn 196) 281 = some (.inl (-1000000003)) := by decide +kernel
theorem k_196_25 : zD 196 25 = some (.ireturn, 1, none) := by decide +kernel
theorem k_196_26 : zD 196 26 = some (.sipush (320), 3, none) := by decide +kernel
theorem k_196_29 : zD 196 29 = some (.iload_n 1, 1, none) := by decide +kernel
theorem k_196_30 : zD 196 30 = some (.imul, 1, none) := by decide +kernel
theorem k_196_31 : zD 196 31 = some (.istore_n 2, 1, none) := by decide +kernel
theorem k_196_32 : zD 196 32 = some (.iconst (0), 1, none) := by decide +kernel
theorem k_196_33 : zD 196 33 = some (.istore_n 3, 1, none) := by decide +kernel
theorem k_196_34 : zD 196 34 = some (.iload_n 3, 1, some [true, true, true, true]) := by decide +kernel
theorem k_196_35 : zD 196 35 = some (.iconst (5), 1, none) := by decide +kernel
theorem k_196_36 : zD 196 36 = some (.if_icmp .ge (56), 3, none) ∧ zTg 36 (56) = some 92 := by decide +kernel
theorem k_196_39 : zD 196 39 = some (.aload_n 0, 1, none) := by decide +kernel
theorem k_196_40 : zD 196 40 = some (.getfield 26, 3, none) ∧ zFl (zOn 196) 26 = some (8, 8) ∧ zFc 8 8 = some 3 := by decide +kernel
theorem k_196_43 : zD 196 43 = some (.iload_n 3, 1, none) := by decide +kernel
theorem k_196_44 : zD 196 44 = some (.aload_n 0, 1, none) := by decide +kernel
theorem k_196_45 : zD 196 45 = some (.getfield 87, 3, none) ∧ zFl (zOn 196) 87 = some (8, 40) ∧ zFc 8 40 = some 3 := by decide +kernel
theorem k_196_48 : zD 196 48 = some (.iload_n 2, 1, none) := by decide +kernel
theorem k_196_49 : zD 196 49 = some (.iload_n 3, 1, none) := by decide +kernel
theorem k_196_50 : zD 196 50 = some (.iadd, 1, none) := by decide +kernel
theorem k_196_51 : zD 196 51 = some (.iaload, 1, none) := by decide +kernel
theorem k_196_52 : zD 196 52 = some (.iastore, 1, none) := by decide +kernel
theorem k_196_53 : zD 196 53 = some (.aload_n 0, 1, none) := by decide +kernel
theorem k_196_54 : zD 196 54 = some (.getfield 29, 3, none) ∧ zFl (zOn 196) 29 = some (8, 9) ∧ zFc 8 9 = some 3 := by decide +kernel
theorem k_196_57 : zD 196 57 = some (.iload_n 3, 1, none) := by decide +kernel
theorem k_196_58 : zD 196 58 = some (.aload_n 0, 1, none) := by decide +kernel
theorem k_196_59 : zD 196 59 = some (.getfield 87, 3, none) ∧ zFl (zOn 196) 87 = some (8, 40) ∧ zFc 8 40 = some 3 := by decide +kernel
theorem k_196_62 : zD 196 62 = some (.iload_n 2, 1, none) := by decide +kernel
theorem k_196_63 : zD 196 63 = some (.iconst (5), 1, none) := by decide +kernel
theorem k_196_64 : zD 196 64 = some (.iadd, 1, none) := by decide +kernel
theorem k_196_65 : zD 196 65 = some (.iload_n 3, 1, none) := by decide +kernel
theorem k_196_66 : zD 196 66 = some (.iadd, 1, none) := by decide +kernel
theorem k_196_67 : zD 196 67 = some (.iaload, 1, none) := by decide +kernel
theorem k_196_68 : zD 196 68 = some (.iastore, 1, none) := by decide +kernel
theorem k_196_69 : zD 196 69 = some (.aload_n 0, 1, none) := by decide +kernel
theorem k_196_70 : zD 196 70 = some (.getfield 36, 3, none) ∧ zFl (zOn 196) 36 = some (8, 11) ∧ zFc 8 11 = some 3 := by decide +kernel
theorem k_196_73 : zD 196 73 = some (.iload_n 3, 1, none) := by decide +kernel
theorem k_196_74 : zD 196 74 = some (.aload_n 0, 1, none) := by decide +kernel
theorem k_196_75 : zD 196 75 = some (.getfield 87, 3, none) ∧ zFl (zOn 196) 87 = some (8, 40) ∧ zFc 8 40 = some 3 := by decide +kernel
theorem k_196_78 : zD 196 78 = some (.iload_n 2, 1, none) := by decide +kernel
theorem k_196_79 : zD 196 79 = some (.bipush (10), 2, none) := by decide +kernel
theorem k_196_81 : zD 196 81 = some (.iadd, 1, none) := by decide +kernel
theorem k_196_82 : zD 196 82 = some (.iload_n 3, 1, none) := by decide +kernel
theorem k_196_83 : zD 196 83 = some (.iadd, 1, none) := by decide +kernel
theorem k_196_84 : zD 196 84 = some (.iaload, 1, none) := by decide +kernel
theorem k_196_85 : zD 196 85 = some (.iastore, 1, none) := by decide +kernel
theorem k_196_86 : zD 196 86 = some (.iinc 3 (1), 3, none) := by decide +kernel
theorem k_196_89 : zD 196 89 = some (.goto (-55), 3, none) ∧ zTg 89 (-55) = some 34 := by decide +kernel
theorem k_196_92 : zD 196 92 = some (.aload_n 0, 1, none) := by decide +kernel
theorem k_196_93 : zD 196 93 = some (.aload_n 0, 1, none) := by decide +kernel
theorem k_196_94 : zD 196 94 = some (.getfield 87, 3, none) ∧ zFl (zOn 196) 87 = some (8, 40) ∧ zFc 8 40 = some 3 := by decide +kernel
theorem k_196_97 : zD 196 97 = some (.iload_n 2, 1, none) := by decide +kernel
theorem k_196_98 : zD 196 98 = some (.bipush (15), 2, none) := by decide +kernel
theorem k_196_100 : zD 196 100 = some (.iadd, 1, none) := by decide +kernel
theorem k_196_101 : zD 196 101 = some (.iaload, 1, none) := by decide +kernel
theorem k_196_102 : zD 196 102 = some (.putfield 133, 3, none) ∧ zFl (zOn 196) 133 = some (8, 12) ∧ zFc 8 12 = some 0 := by decide +kernel
theorem k_196_105 : zD 196 105 = some (.aload_n 0, 1, none) := by decide +kernel
theorem k_196_106 : zD 196 106 = some (.aload_n 0, 1, none) := by decide +kernel
theorem k_196_107 : zD 196 107 = some (.getfield 87, 3, none) ∧ zFl (zOn 196) 87 = some (8, 40) ∧ zFc 8 40 = some 3 := by decide +kernel
theorem k_196_110 : zD 196 110 = some (.iload_n 2, 1, none) := by decide +kernel
theorem k_196_111 : zD 196 111 = some (.bipush (16), 2, none) := by decide +kernel
theorem k_196_113 : zD 196 113 = some (.iadd, 1, none) := by decide +kernel
theorem k_196_114 : zD 196 114 = some (.iaload, 1, none) := by decide +kernel
theorem k_196_115 : zD 196 115 = some (.putfield 310, 3, none) ∧ zFl (zOn 196) 310 = some (8, 14) ∧ zFc 8 14 = some 0 := by decide +kernel
theorem k_196_118 : zD 196 118 = some (.iconst (0), 1, none) := by decide +kernel
theorem k_196_119 : zD 196 119 = some (.istore_n 3, 1, none) := by decide +kernel
theorem k_196_120 : zD 196 120 = some (.iload_n 3, 1, some [true, true, true, true]) := by decide +kernel
theorem k_196_121 : zD 196 121 = some (.sipush (300), 3, none) := by decide +kernel
theorem k_196_124 : zD 196 124 = some (.if_icmp .ge (26), 3, none) ∧ zTg 124 (26) = some 150 := by decide +kernel
theorem k_196_127 : zD 196 127 = some (.aload_n 0, 1, none) := by decide +kernel
theorem k_196_128 : zD 196 128 = some (.getfield 39, 3, none) ∧ zFl (zOn 196) 39 = some (8, 13) ∧ zFc 8 13 = some 3 := by decide +kernel
theorem k_196_131 : zD 196 131 = some (.iload_n 3, 1, none) := by decide +kernel
theorem k_196_132 : zD 196 132 = some (.aload_n 0, 1, none) := by decide +kernel
theorem k_196_133 : zD 196 133 = some (.getfield 87, 3, none) ∧ zFl (zOn 196) 87 = some (8, 40) ∧ zFc 8 40 = some 3 := by decide +kernel
theorem k_196_136 : zD 196 136 = some (.iload_n 2, 1, none) := by decide +kernel
theorem k_196_137 : zD 196 137 = some (.bipush (20), 2, none) := by decide +kernel
theorem k_196_139 : zD 196 139 = some (.iadd, 1, none) := by decide +kernel
theorem k_196_140 : zD 196 140 = some (.iload_n 3, 1, none) := by decide +kernel
theorem k_196_141 : zD 196 141 = some (.iadd, 1, none) := by decide +kernel
theorem k_196_142 : zD 196 142 = some (.iaload, 1, none) := by decide +kernel
theorem k_196_143 : zD 196 143 = some (.iastore, 1, none) := by decide +kernel
theorem k_196_144 : zD 196 144 = some (.iinc 3 (1), 3, none) := by decide +kernel
theorem k_196_147 : zD 196 147 = some (.goto (-27), 3, none) ∧ zTg 147 (-27) = some 120 := by decide +kernel
theorem k_196_150 : zD 196 150 = some (.iconst (0), 1, none) := by decide +kernel
theorem k_196_151 : zD 196 151 = some (.istore_n 3, 1, none) := by decide +kernel
theorem k_196_152 : zD 196 152 = some (.iload_n 3, 1, some [true, true, false, true]) := by decide +kernel
theorem k_196_153 : zD 196 153 = some (.bipush (25), 2, none) := by decide +kernel
theorem k_196_155 : zD 196 155 = some (.if_icmp .ge (26), 3, none) ∧ zTg 155 (26) = some 181 := by decide +kernel
theorem k_196_158 : zD 196 158 = some (.aload_n 0, 1, none) := by decide +kernel
theorem k_196_159 : zD 196 159 = some (.getfield 32, 3, none) ∧ zFl (zOn 196) 32 = some (8, 10) ∧ zFc 8 10 = some 3 := by decide +kernel
theorem k_196_162 : zD 196 162 = some (.iload_n 3, 1, none) := by decide +kernel
theorem k_196_163 : zD 196 163 = some (.aload_n 0, 1, none) := by decide +kernel
theorem k_196_164 : zD 196 164 = some (.getfield 90, 3, none) ∧ zFl (zOn 196) 90 = some (8, 41) ∧ zFc 8 41 = some 3 := by decide +kernel
theorem k_196_167 : zD 196 167 = some (.bipush (25), 2, none) := by decide +kernel
theorem k_196_169 : zD 196 169 = some (.iload_n 1, 1, none) := by decide +kernel
theorem k_196_170 : zD 196 170 = some (.imul, 1, none) := by decide +kernel
theorem k_196_171 : zD 196 171 = some (.iload_n 3, 1, none) := by decide +kernel
theorem k_196_172 : zD 196 172 = some (.iadd, 1, none) := by decide +kernel
theorem k_196_173 : zD 196 173 = some (.laload, 1, none) := by decide +kernel
theorem k_196_174 : zD 196 174 = some (.lastore, 1, none) := by decide +kernel
theorem k_196_175 : zD 196 175 = some (.iinc 3 (1), 3, none) := by decide +kernel
theorem k_196_178 : zD 196 178 = some (.goto (-26), 3, none) ∧ zTg 178 (-26) = some 152 := by decide +kernel
theorem k_196_181 : zD 196 181 = some (.iconst (1), 1, none) := by decide +kernel
theorem k_196_182 : zD 196 182 = some (.ireturn, 1, none) := by decide +kernel
theorem kd_196_34 : zD 196 34 = some (.iload_n 3, 1, some [true, true, true, true]) := k_196_34
theorem kd_196_120 : zD 196 120 = some (.iload_n 3, 1, some [true, true, true, true]) := k_196_120
theorem kd_196_152 : zD 196 152 = some (.iload_n 3, 1, some [true, true, false, true]) := k_196_152


theorem kd_153_5 : zD 153 5 = some (.iload 4, 2, some [true, true, false, true, true]) := k_153_5
theorem kd_153_34 : zD 153 34 = some (.ior, 1, some [true, true, false, false, true]) := k_153_34
theorem ml_154 : zML 154 = 2 := by decide +kernel
theorem rt_154 : zRt 154 = some .int := by decide +kernel
theorem k_154_0 : zD 154 0 = some (.aload_n 0, 1, none) := by decide +kernel
theorem k_154_1 : zD 154 1 = some (.iload_n 1, 1, none) := by decide +kernel
theorem k_154_2 : zD 154 2 = some (.invokevirtual 240, 3, none) ∧ zCk (zOn 154) 240 = some (0, 155) ∧ zNp 155 = 1 ∧ zML 155 = 2 ∧ zCo[8]? = some (zOn 155) ∧ (zRt 155 = some .int ∨ zRt 155 = some .boolean ∨ zRt 155 = some .char ∨ zRt 155 = some .byte) := by decide +kernel
theorem k_154_5 : zD 154 5 = some (.ifCond .eq (12), 3, none) ∧ zTg 5 (12) = some 17 := by decide +kernel
theorem k_154_17 : zD 154 17 = some (.ldc 229, 2, none) ∧ zKc (zOn 154) 229 = some (.inl (-1000000001)) := by decide +kernel
theorem k_154_19 : zD 154 19 = some (.ireturn, 1, some [false, false]) := by decide +kernel
theorem k_154_8 : zD 154 8 = some (.aload_n 0, 1, none) := by decide +kernel
theorem k_154_9 : zD 154 9 = some (.getfield 23, 3, none) ∧ zFl (zOn 154) 23 = some (8, 6) ∧ zFc 8 6 = some 3 := by decide +kernel
theorem k_154_12 : zD 154 12 = some (.iload_n 1, 1, none) := by decide +kernel
theorem k_154_13 : zD 154 13 = some (.iaload, 1, none) := by decide +kernel
theorem k_154_14 : zD 154 14 = some (.goto (5), 3, none) ∧ zTg 14 (5) = some 19 := by decide +kernel
theorem kd_154_19 : zD 154 19 = some (.ireturn, 1, some [false, false]) := k_154_19
theorem ml_155 : zML 155 = 2 := by decide +kernel
theorem rt_155 : zRt 155 = some .boolean := by decide +kernel
theorem k_155_0 : zD 155 0 = some (.iload_n 1, 1, none) := by decide +kernel
theorem k_155_1 : zD 155 1 = some (.i2l, 1, none) := by decide +kernel
theorem k_155_2 : zD 155 2 = some (.lconst 0, 1, none) := by decide +kernel
theorem k_155_3 : zD 155 3 = some (.iconst (1), 1, none) := by decide +kernel
theorem k_155_4 : zD 155 4 = some (.aload_n 0, 1, none) := by decide +kernel
theorem k_155_5 : zD 155 5 = some (.getfield 103, 3, none) ∧ zFl (zOn 155) 103 = some (8, 0) ∧ zFc 8 0 = some 0 := by decide +kernel
theorem k_155_8 : zD 155 8 = some (.ishl, 1, none) := by decide +kernel
theorem k_155_9 : zD 155 9 = some (.iconst (1), 1, none) := by decide +kernel
theorem k_155_10 : zD 155 10 = some (.isub, 1, none) := by decide +kernel
theorem k_155_11 : zD 155 11 = some (.i2l, 1, none) := by decide +kernel
theorem k_155_12 : zD 155 12 = some (.invokestatic 106, 3, none) ∧ zAt.lookup (zOn 155, 106) = none ∧ zCk (zOn 155) 106 = some (1, 132) ∧ (1 = 1 ∨ 1 = 3) ∧ zNp 132 = 3 ∧ zML 132 = 6 ∧ (zRt 132 = some .int ∨ zRt 132 = some .boolean ∨ zRt 132 = some .char ∨ zRt 132 = some .byte) := by decide +kernel
theorem k_155_15 : zD 155 15 = some (.ireturn, 1, none) := by decide +kernel
theorem ml_156 : zML 156 = 4 := by decide +kernel
theorem rt_156 : zRt 156 = some .int := by decide +kernel
theorem k_156_0 : zD 156 0 = some (.aload_n 0, 1, none) := by decide +kernel
theorem k_156_1 : zD 156 1 = some (.iload_n 1, 1, none) := by decide +kernel
theorem k_156_2 : zD 156 2 = some (.iload_n 2, 1, none) := by decide +kernel
theorem k_156_3 : zD 156 3 = some (.invokevirtual 243, 3, none) ∧ zCk (zOn 156) 243 = some (0, 157) ∧ zNp 157 = 2 ∧ zML 157 = 3 ∧ zCo[8]? = some (zOn 157) ∧ (zRt 157 = some .int ∨ zRt 157 = some .boolean ∨ zRt 157 = some .char ∨ zRt 157 = some .byte) := by decide +kernel
theorem k_156_6 : zD 156 6 = some (.ifCond .eq (21), 3, none) ∧ zTg 6 (21) = some 27 := by decide +kernel
theorem k_156_27 : zD 156 27 = some (.ldc 229, 2, none) ∧ zKc (zOn 156) 229 = some (.inl (-1000000001)) := by decide +kernel
theorem k_156_29 : zD 156 29 = some (.ireturn, 1, some [false, false, false, false]) := by decide +kernel
theorem k_156_9 : zD 156 9 = some (.aload_n 0, 1, none) := by decide +kernel
theorem k_156_10 : zD 156 10 = some (.aload_n 0, 1, none) := by decide +kernel
theorem k_156_11 : zD 156 11 = some (.getfield 32, 3, none) ∧ zFl (zOn 156) 32 = some (8, 10) ∧ zFc 8 10 = some 3 := by decide +kernel
theorem k_156_14 : zD 156 14 = some (.iconst (5), 1, none) := by decide +kernel
theorem k_156_15 : zD 156 15 = some (.iload_n 1, 1, none) := by decide +kernel
theorem k_156_16 : zD 156 16 = some (.imul, 1, none) := by decide +kernel
theorem k_156_17 : zD 156 17 = some (.iload_n 2, 1, none) := by decide +kernel
theorem k_156_18 : zD 156 18 = some (.iadd, 1, none) := by decide +kernel
theorem k_156_19 : zD 156 19 = some (.laload, 1, none) := by decide +kernel
theorem k_156_20 : zD 156 20 = some (.iload_n 3, 1, none) := by decide +kernel
theorem k_156_21 : zD 156 21 = some (.invokevirtual 246, 3, none) ∧ zCk (zOn 156) 246 = some (0, 158) ∧ zNp 158 = 2 ∧ zML 158 = 6 ∧ zCo[8]? = some (zOn 158) ∧ (zRt 158 = some .int ∨ zRt 158 = some .boolean ∨ zRt 158 = some .char ∨ zRt 158 = some .byte) := by decide +kernel
theorem k_156_24 : zD 156 24 = some (.goto (5), 3, none) ∧ zTg 24 (5) = some 29 := by decide +kernel
theorem kd_156_29 : zD 156 29 = some (.ireturn, 1, some [false, false, false, false]) := k_156_29
theorem ml_157 : zML 157 = 3 := by decide +kernel
theorem rt_157 : zRt 157 = some .boolean := by decide +kernel
theorem k_157_0 : zD 157 0 = some (.aload_n 0, 1, none) := by decide +kernel
theorem k_157_1 : zD 157 1 = some (.iload_n 1, 1, none) := by decide +kernel
theorem k_157_2 : zD 157 2 = some (.invokevirtual 113, 3, none) ∧ zCk (zOn 157) 113 = some (0, 151) ∧ zNp 151 = 1 ∧ zML 151 = 2 ∧ zCo[8]? = some (zOn 151) ∧ (zRt 151 = some .int ∨ zRt 151 = some .boolean ∨ zRt 151 = some .char ∨ zRt 151 = some .byte) := by decide +kernel
theorem k_157_5 : zD 157 5 = some (.ifCond .eq (20), 3, none) ∧ zTg 5 (20) = some 25 := by decide +kernel
theorem k_157_25 : zD 157 25 = some (.iconst (0), 1, some [false, false, false]) := by decide +kernel
theorem k_157_26 : zD 157 26 = some (.ireturn, 1, some [false, false, false]) := by decide +kernel
theorem k_157_8 : zD 157 8 = some (.aload_n 0, 1, none) := by decide +kernel
theorem k_157_9 : zD 157 9 = some (.iload_n 2, 1, none) := by decide +kernel
theorem k_157_10 : zD 157 10 = some (.invokevirtual 113, 3, none) ∧ zCk (zOn 157) 113 = some (0, 151) ∧ zNp 151 = 1 ∧ zML 151 = 2 ∧ zCo[8]? = some (zOn 151) ∧ (zRt 151 = some .int ∨ zRt 151 = some .boolean ∨ zRt 151 = some .char ∨ zRt 151 = some .byte) := by decide +kernel
theorem k_157_13 : zD 157 13 = some (.ifCond .eq (12), 3, none) ∧ zTg 13 (12) = some 25 := by decide +kernel
theorem k_157_16 : zD 157 16 = some (.iload_n 1, 1, none) := by decide +kernel
theorem k_157_17 : zD 157 17 = some (.iload_n 2, 1, none) := by decide +kernel
theorem k_157_18 : zD 157 18 = some (.if_icmp .eq (7), 3, none) ∧ zTg 18 (7) = some 25 := by decide +kernel
theorem k_157_21 : zD 157 21 = some (.iconst (1), 1, none) := by decide +kernel
theorem k_157_22 : zD 157 22 = some (.goto (4), 3, none) ∧ zTg 22 (4) = some 26 := by decide +kernel
theorem kd_157_25 : zD 157 25 = some (.iconst (0), 1, some [false, false, false]) := k_157_25
theorem kd_157_26 : zD 157 26 = some (.ireturn, 1, some [false, false, false]) := k_157_26
theorem ml_158 : zML 158 = 6 := by decide +kernel
theorem rt_158 : zRt 158 = some .int := by decide +kernel
theorem k_158_0 : zD 158 0 = some (.iconst (0), 1, none) := by decide +kernel
theorem k_158_1 : zD 158 1 = some (.istore 4, 2, none) := by decide +kernel
theorem k_158_3 : zD 158 3 = some (.iconst (0), 1, none) := by decide +kernel
theorem k_158_4 : zD 158 4 = some (.istore 5, 2, none) := by decide +kernel
theorem k_158_6 : zD 158 6 = some (.iload 5, 2, some [true, true, false, true, true, true]) := by decide +kernel
theorem k_158_8 : zD 158 8 = some (.iconst (1), 1, none) := by decide +kernel
theorem k_158_9 : zD 158 9 = some (.aload_n 0, 1, none) := by decide +kernel
theorem k_158_10 : zD 158 10 = some (.getfield 103, 3, none) ∧ zFl (zOn 158) 103 = some (8, 0) ∧ zFc 8 0 = some 0 := by decide +kernel
theorem k_158_13 : zD 158 13 = some (.ishl, 1, none) := by decide +kernel
theorem k_158_14 : zD 158 14 = some (.if_icmp .ge (32), 3, none) ∧ zTg 14 (32) = some 46 := by decide +kernel
theorem k_158_17 : zD 158 17 = some (.lload_n 1, 1, none) := by decide +kernel
theorem k_158_18 : zD 158 18 = some (.iload 5, 2, none) := by decide +kernel
theorem k_158_20 : zD 158 20 = some (.lshr, 1, none) := by decide +kernel
theorem k_158_21 : zD 158 21 = some (.lconst 1, 1, none) := by decide +kernel
theorem k_158_22 : zD 158 22 = some (.land, 1, none) := by decide +kernel
theorem k_158_23 : zD 158 23 = some (.lconst 1, 1, none) := by decide +kernel
theorem k_158_24 : zD 158 24 = some (.lcmp, 1, none) := by decide +kernel
theorem k_158_25 : zD 158 25 = some (.ifCond .ne (15), 3, none) ∧ zTg 25 (15) = some 40 := by decide +kernel
theorem k_158_28 : zD 158 28 = some (.iload 4, 2, none) := by decide +kernel
theorem k_158_30 : zD 158 30 = some (.iload_n 3, 1, none) := by decide +kernel
theorem k_158_31 : zD 158 31 = some (.if_icmp .ne (6), 3, none) ∧ zTg 31 (6) = some 37 := by decide +kernel
theorem k_158_34 : zD 158 34 = some (.iload 5, 2, none) := by decide +kernel
theorem k_158_36 : zD 158 36 = some (.ireturn, 1, none) := by decide +kernel
theorem k_158_37 : zD 158 37 = some (.iinc 4 (1), 3, none) := by decide +kernel
theorem k_158_40 : zD 158 40 = some (.iinc 5 (1), 3, some [true, true, false, true, true, true]) := by decide +kernel
theorem k_158_43 : zD 158 43 = some (.goto (-37), 3, none) ∧ zTg 43 (-37) = some 6 := by decide +kernel
theorem k_158_46 : zD 158 46 = some (.iload_n 3, 1, none) := by decide +kernel
theorem k_158_47 : zD 158 47 = some (.iconst (-1), 1, none) := by decide +kernel
theorem k_158_48 : zD 158 48 = some (.if_icmp .ne (8), 3, none) ∧ zTg 48 (8) = some 56 := by decide +kernel
theorem k_158_51 : zD 158 51 = some (.iload 4, 2, none) := by decide +kernel
theorem k_158_53 : zD 158 53 = some (.goto (4), 3, none) ∧ zTg 53 (4) = some 57 := by decide +kernel
theorem k_158_57 : zD 158 57 = some (.ireturn, 1, some [false, false, false, false, false, false]) := by decide +kernel
theorem k_158_56 : zD 158 56 = some (.iconst (-1), 1, none) := by decide +kernel
theorem kd_158_6 : zD 158 6 = some (.iload 5, 2, some [true, true, false, true, true, true]) := k_158_6
theorem kd_158_57 : zD 158 57 = some (.ireturn, 1, some [false, false, false, false, false, false]) := k_158_57
theorem ml_159 : zML 159 = 4 := by decide +kernel
theorem rt_159 : zRt 159 = some .int := by decide +kernel
theorem k_159_0 : zD 159 0 = some (.aload_n 0, 1, none) := by decide +kernel
theorem k_159_1 : zD 159 1 = some (.iload_n 1, 1, none) := by decide +kernel
theorem k_159_2 : zD 159 2 = some (.iload_n 2, 1, none) := by decide +kernel
theorem k_159_3 : zD 159 3 = some (.invokevirtual 243, 3, none) ∧ zCk (zOn 159) 243 = some (0, 157) ∧ zNp 157 = 2 ∧ zML 157 = 3 ∧ zCo[8]? = some (zOn 157) ∧ (zRt 157 = some .int ∨ zRt 157 = some .boolean ∨ zRt 157 = some .char ∨ zRt 157 = some .byte) := by decide +kernel
theorem k_159_6 : zD 159 6 = some (.ifCond .ne (6), 3, none) ∧ zTg 6 (6) = some 12 := by decide +kernel
theorem k_159_9 : zD 159 9 = some (.ldc 229, 2, none) ∧ zKc (zOn 159) 229 = some (.inl (-1000000001)) := by decide +kernel
theorem k_159_11 : zD 159 11 = some (.ireturn, 1, none) := by decide +kernel
theorem k_159_12 : zD 159 12 = some (.iload_n 3, 1, none) := by decide +kernel
theorem k_159_13 : zD 159 13 = some (.ifCond .ne (12), 3, none) ∧ zTg 13 (12) = some 25 := by decide +kernel
theorem k_159_16 : zD 159 16 = some (.aload_n 0, 1, none) := by decide +kernel
theorem k_159_17 : zD 159 17 = some (.iload_n 1, 1, none) := by decide +kernel
theorem k_159_18 : zD 159 18 = some (.iload_n 2, 1, none) := by decide +kernel
theorem k_159_19 : zD 159 19 = some (.invokevirtual 257, 3, none) ∧ zCk (zOn 159) 257 = some (0, 160) ∧ zNp 160 = 2 ∧ zML 160 = 3 ∧ zCo[8]? = some (zOn 160) ∧ (zRt 160 = some .int ∨ zRt 160 = some .boolean ∨ zRt 160 = some .char ∨ zRt 160 = some .byte) := by decide +kernel
theorem k_159_22 : zD 159 22 = some (.goto (19), 3, none) ∧ zTg 22 (19) = some 41 := by decide +kernel
theorem k_159_41 : zD 159 41 = some (.ireturn, 1, some [false, false, false, false]) := by decide +kernel
theorem k_159_25 : zD 159 25 = some (.iload_n 3, 1, none) := by decide +kernel
theorem k_159_26 : zD 159 26 = some (.iconst (1), 1, none) := by decide +kernel
theorem k_159_27 : zD 159 27 = some (.if_icmp .ne (12), 3, none) ∧ zTg 27 (12) = some 39 := by decide +kernel
theorem k_159_30 : zD 159 30 = some (.aload_n 0, 1, none) := by decide +kernel
theorem k_159_31 : zD 159 31 = some (.iload_n 1, 1, none) := by decide +kernel
theorem k_159_32 : zD 159 32 = some (.iload_n 2, 1, none) := by decide +kernel
theorem k_159_33 : zD 159 33 = some (.invokevirtual 260, 3, none) ∧ zCk (zOn 159) 260 = some (0, 163) ∧ zNp 163 = 2 ∧ zML 163 = 3 ∧ zCo[8]? = some (zOn 163) ∧ (zRt 163 = some .int ∨ zRt 163 = some .boolean ∨ zRt 163 = some .char ∨ zRt 163 = some .byte) := by decide +kernel
theorem k_159_36 : zD 159 36 = some (.goto (5), 3, none) ∧ zTg 36 (5) = some 41 := by decide +kernel
theorem k_159_39 : zD 159 39 = some (.ldc 138, 2, none) ∧ zKc (zOn 159) 138 = some (.inl (-1000000002)) := by decide +kernel
theorem kd_159_41 : zD 159 41 = some (.ireturn, 1, some [false, false, false, false]) := k_159_41
theorem ml_160 : zML 160 = 3 := by decide +kernel
theorem rt_160 : zRt 160 = some .int := by decide +kernel
theorem k_160_0 : zD 160 0 = some (.aload_n 0, 1, none) := by decide +kernel
theorem k_160_1 : zD 160 1 = some (.aload_n 0, 1, none) := by decide +kernel
theorem k_160_2 : zD 160 2 = some (.getfield 32, 3, none) ∧ zFl (zOn 160) 32 = some (8, 10) ∧ zFc 8 10 = some 3 := by decide +kernel
theorem k_160_5 : zD 160 5 = some (.iconst (5), 1, none) := by decide +kernel
theorem k_160_6 : zD 160 6 = some (.iload_n 1, 1, none) := by decide +kernel
theorem k_160_7 : zD 160 7 = some (.imul, 1, none) := by decide +kernel
theorem k_160_8 : zD 160 8 = some (.iload_n 2, 1, none) := by decide +kernel
theorem k_160_9 : zD 160 9 = some (.iadd, 1, none) := by decide +kernel
theorem k_160_10 : zD 160 10 = some (.laload, 1, none) := by decide +kernel
theorem k_160_11 : zD 160 11 = some (.invokevirtual 250, 3, none) ∧ zCk (zOn 160) 250 = some (0, 161) ∧ zNp 161 = 1 ∧ zML 161 = 5 ∧ zCo[8]? = some (zOn 161) ∧ (zRt 161 = some .int ∨ zRt 161 = some .boolean ∨ zRt 161 = some .char ∨ zRt 161 = some .byte) := by decide +kernel
theorem k_160_14 : zD 160 14 = some (.aload_n 0, 1, none) := by decide +kernel
theorem k_160_15 : zD 160 15 = some (.getfield 32, 3, none) ∧ zFl (zOn 160) 32 = some (8, 10) ∧ zFc 8 10 = some 3 := by decide +kernel
theorem k_160_18 : zD 160 18 = some (.iconst (5), 1, none) := by decide +kernel
theorem k_160_19 : zD 160 19 = some (.iload_n 1, 1, none) := by decide +kernel
theorem k_160_20 : zD 160 20 = some (.imul, 1, none) := by decide +kernel
theorem k_160_21 : zD 160 21 = some (.iload_n 2, 1, none) := by decide +kernel
theorem k_160_22 : zD 160 22 = some (.iadd, 1, none) := by decide +kernel
theorem k_160_23 : zD 160 23 = some (.laload, 1, none) := by decide +kernel
theorem k_160_24 : zD 160 24 = some (.invokestatic 253, 3, none) ∧ zAt.lookup (zOn 160, 253) = none ∧ zCk (zOn 160) 253 = some (1, 162) ∧ (1 = 1 ∨ 1 = 3) ∧ zNp 162 = 2 ∧ zML 162 = 3 ∧ (zRt 162 = some .int ∨ zRt 162 = some .boolean ∨ zRt 162 = some .char ∨ zRt 162 = some .byte) := by decide +kernel
theorem k_160_27 : zD 160 27 = some (.ireturn, 1, none) := by decide +kernel
theorem ml_161 : zML 161 = 5 := by decide +kernel
theorem rt_161 : zRt 161 = some .int := by decide +kernel
theorem k_161_0 : zD 161 0 = some (.iconst (1), 1, none) := by decide +kernel
theorem k_161_1 : zD 161 1 = some (.aload_n 0, 1, none) := by decide +kernel
theorem k_161_2 : zD 161 2 = some (.getfield 103, 3, none) ∧ zFl (zOn 161) 103 = some (8, 0) ∧ zFc 8 0 = some 0 := by decide +kernel
theorem k_161_5 : zD 161 5 = some (.ishl, 1, none) := by decide +kernel
theorem k_161_6 : zD 161 6 = some (.iconst (1), 1, none) := by decide +kernel
theorem k_161_7 : zD 161 7 = some (.isub, 1, none) := by decide +kernel
theorem k_161_8 : zD 161 8 = some (.istore_n 3, 1, none) := by decide +kernel
theorem k_161_9 : zD 161 9 = some (.iconst (0), 1, none) := by decide +kernel
theorem k_161_10 : zD 161 10 = some (.istore 4, 2, none) := by decide +kernel
theorem k_161_12 : zD 161 12 = some (.iload 4, 2, some [true, true, false, true, true]) := by decide +kernel
theorem k_161_14 : zD 161 14 = some (.iconst (1), 1, none) := by decide +kernel
theorem k_161_15 : zD 161 15 = some (.aload_n 0, 1, none) := by decide +kernel
theorem k_161_16 : zD 161 16 = some (.getfield 103, 3, none) ∧ zFl (zOn 161) 103 = some (8, 0) ∧ zFc 8 0 = some 0 := by decide +kernel
theorem k_161_19 : zD 161 19 = some (.ishl, 1, none) := by decide +kernel
theorem k_161_20 : zD 161 20 = some (.if_icmp .ge (29), 3, none) ∧ zTg 20 (29) = some 49 := by decide +kernel
theorem k_161_23 : zD 161 23 = some (.iload_n 3, 1, none) := by decide +kernel
theorem k_161_24 : zD 161 24 = some (.lload_n 1, 1, none) := by decide +kernel
theorem k_161_25 : zD 161 25 = some (.iload 4, 2, none) := by decide +kernel
theorem k_161_27 : zD 161 27 = some (.lshr, 1, none) := by decide +kernel
theorem k_161_28 : zD 161 28 = some (.lconst 1, 1, none) := by decide +kernel
theorem k_161_29 : zD 161 29 = some (.land, 1, none) := by decide +kernel
theorem k_161_30 : zD 161 30 = some (.lconst 1, 1, none) := by decide +kernel
theorem k_161_31 : zD 161 31 = some (.lcmp, 1, none) := by decide +kernel
theorem k_161_32 : zD 161 32 = some (.ifCond .ne (8), 3, none) ∧ zTg 32 (8) = some 40 := by decide +kernel
theorem k_161_35 : zD 161 35 = some (.iload 4, 2, none) := by decide +kernel
theorem k_161_37 : zD 161 37 = some (.goto (4), 3, none) ∧ zTg 37 (4) = some 41 := by decide +kernel
theorem k_161_41 : zD 161 41 = some (.iand, 1, some [true, true, false, false, true]) := by decide +kernel
theorem k_161_42 : zD 161 42 = some (.istore_n 3, 1, none) := by decide +kernel
theorem k_161_43 : zD 161 43 = some (.iinc 4 (1), 3, none) := by decide +kernel
theorem k_161_46 : zD 161 46 = some (.goto (-34), 3, none) ∧ zTg 46 (-34) = some 12 := by decide +kernel
theorem k_161_40 : zD 161 40 = some (.iconst (-1), 1, none) := by decide +kernel
theorem k_161_49 : zD 161 49 = some (.iload_n 3, 1, none) := by decide +kernel
theorem k_161_50 : zD 161 50 = some (.ireturn, 1, none) := by decide +kernel
theorem kd_161_12 : zD 161 12 = some (.iload 4, 2, some [true, true, false, true, true]) := k_161_12
theorem kd_161_41 : zD 161 41 = some (.iand, 1, some [true, true, false, false, true]) := k_161_41
theorem ml_162 : zML 162 = 3 := by decide +kernel
theorem rt_162 : zRt 162 = some .int := by decide +kernel
theorem k_162_0 : zD 162 0 = some (.lload_n 1, 1, none) := by decide +kernel
theorem k_162_1 : zD 162 1 = some (.lconst 0, 1, none) := by decide +kernel
theorem k_162_2 : zD 162 2 = some (.lcmp, 1, none) := by decide +kernel
theorem k_162_3 : zD 162 3 = some (.ifCond .ne (7), 3, none) ∧ zTg 3 (7) = some 10 := by decide +kernel
theorem k_162_6 : zD 162 6 = some (.iconst (0), 1, none) := by decide +kernel
theorem k_162_7 : zD 162 7 = some (.goto (4), 3, none) ∧ zTg 7 (4) = some 11 := by decide +kernel
theorem k_162_11 : zD 162 11 = some (.ireturn, 1, some [false, false, false]) := by decide +kernel
theorem k_162_10 : zD 162 10 = some (.iload_n 0, 1, none) := by decide +kernel
theorem kd_162_11 : zD 162 11 = some (.ireturn, 1, some [false, false, false]) := k_162_11
theorem ml_163 : zML 163 = 3 := by decide +kernel
theorem rt_163 : zRt 163 = some .int := by decide +kernel
theorem k_163_0 : zD 163 0 = some (.aload_n 0, 1, none) := by decide +kernel
theorem k_163_1 : zD 163 1 = some (.aload_n 0, 1, none) := by decide +kernel
theorem k_163_2 : zD 163 2 = some (.getfield 32, 3, none) ∧ zFl (zOn 163) 32 = some (8, 10) ∧ zFc 8 10 = some 3 := by decide +kernel
theorem k_163_5 : zD 163 5 = some (.iconst (5), 1, none) := by decide +kernel
theorem k_163_6 : zD 163 6 = some (.iload_n 1, 1, none) := by decide +kernel
theorem k_163_7 : zD 163 7 = some (.imul, 1, none) := by decide +kernel
theorem k_163_8 : zD 163 8 = some (.iload_n 2, 1, none) := by decide +kernel
theorem k_163_9 : zD 163 9 = some (.iadd, 1, none) := by decide +kernel
theorem k_163_10 : zD 163 10 = some (.laload, 1, none) := by decide +kernel
theorem k_163_11 : zD 163 11 = some (.invokevirtual 234, 3, none) ∧ zCk (zOn 163) 234 = some (0, 153) ∧ zNp 153 = 1 ∧ zML 153 = 5 ∧ zCo[8]? = some (zOn 153) ∧ (zRt 153 = some .int ∨ zRt 153 = some .boolean ∨ zRt 153 = some .char ∨ zRt 153 = some .byte) := by decide +kernel
theorem k_163_14 : zD 163 14 = some (.aload_n 0, 1, none) := by decide +kernel
theorem k_163_15 : zD 163 15 = some (.getfield 32, 3, none) ∧ zFl (zOn 163) 32 = some (8, 10) ∧ zFc 8 10 = some 3 := by decide +kernel
theorem k_163_18 : zD 163 18 = some (.iconst (5), 1, none) := by decide +kernel
theorem k_163_19 : zD 163 19 = some (.iload_n 1, 1, none) := by decide +kernel
theorem k_163_20 : zD 163 20 = some (.imul, 1, none) := by decide +kernel
theorem k_163_21 : zD 163 21 = some (.iload_n 2, 1, none) := by decide +kernel
theorem k_163_22 : zD 163 22 = some (.iadd, 1, none) := by decide +kernel
theorem k_163_23 : zD 163 23 = some (.laload, 1, none) := by decide +kernel
theorem k_163_24 : zD 163 24 = some (.invokestatic 253, 3, none) ∧ zAt.lookup (zOn 163, 253) = none ∧ zCk (zOn 163) 253 = some (1, 162) ∧ (1 = 1 ∨ 1 = 3) ∧ zNp 162 = 2 ∧ zML 162 = 3 ∧ (zRt 162 = some .int ∨ zRt 162 = some .boolean ∨ zRt 162 = some .char ∨ zRt 162 = some .byte) := by decide +kernel
theorem k_163_27 : zD 163 27 = some (.ireturn, 1, none) := by decide +kernel
theorem ml_164 : zML 164 = 3 := by decide +kernel
theorem rt_164 : zRt 164 = some .int := by decide +kernel
theorem k_164_0 : zD 164 0 = some (.aload_n 0, 1, none) := by decide +kernel
theorem k_164_1 : zD 164 1 = some (.iload_n 1, 1, none) := by decide +kernel
theorem k_164_2 : zD 164 2 = some (.iload_n 2, 1, none) := by decide +kernel
theorem k_164_3 : zD 164 3 = some (.invokevirtual 243, 3, none) ∧ zCk (zOn 164) 243 = some (0, 157) ∧ zNp 157 = 2 ∧ zML 157 = 3 ∧ zCo[8]? = some (zOn 157) ∧ (zRt 157 = some .int ∨ zRt 157 = some .boolean ∨ zRt 157 = some .char ∨ zRt 157 = some .byte) := by decide +kernel
theorem k_164_6 : zD 164 6 = some (.ifCond .eq (12), 3, none) ∧ zTg 6 (12) = some 18 := by decide +kernel
theorem k_164_18 : zD 164 18 = some (.ldc 229, 2, none) ∧ zKc (zOn 164) 229 = some (.inl (-1000000001)) := by decide +kernel
theorem k_164_20 : zD 164 20 = some (.ireturn, 1, some [false, false, false]) := by decide +kernel
theorem k_164_9 : zD 164 9 = some (.aload_n 0, 1, none) := by decide +kernel
theorem k_164_10 : zD 164 10 = some (.iload_n 1, 1, none) := by decide +kernel
theorem k_164_11 : zD 164 11 = some (.iload_n 2, 1, none) := by decide +kernel
theorem k_164_12 : zD 164 12 = some (.invokevirtual 263, 3, none) ∧ zCk (zOn 164) 263 = some (0, 165) ∧ zNp 165 = 2 ∧ zML 165 = 3 ∧ zCo[8]? = some (zOn 165) ∧ (zRt 165 = some .int ∨ zRt 165 = some .boolean ∨ zRt 165 = some .char ∨ zRt 165 = some .byte) := by decide +kernel
theorem k_164_15 : zD 164 15 = some (.goto (5), 3, none) ∧ zTg 15 (5) = some 20 := by decide +kernel
theorem kd_164_20 : zD 164 20 = some (.ireturn, 1, some [false, false, false]) := k_164_20
theorem ml_165 : zML 165 = 3 := by decide +kernel
theorem rt_165 : zRt 165 = some .int := by decide +kernel
theorem k_165_0 : zD 165 0 = some (.aload_n 0, 1, none) := by decide +kernel
theorem k_165_1 : zD 165 1 = some (.getfield 26, 3, none) ∧ zFl (zOn 165) 26 = some (8, 8) ∧ zFc 8 8 = some 3 := by decide +kernel
theorem k_165_4 : zD 165 4 = some (.iload_n 1, 1, none) := by decide +kernel
theorem k_165_5 : zD 165 5 = some (.iaload, 1, none) := by decide +kernel
theorem k_165_6 : zD 165 6 = some (.aload_n 0, 1, none) := by decide +kernel
theorem k_165_7 : zD 165 7 = some (.iload_n 1, 1, none) := by decide +kernel
theorem k_165_8 : zD 165 8 = some (.iload_n 2, 1, none) := by decide +kernel
theorem k_165_9 : zD 165 9 = some (.invokevirtual 260, 3, none) ∧ zCk (zOn 165) 260 = some (0, 163) ∧ zNp 163 = 2 ∧ zML 163 = 3 ∧ zCo[8]? = some (zOn 163) ∧ (zRt 163 = some .int ∨ zRt 163 = some .boolean ∨ zRt 163 = some .char ∨ zRt 163 = some .byte) := by decide +kernel
theorem k_165_12 : zD 165 12 = some (.iand, 1, none) := by decide +kernel
theorem k_165_13 : zD 165 13 = some (.ireturn, 1, none) := by decide +kernel
theorem ml_166 : zML 166 = 4 := by decide +kernel
theorem rt_166 : zRt 166 = some .int := by decide +kernel
theorem k_166_0 : zD 166 0 = some (.aload_n 0, 1, none) := by decide +kernel
theorem k_166_1 : zD 166 1 = some (.iload_n 1, 1, none) := by decide +kernel
theorem k_166_2 : zD 166 2 = some (.iload_n 2, 1, none) := by decide +kernel
theorem k_166_3 : zD 166 3 = some (.invokevirtual 243, 3, none) ∧ zCk (zOn 166) 243 = some (0, 157) ∧ zNp 157 = 2 ∧ zML 157 = 3 ∧ zCo[8]? = some (zOn 157) ∧ (zRt 157 = some .int ∨ zRt 157 = some .boolean ∨ zRt 157 = some .char ∨ zRt 157 = some .byte) := by decide +kernel
theorem k_166_6 : zD 166 6 = some (.ifCond .eq (21), 3, none) ∧ zTg 6 (21) = some 27 := by decide +kernel
theorem k_166_27 : zD 166 27 = some (.ldc 229, 2, some [false, false, false, false]) ∧ zKc (zOn 166) 229 = some (.inl (-1000000001)) := by decide +kernel
theorem k_166_29 : zD 166 29 = some (.ireturn, 1, some [false, false, false, false]) := by decide +kernel
theorem k_166_9 : zD 166 9 = some (.aload_n 0, 1, none) := by decide +kernel
theorem k_166_10 : zD 166 10 = some (.iload_n 3, 1, none) := by decide +kernel
theorem k_166_11 : zD 166 11 = some (.invokevirtual 226, 3, none) ∧ zCk (zOn 166) 226 = some (0, 148) ∧ zNp 148 = 1 ∧ zML 148 = 2 ∧ zCo[8]? = some (zOn 148) ∧ (zRt 148 = some .int ∨ zRt 148 = some .boolean ∨ zRt 148 = some .char ∨ zRt 148 = some .byte) := by decide +kernel
theorem k_166_14 : zD 166 14 = some (.ifCond .eq (13), 3, none) ∧ zTg 14 (13) = some 27 := by decide +kernel
theorem k_166_17 : zD 166 17 = some (.aload_n 0, 1, none) := by decide +kernel
theorem k_166_18 : zD 166 18 = some (.iload_n 1, 1, none) := by decide +kernel
theorem k_166_19 : zD 166 19 = some (.iload_n 2, 1, none) := by decide +kernel
theorem k_166_20 : zD 166 20 = some (.iload_n 3, 1, none) := by decide +kernel
theorem k_166_21 : zD 166 21 = some (.invokevirtual 271, 3, none) ∧ zCk (zOn 166) 271 = some (0, 167) ∧ zNp 167 = 3 ∧ zML 167 = 6 ∧ zCo[8]? = some (zOn 167) ∧ (zRt 167 = some .int ∨ zRt 167 = some .boolean ∨ zRt 167 = some .char ∨ zRt 167 = some .byte) := by decide +kernel
theorem k_166_24 : zD 166 24 = some (.goto (5), 3, none) ∧ zTg 24 (5) = some 29 := by decide +kernel
theorem kd_166_27 : zD 166 27 = some (.ldc 229, 2, some [false, false, false, false]) := k_166_27.1
theorem kd_166_29 : zD 166 29 = some (.ireturn, 1, some [false, false, false, false]) := k_166_29
theorem ml_167 : zML 167 = 6 := by decide +kernel
theorem rt_167 : zRt 167 = some .int := by decide +kernel
theorem k_167_0 : zD 167 0 = some (.aload_n 0, 1, none) := by decide +kernel
theorem k_167_1 : zD 167 1 = some (.getfield 32, 3, none) ∧ zFl (zOn 167) 32 = some (8, 10) ∧ zFc 8 10 = some 3 := by decide +kernel
theorem k_167_4 : zD 167 4 = some (.iconst (5), 1, none) := by decide +kernel
theorem k_167_5 : zD 167 5 = some (.iload_n 1, 1, none) := by decide +kernel
theorem k_167_6 : zD 167 6 = some (.imul, 1, none) := by decide +kernel
theorem k_167_7 : zD 167 7 = some (.iload_n 2, 1, none) := by decide +kernel
theorem k_167_8 : zD 167 8 = some (.iadd, 1, none) := by decide +kernel
theorem k_167_9 : zD 167 9 = some (.laload, 1, none) := by decide +kernel
theorem k_167_10 : zD 167 10 = some (.lstore 4, 2, none) := by decide +kernel
theorem k_167_12 : zD 167 12 = some (.lload 4, 2, none) := by decide +kernel
theorem k_167_14 : zD 167 14 = some (.lconst 0, 1, none) := by decide +kernel
theorem k_167_15 : zD 167 15 = some (.lcmp, 1, none) := by decide +kernel
theorem k_167_16 : zD 167 16 = some (.ifCond .ne (7), 3, none) ∧ zTg 16 (7) = some 23 := by decide +kernel
theorem k_167_19 : zD 167 19 = some (.iconst (0), 1, none) := by decide +kernel
theorem k_167_20 : zD 167 20 = some (.goto (24), 3, none) ∧ zTg 20 (24) = some 44 := by decide +kernel
theorem k_167_44 : zD 167 44 = some (.ireturn, 1, some [false, false, false, false, false, false]) := by decide +kernel
theorem k_167_23 : zD 167 23 = some (.ldc_w 266, 3, none) ∧ zKc (zOn 167) 266 = some (.inl 1000000) := by decide +kernel
theorem k_167_26 : zD 167 26 = some (.aload_n 0, 1, none) := by decide +kernel
theorem k_167_27 : zD 167 27 = some (.lload 4, 2, none) := by decide +kernel
theorem k_167_29 : zD 167 29 = some (.iload_n 3, 1, none) := by decide +kernel
theorem k_167_30 : zD 167 30 = some (.iconst (0), 1, none) := by decide +kernel
theorem k_167_31 : zD 167 31 = some (.invokevirtual 267, 3, none) ∧ zCk (zOn 167) 267 = some (0, 168) ∧ zNp 168 = 3 ∧ zML 168 = 8 ∧ zCo[8]? = some (zOn 168) ∧ zRt 168 = some .long := by decide +kernel
theorem k_167_34 : zD 167 34 = some (.invokestatic 222, 3, none) ∧ zAt.lookup (zOn 167, 222) = none ∧ zCk (zOn 167) 222 = some (1, 146) ∧ (1 = 1 ∨ 1 = 3) ∧ zNp 146 = 1 ∧ zML 146 = 4 ∧ (zRt 146 = some .int ∨ zRt 146 = some .boolean ∨ zRt 146 = some .char ∨ zRt 146 = some .byte) := by decide +kernel
theorem k_167_37 : zD 167 37 = some (.imul, 1, none) := by decide +kernel
theorem k_167_38 : zD 167 38 = some (.lload 4, 2, none) := by decide +kernel
theorem k_167_40 : zD 167 40 = some (.invokestatic 222, 3, none) ∧ zAt.lookup (zOn 167, 222) = none ∧ zCk (zOn 167) 222 = some (1, 146) ∧ (1 = 1 ∨ 1 = 3) ∧ zNp 146 = 1 ∧ zML 146 = 4 ∧ (zRt 146 = some .int ∨ zRt 146 = some .boolean ∨ zRt 146 = some .char ∨ zRt 146 = some .byte) := by decide +kernel
theorem k_167_43 : zD 167 43 = some (.idiv, 1, none) := by decide +kernel
theorem kd_167_44 : zD 167 44 = some (.ireturn, 1, some [false, false, false, false, false, false]) := k_167_44
theorem ml_168 : zML 168 = 8 := by decide +kernel
theorem rt_168 : zRt 168 = some .long := by decide +kernel
theorem k_168_0 : zD 168 0 = some (.lconst 0, 1, none) := by decide +kernel
theorem k_168_1 : zD 168 1 = some (.lstore 5, 2, none) := by decide +kernel
theorem k_168_3 : zD 168 3 = some (.iconst (0), 1, none) := by decide +kernel
theorem k_168_4 : zD 168 4 = some (.istore 7, 2, none) := by decide +kernel
theorem k_168_6 : zD 168 6 = some (.iload 7, 2, some [true, true, false, true, true, true, false, true]) := by decide +kernel
theorem k_168_8 : zD 168 8 = some (.iconst (1), 1, none) := by decide +kernel
theorem k_168_9 : zD 168 9 = some (.aload_n 0, 1, none) := by decide +kernel
theorem k_168_10 : zD 168 10 = some (.getfield 103, 3, none) ∧ zFl (zOn 168) 103 = some (8, 0) ∧ zFc 8 0 = some 0 := by decide +kernel
theorem k_168_13 : zD 168 13 = some (.ishl, 1, none) := by decide +kernel
theorem k_168_14 : zD 168 14 = some (.if_icmp .ge (35), 3, none) ∧ zTg 14 (35) = some 49 := by decide +kernel
theorem k_168_17 : zD 168 17 = some (.lload 5, 2, none) := by decide +kernel
theorem k_168_19 : zD 168 19 = some (.iload 7, 2, none) := by decide +kernel
theorem k_168_21 : zD 168 21 = some (.iload_n 3, 1, none) := by decide +kernel
theorem k_168_22 : zD 168 22 = some (.invokestatic 121, 3, none) ∧ zAt.lookup (zOn 168, 121) = none ∧ zCk (zOn 168) 121 = some (1, 129) ∧ (1 = 1 ∨ 1 = 3) ∧ zNp 129 = 2 ∧ zML 129 = 2 ∧ (zRt 129 = some .int ∨ zRt 129 = some .boolean ∨ zRt 129 = some .char ∨ zRt 129 = some .byte) := by decide +kernel
theorem k_168_25 : zD 168 25 = some (.iload 4, 2, none) := by decide +kernel
theorem k_168_27 : zD 168 27 = some (.if_icmp .ne (12), 3, none) ∧ zTg 27 (12) = some 39 := by decide +kernel
theorem k_168_30 : zD 168 30 = some (.lload_n 1, 1, none) := by decide +kernel
theorem k_168_31 : zD 168 31 = some (.lconst 1, 1, none) := by decide +kernel
theorem k_168_32 : zD 168 32 = some (.iload 7, 2, none) := by decide +kernel
theorem k_168_34 : zD 168 34 = some (.lshl, 1, none) := by decide +kernel
theorem k_168_35 : zD 168 35 = some (.land, 1, none) := by decide +kernel
theorem k_168_36 : zD 168 36 = some (.goto (4), 3, none) ∧ zTg 36 (4) = some 40 := by decide +kernel
theorem k_168_40 : zD 168 40 = some (.lor, 1, some [true, true, false, true, true, false, false, true]) := by decide +kernel
theorem k_168_41 : zD 168 41 = some (.lstore 5, 2, none) := by decide +kernel
theorem k_168_43 : zD 168 43 = some (.iinc 7 (1), 3, none) := by decide +kernel
theorem k_168_46 : zD 168 46 = some (.goto (-40), 3, none) ∧ zTg 46 (-40) = some 6 := by decide +kernel
theorem k_168_39 : zD 168 39 = some (.lconst 0, 1, none) := by decide +kernel
theorem k_168_49 : zD 168 49 = some (.lload 5, 2, none) := by decide +kernel
theorem k_168_51 : zD 168 51 = some (.lreturn, 1, none) := by decide +kernel
theorem kd_168_6 : zD 168 6 = some (.iload 7, 2, some [true, true, false, true, true, true, false, true]) := k_168_6
theorem kd_168_40 : zD 168 40 = some (.lor, 1, some [true, true, false, true, true, false, false, true]) := k_168_40
theorem ml_169 : zML 169 = 3 := by decide +kernel
theorem rt_169 : zRt 169 = some .int := by decide +kernel
theorem k_169_0 : zD 169 0 = some (.aload_n 0, 1, none) := by decide +kernel
theorem k_169_1 : zD 169 1 = some (.iload_n 1, 1, none) := by decide +kernel
theorem k_169_2 : zD 169 2 = some (.iload_n 2, 1, none) := by decide +kernel
theorem k_169_3 : zD 169 3 = some (.invokevirtual 243, 3, none) ∧ zCk (zOn 169) 243 = some (0, 157) ∧ zNp 157 = 2 ∧ zML 157 = 3 ∧ zCo[8]? = some (zOn 157) ∧ (zRt 157 = some .int ∨ zRt 157 = some .boolean ∨ zRt 157 = some .char ∨ zRt 157 = some .byte) := by decide +kernel
theorem k_169_6 : zD 169 6 = some (.ifCond .eq (12), 3, none) ∧ zTg 6 (12) = some 18 := by decide +kernel
theorem k_169_18 : zD 169 18 = some (.ldc 229, 2, none) ∧ zKc (zOn 169) 229 = some (.inl (-1000000001)) := by decide +kernel
theorem k_169_20 : zD 169 20 = some (.ireturn, 1, some [false, false, false]) := by decide +kernel
theorem k_169_9 : zD 169 9 = some (.aload_n 0, 1, none) := by decide +kernel
theorem k_169_10 : zD 169 10 = some (.iload_n 1, 1, none) := by decide +kernel
theorem k_169_11 : zD 169 11 = some (.iload_n 2, 1, none) := by decide +kernel
theorem k_169_12 : zD 169 12 = some (.invokevirtual 275, 3, none) ∧ zCk (zOn 169) 275 = some (0, 170) ∧ zNp 170 = 2 ∧ zML 170 = 5 ∧ zCo[8]? = some (zOn 170) ∧ (zRt 170 = some .int ∨ zRt 170 = some .boolean ∨ zRt 170 = some .char ∨ zRt 170 = some .byte) := by decide +kernel
theorem k_169_15 : zD 169 15 = some (.goto (5), 3, none) ∧ zTg 15 (5) = some 20 := by decide +kernel
theorem kd_169_20 : zD 169 20 = some (.ireturn, 1, some [false, false, false]) := k_169_20
theorem ml_170 : zML 170 = 5 := by decide +kernel
theorem rt_170 : zRt 170 = some .int := by decide +kernel
theorem k_170_0 : zD 170 0 = some (.iconst (-1), 1, none) := by decide +kernel
theorem k_170_1 : zD 170 1 = some (.istore_n 3, 1, none) := by decide +kernel
theorem k_170_2 : zD 170 2 = some (.iconst (0), 1, none) := by decide +kernel
theorem k_170_3 : zD 170 3 = some (.istore 4, 2, none) := by decide +kernel
theorem k_170_5 : zD 170 5 = some (.iload 4, 2, some [true, true, true, true, true]) := by decide +kernel
theorem k_170_7 : zD 170 7 = some (.aload_n 0, 1, none) := by decide +kernel
theorem k_170_8 : zD 170 8 = some (.getfield 103, 3, none) ∧ zFl (zOn 170) 103 = some (8, 0) ∧ zFc 8 0 = some 0 := by decide +kernel
theorem k_170_11 : zD 170 11 = some (.if_icmp .ge (52), 3, none) ∧ zTg 11 (52) = some 63 := by decide +kernel
theorem k_170_14 : zD 170 14 = some (.aload_n 0, 1, none) := by decide +kernel
theorem k_170_15 : zD 170 15 = some (.getfield 26, 3, none) ∧ zFl (zOn 170) 26 = some (8, 8) ∧ zFc 8 8 = some 3 := by decide +kernel
theorem k_170_18 : zD 170 18 = some (.iload_n 1, 1, none) := by decide +kernel
theorem k_170_19 : zD 170 19 = some (.iaload, 1, none) := by decide +kernel
theorem k_170_20 : zD 170 20 = some (.iload 4, 2, none) := by decide +kernel
theorem k_170_22 : zD 170 22 = some (.invokestatic 121, 3, none) ∧ zAt.lookup (zOn 170, 121) = none ∧ zCk (zOn 170) 121 = some (1, 129) ∧ (1 = 1 ∨ 1 = 3) ∧ zNp 129 = 2 ∧ zML 129 = 2 ∧ (zRt 129 = some .int ∨ zRt 129 = some .boolean ∨ zRt 129 = some .char ∨ zRt 129 = some .byte) := by decide +kernel
theorem k_170_25 : zD 170 25 = some (.ifCond .eq (30), 3, none) ∧ zTg 25 (30) = some 55 := by decide +kernel
theorem k_170_55 : zD 170 55 = some (.iload_n 3, 1, some [true, true, true, true, true]) := by decide +kernel
theorem k_170_56 : zD 170 56 = some (.istore_n 3, 1, some [true, true, true, false, true]) := by decide +kernel
theorem k_170_57 : zD 170 57 = some (.iinc 4 (1), 3, none) := by decide +kernel
theorem k_170_60 : zD 170 60 = some (.goto (-55), 3, none) ∧ zTg 60 (-55) = some 5 := by decide +kernel
theorem k_170_28 : zD 170 28 = some (.iload_n 3, 1, none) := by decide +kernel
theorem k_170_29 : zD 170 29 = some (.ifCond .lt (21), 3, none) ∧ zTg 29 (21) = some 50 := by decide +kernel
theorem k_170_50 : zD 170 50 = some (.iload 4, 2, some [true, true, true, false, true]) := by decide +kernel
theorem k_170_52 : zD 170 52 = some (.goto (4), 3, none) ∧ zTg 52 (4) = some 56 := by decide +kernel
theorem k_170_32 : zD 170 32 = some (.aload_n 0, 1, none) := by decide +kernel
theorem k_170_33 : zD 170 33 = some (.iload_n 1, 1, none) := by decide +kernel
theorem k_170_34 : zD 170 34 = some (.iload_n 2, 1, none) := by decide +kernel
theorem k_170_35 : zD 170 35 = some (.iload 4, 2, none) := by decide +kernel
theorem k_170_37 : zD 170 37 = some (.invokevirtual 271, 3, none) ∧ zCk (zOn 170) 271 = some (0, 167) ∧ zNp 167 = 3 ∧ zML 167 = 6 ∧ zCo[8]? = some (zOn 167) ∧ (zRt 167 = some .int ∨ zRt 167 = some .boolean ∨ zRt 167 = some .char ∨ zRt 167 = some .byte) := by decide +kernel
theorem k_170_40 : zD 170 40 = some (.aload_n 0, 1, none) := by decide +kernel
theorem k_170_41 : zD 170 41 = some (.iload_n 1, 1, none) := by decide +kernel
theorem k_170_42 : zD 170 42 = some (.iload_n 2, 1, none) := by decide +kernel
theorem k_170_43 : zD 170 43 = some (.iload_n 3, 1, none) := by decide +kernel
theorem k_170_44 : zD 170 44 = some (.invokevirtual 271, 3, none) ∧ zCk (zOn 170) 271 = some (0, 167) ∧ zNp 167 = 3 ∧ zML 167 = 6 ∧ zCo[8]? = some (zOn 167) ∧ (zRt 167 = some .int ∨ zRt 167 = some .boolean ∨ zRt 167 = some .char ∨ zRt 167 = some .byte) := by decide +kernel
theorem k_170_47 : zD 170 47 = some (.if_icmp .le (8), 3, none) ∧ zTg 47 (8) = some 55 := by decide +kernel
theorem k_170_63 : zD 170 63 = some (.iload_n 3, 1, none) := by decide +kernel
theorem k_170_64 : zD 170 64 = some (.ireturn, 1, none) := by decide +kernel
theorem kd_170_5 : zD 170 5 = some (.iload 4, 2, some [true, true, true, true, true]) := k_170_5
theorem kd_170_50 : zD 170 50 = some (.iload 4, 2, some [true, true, true, false, true]) := k_170_50
theorem kd_170_56 : zD 170 56 = some (.istore_n 3, 1, some [true, true, true, false, true]) := k_170_56
theorem ml_171 : zML 171 = 5 := by decide +kernel
theorem rt_171 : zRt 171 = some .int := by decide +kernel
theorem k_171_0 : zD 171 0 = some (.aload_n 0, 1, none) := by decide +kernel
theorem k_171_1 : zD 171 1 = some (.iload_n 1, 1, none) := by decide +kernel
theorem k_171_2 : zD 171 2 = some (.iload_n 2, 1, none) := by decide +kernel
theorem k_171_3 : zD 171 3 = some (.invokevirtual 243, 3, none) ∧ zCk (zOn 171) 243 = some (0, 157) ∧ zNp 157 = 2 ∧ zML 157 = 3 ∧ zCo[8]? = some (zOn 157) ∧ (zRt 157 = some .int ∨ zRt 157 = some .boolean ∨ zRt 157 = some .char ∨ zRt 157 = some .byte) := by decide +kernel
theorem k_171_6 : zD 171 6 = some (.ifCond .eq (48), 3, none) ∧ zTg 6 (48) = some 54 := by decide +kernel
theorem k_171_54 : zD 171 54 = some (.ldc 229, 2, some [false, false, false, false, false]) ∧ zKc (zOn 171) 229 = some (.inl (-1000000001)) := by decide +kernel
theorem k_171_56 : zD 171 56 = some (.ireturn, 1, none) := by decide +kernel
theorem k_171_9 : zD 171 9 = some (.aload_n 0, 1, none) := by decide +kernel
theorem k_171_10 : zD 171 10 = some (.iload_n 3, 1, none) := by decide +kernel
theorem k_171_11 : zD 171 11 = some (.invokevirtual 226, 3, none) ∧ zCk (zOn 171) 226 = some (0, 148) ∧ zNp 148 = 1 ∧ zML 148 = 2 ∧ zCo[8]? = some (zOn 148) ∧ (zRt 148 = some .int ∨ zRt 148 = some .boolean ∨ zRt 148 = some .char ∨ zRt 148 = some .byte) := by decide +kernel
theorem k_171_14 : zD 171 14 = some (.ifCond .eq (40), 3, none) ∧ zTg 14 (40) = some 54 := by decide +kernel
theorem k_171_17 : zD 171 17 = some (.iload 4, 2, none) := by decide +kernel
theorem k_171_19 : zD 171 19 = some (.i2l, 1, none) := by decide +kernel
theorem k_171_20 : zD 171 20 = some (.lconst 0, 1, none) := by decide +kernel
theorem k_171_21 : zD 171 21 = some (.iconst (1), 1, none) := by decide +kernel
theorem k_171_22 : zD 171 22 = some (.aload_n 0, 1, none) := by decide +kernel
theorem k_171_23 : zD 171 23 = some (.getfield 110, 3, none) ∧ zFl (zOn 171) 110 = some (8, 3) ∧ zFc 8 3 = some 0 := by decide +kernel
theorem k_171_26 : zD 171 26 = some (.ishl, 1, none) := by decide +kernel
theorem k_171_27 : zD 171 27 = some (.iconst (1), 1, none) := by decide +kernel
theorem k_171_28 : zD 171 28 = some (.isub, 1, none) := by decide +kernel
theorem k_171_29 : zD 171 29 = some (.i2l, 1, none) := by decide +kernel
theorem k_171_30 : zD 171 30 = some (.invokestatic 106, 3, none) ∧ zAt.lookup (zOn 171, 106) = none ∧ zCk (zOn 171) 106 = some (1, 132) ∧ (1 = 1 ∨ 1 = 3) ∧ zNp 132 = 3 ∧ zML 132 = 6 ∧ (zRt 132 = some .int ∨ zRt 132 = some .boolean ∨ zRt 132 = some .char ∨ zRt 132 = some .byte) := by decide +kernel
theorem k_171_33 : zD 171 33 = some (.ifCond .eq (21), 3, none) ∧ zTg 33 (21) = some 54 := by decide +kernel
theorem k_171_36 : zD 171 36 = some (.iload 4, 2, none) := by decide +kernel
theorem k_171_38 : zD 171 38 = some (.iload_n 1, 1, none) := by decide +kernel
theorem k_171_39 : zD 171 39 = some (.invokestatic 121, 3, none) ∧ zAt.lookup (zOn 171, 121) = none ∧ zCk (zOn 171) 121 = some (1, 129) ∧ (1 = 1 ∨ 1 = 3) ∧ zNp 129 = 2 ∧ zML 129 = 2 ∧ (zRt 129 = some .int ∨ zRt 129 = some .boolean ∨ zRt 129 = some .char ∨ zRt 129 = some .byte) := by decide +kernel
theorem k_171_42 : zD 171 42 = some (.ifCond .ne (12), 3, none) ∧ zTg 42 (12) = some 54 := by decide +kernel
theorem k_171_45 : zD 171 45 = some (.iload 4, 2, none) := by decide +kernel
theorem k_171_47 : zD 171 47 = some (.iload_n 2, 1, none) := by decide +kernel
theorem k_171_48 : zD 171 48 = some (.invokestatic 121, 3, none) ∧ zAt.lookup (zOn 171, 121) = none ∧ zCk (zOn 171) 121 = some (1, 129) ∧ (1 = 1 ∨ 1 = 3) ∧ zNp 129 = 2 ∧ zML 129 = 2 ∧ (zRt 129 = some .int ∨ zRt 129 = some .boolean ∨ zRt 129 = some .char ∨ zRt 129 = some .byte) := by decide +kernel
theorem k_171_51 : zD 171 51 = some (.ifCond .eq (6), 3, none) ∧ zTg 51 (6) = some 57 := by decide +kernel
theorem k_171_57 : zD 171 57 = some (.aload_n 0, 1, none) := by decide +kernel
theorem k_171_58 : zD 171 58 = some (.getfield 26, 3, none) ∧ zFl (zOn 171) 26 = some (8, 8) ∧ zFc 8 8 = some 3 := by decide +kernel
theorem k_171_61 : zD 171 61 = some (.iload_n 1, 1, none) := by decide +kernel
theorem k_171_62 : zD 171 62 = some (.iaload, 1, none) := by decide +kernel
theorem k_171_63 : zD 171 63 = some (.iload_n 3, 1, none) := by decide +kernel
theorem k_171_64 : zD 171 64 = some (.invokestatic 121, 3, none) ∧ zAt.lookup (zOn 171, 121) = none ∧ zCk (zOn 171) 121 = some (1, 129) ∧ (1 = 1 ∨ 1 = 3) ∧ zNp 129 = 2 ∧ zML 129 = 2 ∧ (zRt 129 = some .int ∨ zRt 129 = some .boolean ∨ zRt 129 = some .char ∨ zRt 129 = some .byte) := by decide +kernel
theorem k_171_67 : zD 171 67 = some (.ifCond .ne (7), 3, none) ∧ zTg 67 (7) = some 74 := by decide +kernel
theorem k_171_70 : zD 171 70 = some (.ldc_w 281, 3, none) ∧ zKc (zOn 171) 281 = some (.inl (-1000000003)) := by decide +kernel
theorem k_171_73 : zD 171 73 = some (.ireturn, 1, none) := by decide +kernel
theorem k_171_74 : zD 171 74 = some (.aload_n 0, 1, none) := by decide +kernel
theorem k_171_75 : zD 171 75 = some (.iload_n 1, 1, none) := by decide +kernel
theorem k_171_76 : zD 171 76 = some (.iload_n 2, 1, none) := by decide +kernel
theorem k_171_77 : zD 171 77 = some (.iload_n 3, 1, none) := by decide +kernel
theorem k_171_78 : zD 171 78 = some (.iload 4, 2, none) := by decide +kernel
theorem k_171_80 : zD 171 80 = some (.invokevirtual 282, 3, none) ∧ zCk (zOn 171) 282 = some (0, 172) ∧ zNp 172 = 4 ∧ zML 172 = 10 ∧ zCo[8]? = some (zOn 172) ∧ (zRt 172 = some .int ∨ zRt 172 = some .boolean ∨ zRt 172 = some .char ∨ zRt 172 = some .byte) := by decide +kernel
theorem k_171_83 : zD 171 83 = some (.ifCond .eq (7), 3, none) ∧ zTg 83 (7) = some 90 := by decide +kernel
theorem k_171_90 : zD 171 90 = some (.iconst (0), 1, none) := by decide +kernel
theorem k_171_91 : zD 171 91 = some (.ireturn, 1, some [false, false, false, false, false]) := by decide +kernel
theorem k_171_86 : zD 171 86 = some (.iconst (1), 1, none) := by decide +kernel
theorem k_171_87 : zD 171 87 = some (.goto (4), 3, none) ∧ zTg 87 (4) = some 91 := by decide +kernel
theorem kd_171_54 : zD 171 54 = some (.ldc 229, 2, some [false, false, false, false, false]) := k_171_54.1
theorem kd_171_91 : zD 171 91 = some (.ireturn, 1, some [false, false, false, false, false]) := k_171_91
theorem ml_172 : zML 172 = 10 := by decide +kernel
theorem rt_172 : zRt 172 = some .boolean := by decide +kernel
theorem k_172_0 : zD 172 0 = some (.aload_n 0, 1, none) := by decide +kernel
theorem k_172_1 : zD 172 1 = some (.getfield 26, 3, none) ∧ zFl (zOn 172) 26 = some (8, 8) ∧ zFc 8 8 = some 3 := by decide +kernel
theorem k_172_4 : zD 172 4 = some (.iload_n 2, 1, none) := by decide +kernel
theorem k_172_5 : zD 172 5 = some (.iaload, 1, none) := by decide +kernel
theorem k_172_6 : zD 172 6 = some (.iload_n 3, 1, none) := by decide +kernel
theorem k_172_7 : zD 172 7 = some (.invokestatic 121, 3, none) ∧ zAt.lookup (zOn 172, 121) = none ∧ zCk (zOn 172) 121 = some (1, 129) ∧ (1 = 1 ∨ 1 = 3) ∧ zNp 129 = 2 ∧ zML 129 = 2 ∧ (zRt 129 = some .int ∨ zRt 129 = some .boolean ∨ zRt 129 = some .char ∨ zRt 129 = some .byte) := by decide +kernel
theorem k_172_10 : zD 172 10 = some (.istore 5, 2, none) := by decide +kernel
theorem k_172_12 : zD 172 12 = some (.iload 4, 2, none) := by decide +kernel
theorem k_172_14 : zD 172 14 = some (.iconst (1), 1, none) := by decide +kernel
theorem k_172_15 : zD 172 15 = some (.iload_n 1, 1, none) := by decide +kernel
theorem k_172_16 : zD 172 16 = some (.ishl, 1, none) := by decide +kernel
theorem k_172_17 : zD 172 17 = some (.ior, 1, none) := by decide +kernel
theorem k_172_18 : zD 172 18 = some (.iconst (1), 1, none) := by decide +kernel
theorem k_172_19 : zD 172 19 = some (.iload_n 2, 1, none) := by decide +kernel
theorem k_172_20 : zD 172 20 = some (.ishl, 1, none) := by decide +kernel
theorem k_172_21 : zD 172 21 = some (.ior, 1, none) := by decide +kernel
theorem k_172_22 : zD 172 22 = some (.istore 6, 2, none) := by decide +kernel
theorem k_172_24 : zD 172 24 = some (.iconst (0), 1, none) := by decide +kernel
theorem k_172_25 : zD 172 25 = some (.istore 7, 2, none) := by decide +kernel
theorem k_172_27 : zD 172 27 = some (.iload 7, 2, some [true, true, true, true, true, true, true, true, false, false]) := by decide +kernel
theorem k_172_29 : zD 172 29 = some (.aload_n 0, 1, none) := by decide +kernel
theorem k_172_30 : zD 172 30 = some (.getfield 110, 3, none) ∧ zFl (zOn 172) 110 = some (8, 3) ∧ zFc 8 3 = some 0 := by decide +kernel
theorem k_172_33 : zD 172 33 = some (.if_icmp .ge (188), 3, none) ∧ zTg 33 (188) = some 221 := by decide +kernel
theorem k_172_36 : zD 172 36 = some (.iload 6, 2, none) := by decide +kernel
theorem k_172_38 : zD 172 38 = some (.iload 7, 2, none) := by decide +kernel
theorem k_172_40 : zD 172 40 = some (.invokestatic 121, 3, none) ∧ zAt.lookup (zOn 172, 121) = none ∧ zCk (zOn 172) 121 = some (1, 129) ∧ (1 = 1 ∨ 1 = 3) ∧ zNp 129 = 2 ∧ zML 129 = 2 ∧ (zRt 129 = some .int ∨ zRt 129 = some .boolean ∨ zRt 129 = some .char ∨ zRt 129 = some .byte) := by decide +kernel
theorem k_172_43 : zD 172 43 = some (.ifCond .eq (172), 3, none) ∧ zTg 43 (172) = some 215 := by decide +kernel
theorem k_172_215 : zD 172 215 = some (.iinc 7 (1), 3, some [true, true, true, true, true, true, true, true, false, false]) := by decide +kernel
theorem k_172_218 : zD 172 218 = some (.goto (-191), 3, none) ∧ zTg 218 (-191) = some 27 := by decide +kernel
theorem k_172_46 : zD 172 46 = some (.iconst (5), 1, none) := by decide +kernel
theorem k_172_47 : zD 172 47 = some (.iload 7, 2, none) := by decide +kernel
theorem k_172_49 : zD 172 49 = some (.imul, 1, none) := by decide +kernel
theorem k_172_50 : zD 172 50 = some (.istore 8, 2, none) := by decide +kernel
theorem k_172_52 : zD 172 52 = some (.aload_n 0, 1, none) := by decide +kernel
theorem k_172_53 : zD 172 53 = some (.getfield 32, 3, none) ∧ zFl (zOn 172) 32 = some (8, 10) ∧ zFc 8 10 = some 3 := by decide +kernel
theorem k_172_56 : zD 172 56 = some (.iload 8, 2, none) := by decide +kernel
theorem k_172_58 : zD 172 58 = some (.iload_n 2, 1, none) := by decide +kernel
theorem k_172_59 : zD 172 59 = some (.iadd, 1, none) := by decide +kernel
theorem k_172_60 : zD 172 60 = some (.iload 7, 2, none) := by decide +kernel
theorem k_172_62 : zD 172 62 = some (.iload_n 2, 1, none) := by decide +kernel
theorem k_172_63 : zD 172 63 = some (.if_icmp .ne (15), 3, none) ∧ zTg 63 (15) = some 78 := by decide +kernel
theorem k_172_66 : zD 172 66 = some (.aload_n 0, 1, none) := by decide +kernel
theorem k_172_67 : zD 172 67 = some (.getfield 32, 3, none) ∧ zFl (zOn 172) 32 = some (8, 10) ∧ zFc 8 10 = some 3 := by decide +kernel
theorem k_172_70 : zD 172 70 = some (.iload 8, 2, none) := by decide +kernel
theorem k_172_72 : zD 172 72 = some (.iload_n 2, 1, none) := by decide +kernel
theorem k_172_73 : zD 172 73 = some (.iadd, 1, none) := by decide +kernel
theorem k_172_74 : zD 172 74 = some (.laload, 1, none) := by decide +kernel
theorem k_172_75 : zD 172 75 = some (.goto (24), 3, none) ∧ zTg 75 (24) = some 99 := by decide +kernel
theorem k_172_78 : zD 172 78 = some (.aload_n 0, 1, none) := by decide +kernel
theorem k_172_79 : zD 172 79 = some (.aload_n 0, 1, none) := by decide +kernel
theorem k_172_80 : zD 172 80 = some (.aload_n 0, 1, none) := by decide +kernel
theorem k_172_81 : zD 172 81 = some (.getfield 32, 3, none) ∧ zFl (zOn 172) 32 = some (8, 10) ∧ zFc 8 10 = some 3 := by decide +kernel
theorem k_172_84 : zD 172 84 = some (.iload 8, 2, none) := by decide +kernel
theorem k_172_86 : zD 172 86 = some (.iload_n 2, 1, none) := by decide +kernel
theorem k_172_87 : zD 172 87 = some (.iadd, 1, none) := by decide +kernel
theorem k_172_88 : zD 172 88 = some (.laload, 1, none) := by decide +kernel
theorem k_172_89 : zD 172 89 = some (.iload_n 3, 1, none) := by decide +kernel
theorem k_172_90 : zD 172 90 = some (.iload 5, 2, none) := by decide +kernel
theorem k_172_92 : zD 172 92 = some (.invokevirtual 267, 3, none) ∧ zCk (zOn 172) 267 = some (0, 168) ∧ zNp 168 = 3 ∧ zML 168 = 8 ∧ zCo[8]? = some (zOn 168) ∧ zRt 168 = some .long := by decide +kernel
theorem k_172_95 : zD 172 95 = some (.iload_n 3, 1, none) := by decide +kernel
theorem k_172_96 : zD 172 96 = some (.invokevirtual 278, 3, none) ∧ zCk (zOn 172) 278 = some (0, 173) ∧ zNp 173 = 2 ∧ zML 173 = 7 ∧ zCo[8]? = some (zOn 173) ∧ zRt 173 = some .long := by decide +kernel
theorem k_172_221 : zD 172 221 = some (.iconst (0), 1, none) := by decide +kernel
theorem k_172_222 : zD 172 222 = some (.istore 7, 2, none) := by decide +kernel
theorem k_172_99 : zD 172 99 = some (.lastore, 1, some [true, true, true, true, true, true, true, true, true, false]) := by decide +kernel
theorem k_172_100 : zD 172 100 = some (.aload_n 0, 1, none) := by decide +kernel
theorem k_172_101 : zD 172 101 = some (.getfield 32, 3, none) ∧ zFl (zOn 172) 32 = some (8, 10) ∧ zFc 8 10 = some 3 := by decide +kernel
theorem k_172_104 : zD 172 104 = some (.iload 8, 2, none) := by decide +kernel
theorem k_172_106 : zD 172 106 = some (.iload_n 1, 1, none) := by decide +kernel
theorem k_172_107 : zD 172 107 = some (.iadd, 1, none) := by decide +kernel
theorem k_172_108 : zD 172 108 = some (.iload 7, 2, none) := by decide +kernel
theorem k_172_110 : zD 172 110 = some (.iload_n 1, 1, none) := by decide +kernel
theorem k_172_111 : zD 172 111 = some (.if_icmp .ne (15), 3, none) ∧ zTg 111 (15) = some 126 := by decide +kernel
theorem k_172_114 : zD 172 114 = some (.aload_n 0, 1, none) := by decide +kernel
theorem k_172_115 : zD 172 115 = some (.getfield 32, 3, none) ∧ zFl (zOn 172) 32 = some (8, 10) ∧ zFc 8 10 = some 3 := by decide +kernel
theorem k_172_118 : zD 172 118 = some (.iload 8, 2, none) := by decide +kernel
theorem k_172_120 : zD 172 120 = some (.iload_n 1, 1, none) := by decide +kernel
theorem k_172_121 : zD 172 121 = some (.iadd, 1, none) := by decide +kernel
theorem k_172_122 : zD 172 122 = some (.laload, 1, none) := by decide +kernel
theorem k_172_123 : zD 172 123 = some (.goto (18), 3, none) ∧ zTg 123 (18) = some 141 := by decide +kernel
theorem k_172_141 : zD 172 141 = some (.lastore, 1, some [true, true, true, true, true, true, true, true, true, false]) := by decide +kernel
theorem k_172_142 : zD 172 142 = some (.iconst (0), 1, none) := by decide +kernel
theorem k_172_143 : zD 172 143 = some (.istore 9, 2, none) := by decide +kernel
theorem k_172_126 : zD 172 126 = some (.aload_n 0, 1, none) := by decide +kernel
theorem k_172_127 : zD 172 127 = some (.aload_n 0, 1, none) := by decide +kernel
theorem k_172_128 : zD 172 128 = some (.getfield 32, 3, none) ∧ zFl (zOn 172) 32 = some (8, 10) ∧ zFc 8 10 = some 3 := by decide +kernel
theorem k_172_131 : zD 172 131 = some (.iload 8, 2, none) := by decide +kernel
theorem k_172_133 : zD 172 133 = some (.iload_n 1, 1, none) := by decide +kernel
theorem k_172_134 : zD 172 134 = some (.iadd, 1, none) := by decide +kernel
theorem k_172_135 : zD 172 135 = some (.laload, 1, none) := by decide +kernel
theorem k_172_136 : zD 172 136 = some (.iload_n 3, 1, none) := by decide +kernel
theorem k_172_137 : zD 172 137 = some (.iconst (1), 1, none) := by decide +kernel
theorem k_172_138 : zD 172 138 = some (.invokevirtual 267, 3, none) ∧ zCk (zOn 172) 267 = some (0, 168) ∧ zNp 168 = 3 ∧ zML 168 = 8 ∧ zCo[8]? = some (zOn 168) ∧ zRt 168 = some .long := by decide +kernel
theorem k_172_145 : zD 172 145 = some (.iload 9, 2, some [true, true, true, true, true, true, true, true, true, true]) := by decide +kernel
theorem k_172_147 : zD 172 147 = some (.aload_n 0, 1, none) := by decide +kernel
theorem k_172_148 : zD 172 148 = some (.getfield 110, 3, none) ∧ zFl (zOn 172) 110 = some (8, 3) ∧ zFc 8 3 = some 0 := by decide +kernel
theorem k_172_151 : zD 172 151 = some (.if_icmp .ge (64), 3, none) ∧ zTg 151 (64) = some 215 := by decide +kernel
theorem k_172_154 : zD 172 154 = some (.aload_n 0, 1, none) := by decide +kernel
theorem k_172_155 : zD 172 155 = some (.getfield 32, 3, none) ∧ zFl (zOn 172) 32 = some (8, 10) ∧ zFc 8 10 = some 3 := by decide +kernel
theorem k_172_158 : zD 172 158 = some (.iload 8, 2, none) := by decide +kernel
theorem k_172_160 : zD 172 160 = some (.iload 9, 2, none) := by decide +kernel
theorem k_172_162 : zD 172 162 = some (.iadd, 1, none) := by decide +kernel
theorem k_172_163 : zD 172 163 = some (.iload 9, 2, none) := by decide +kernel
theorem k_172_165 : zD 172 165 = some (.iload 7, 2, none) := by decide +kernel
theorem k_172_167 : zD 172 167 = some (.if_icmp .eq (31), 3, none) ∧ zTg 167 (31) = some 198 := by decide +kernel
theorem k_172_170 : zD 172 170 = some (.iload 4, 2, none) := by decide +kernel
theorem k_172_172 : zD 172 172 = some (.iload 9, 2, none) := by decide +kernel
theorem k_172_174 : zD 172 174 = some (.invokestatic 121, 3, none) ∧ zAt.lookup (zOn 172, 121) = none ∧ zCk (zOn 172) 121 = some (1, 129) ∧ (1 = 1 ∨ 1 = 3) ∧ zNp 129 = 2 ∧ zML 129 = 2 ∧ (zRt 129 = some .int ∨ zRt 129 = some .boolean ∨ zRt 129 = some .char ∨ zRt 129 = some .byte) := by decide +kernel
theorem k_172_177 : zD 172 177 = some (.ifCond .eq (21), 3, none) ∧ zTg 177 (21) = some 198 := by decide +kernel
theorem k_172_180 : zD 172 180 = some (.aload_n 0, 1, none) := by decide +kernel
theorem k_172_181 : zD 172 181 = some (.aload_n 0, 1, none) := by decide +kernel
theorem k_172_182 : zD 172 182 = some (.getfield 32, 3, none) ∧ zFl (zOn 172) 32 = some (8, 10) ∧ zFc 8 10 = some 3 := by decide +kernel
theorem k_172_185 : zD 172 185 = some (.iload 8, 2, none) := by decide +kernel
theorem k_172_187 : zD 172 187 = some (.iload 9, 2, none) := by decide +kernel
theorem k_172_189 : zD 172 189 = some (.iadd, 1, none) := by decide +kernel
theorem k_172_190 : zD 172 190 = some (.laload, 1, none) := by decide +kernel
theorem k_172_191 : zD 172 191 = some (.iload_n 3, 1, none) := by decide +kernel
theorem k_172_192 : zD 172 192 = some (.invokevirtual 278, 3, none) ∧ zCk (zOn 172) 278 = some (0, 173) ∧ zNp 173 = 2 ∧ zML 173 = 7 ∧ zCo[8]? = some (zOn 173) ∧ zRt 173 = some .long := by decide +kernel
theorem k_172_195 : zD 172 195 = some (.goto (13), 3, none) ∧ zTg 195 (13) = some 208 := by decide +kernel
theorem k_172_208 : zD 172 208 = some (.lastore, 1, some [true, true, true, true, true, true, true, true, true, true]) := by decide +kernel
theorem k_172_209 : zD 172 209 = some (.iinc 9 (1), 3, none) := by decide +kernel
theorem k_172_212 : zD 172 212 = some (.goto (-67), 3, none) ∧ zTg 212 (-67) = some 145 := by decide +kernel
theorem k_172_198 : zD 172 198 = some (.aload_n 0, 1, some [true, true, true, true, true, true, true, true, true, true]) := by decide +kernel
theorem k_172_199 : zD 172 199 = some (.getfield 32, 3, none) ∧ zFl (zOn 172) 32 = some (8, 10) ∧ zFc 8 10 = some 3 := by decide +kernel
theorem k_172_202 : zD 172 202 = some (.iload 8, 2, none) := by decide +kernel
theorem k_172_204 : zD 172 204 = some (.iload 9, 2, none) := by decide +kernel
theorem k_172_206 : zD 172 206 = some (.iadd, 1, none) := by decide +kernel
theorem k_172_207 : zD 172 207 = some (.laload, 1, none) := by decide +kernel
theorem k_172_224 : zD 172 224 = some (.iload 7, 2, some [true, true, true, true, true, true, false, true, false, false]) := by decide +kernel
theorem k_172_226 : zD 172 226 = some (.aload_n 0, 1, none) := by decide +kernel
theorem k_172_227 : zD 172 227 = some (.getfield 110, 3, none) ∧ zFl (zOn 172) 110 = some (8, 3) ∧ zFc 8 3 = some 0 := by decide +kernel
theorem k_172_230 : zD 172 230 = some (.if_icmp .ge (58), 3, none) ∧ zTg 230 (58) = some 288 := by decide +kernel
theorem k_172_233 : zD 172 233 = some (.aload_n 0, 1, none) := by decide +kernel
theorem k_172_234 : zD 172 234 = some (.getfield 26, 3, none) ∧ zFl (zOn 172) 26 = some (8, 8) ∧ zFc 8 8 = some 3 := by decide +kernel
theorem k_172_237 : zD 172 237 = some (.iload 7, 2, none) := by decide +kernel
theorem k_172_239 : zD 172 239 = some (.iload 7, 2, none) := by decide +kernel
theorem k_172_241 : zD 172 241 = some (.iload_n 2, 1, none) := by decide +kernel
theorem k_172_242 : zD 172 242 = some (.if_icmp .eq (13), 3, none) ∧ zTg 242 (13) = some 255 := by decide +kernel
theorem k_172_245 : zD 172 245 = some (.iload 4, 2, none) := by decide +kernel
theorem k_172_247 : zD 172 247 = some (.iload 7, 2, none) := by decide +kernel
theorem k_172_249 : zD 172 249 = some (.invokestatic 121, 3, none) ∧ zAt.lookup (zOn 172, 121) = none ∧ zCk (zOn 172) 121 = some (1, 129) ∧ (1 = 1 ∨ 1 = 3) ∧ zNp 129 = 2 ∧ zML 129 = 2 ∧ (zRt 129 = some .int ∨ zRt 129 = some .boolean ∨ zRt 129 = some .char ∨ zRt 129 = some .byte) := by decide +kernel
theorem k_172_252 : zD 172 252 = some (.ifCond .eq (22), 3, none) ∧ zTg 252 (22) = some 274 := by decide +kernel
theorem k_172_274 : zD 172 274 = some (.aload_n 0, 1, none) := by decide +kernel
theorem k_172_275 : zD 172 275 = some (.getfield 26, 3, none) ∧ zFl (zOn 172) 26 = some (8, 8) ∧ zFc 8 8 = some 3 := by decide +kernel
theorem k_172_278 : zD 172 278 = some (.iload 7, 2, none) := by decide +kernel
theorem k_172_280 : zD 172 280 = some (.iaload, 1, none) := by decide +kernel
theorem k_172_281 : zD 172 281 = some (.iastore, 1, some [true, true, true, true, true, true, false, true, false, false]) := by decide +kernel
theorem k_172_282 : zD 172 282 = some (.iinc 7 (1), 3, none) := by decide +kernel
theorem k_172_285 : zD 172 285 = some (.goto (-61), 3, none) ∧ zTg 285 (-61) = some 224 := by decide +kernel
theorem k_172_288 : zD 172 288 = some (.aload_n 0, 1, none) := by decide +kernel
theorem k_172_289 : zD 172 289 = some (.getfield 36, 3, none) ∧ zFl (zOn 172) 36 = some (8, 11) ∧ zFc 8 11 = some 3 := by decide +kernel
theorem k_172_292 : zD 172 292 = some (.iload_n 1, 1, none) := by decide +kernel
theorem k_172_293 : zD 172 293 = some (.dup2, 1, none) := by decide +kernel
theorem k_172_294 : zD 172 294 = some (.iaload, 1, none) := by decide +kernel
theorem k_172_295 : zD 172 295 = some (.iload 5, 2, none) := by decide +kernel
theorem k_172_297 : zD 172 297 = some (.ifCond .eq (7), 3, none) ∧ zTg 297 (7) = some 304 := by decide +kernel
theorem k_172_304 : zD 172 304 = some (.iconst (0), 1, none) := by decide +kernel
theorem k_172_300 : zD 172 300 = some (.iconst (1), 1, none) := by decide +kernel
theorem k_172_301 : zD 172 301 = some (.goto (4), 3, none) ∧ zTg 301 (4) = some 305 := by decide +kernel
theorem k_172_255 : zD 172 255 = some (.aload_n 0, 1, some [true, true, true, true, true, true, false, true, false, false]) := by decide +kernel
theorem k_172_256 : zD 172 256 = some (.getfield 23, 3, none) ∧ zFl (zOn 172) 23 = some (8, 6) ∧ zFc 8 6 = some 3 := by decide +kernel
theorem k_172_259 : zD 172 259 = some (.aload_n 0, 1, none) := by decide +kernel
theorem k_172_260 : zD 172 260 = some (.getfield 26, 3, none) ∧ zFl (zOn 172) 26 = some (8, 8) ∧ zFc 8 8 = some 3 := by decide +kernel
theorem k_172_263 : zD 172 263 = some (.iload 7, 2, none) := by decide +kernel
theorem k_172_265 : zD 172 265 = some (.iaload, 1, none) := by decide +kernel
theorem k_172_266 : zD 172 266 = some (.iconst (1), 1, none) := by decide +kernel
theorem k_172_267 : zD 172 267 = some (.iload_n 3, 1, none) := by decide +kernel
theorem k_172_268 : zD 172 268 = some (.ishl, 1, none) := by decide +kernel
theorem k_172_269 : zD 172 269 = some (.ior, 1, none) := by decide +kernel
theorem k_172_270 : zD 172 270 = some (.iaload, 1, none) := by decide +kernel
theorem k_172_271 : zD 172 271 = some (.goto (10), 3, none) ∧ zTg 271 (10) = some 281 := by decide +kernel
theorem k_172_305 : zD 172 305 = some (.iadd, 1, some [true, true, true, true, true, true, false, false, false, false]) := by decide +kernel
theorem k_172_306 : zD 172 306 = some (.iastore, 1, none) := by decide +kernel
theorem k_172_307 : zD 172 307 = some (.aload_n 0, 1, none) := by decide +kernel
theorem k_172_308 : zD 172 308 = some (.getfield 133, 3, none) ∧ zFl (zOn 172) 133 = some (8, 12) ∧ zFc 8 12 = some 0 := by decide +kernel
theorem k_172_311 : zD 172 311 = some (.bipush (60), 2, none) := by decide +kernel
theorem k_172_313 : zD 172 313 = some (.if_icmp .ge (91), 3, none) ∧ zTg 313 (91) = some 404 := by decide +kernel
theorem k_172_316 : zD 172 316 = some (.aload_n 0, 1, none) := by decide +kernel
theorem k_172_317 : zD 172 317 = some (.getfield 39, 3, none) ∧ zFl (zOn 172) 39 = some (8, 13) ∧ zFc 8 13 = some 3 := by decide +kernel
theorem k_172_320 : zD 172 320 = some (.iconst (5), 1, none) := by decide +kernel
theorem k_172_321 : zD 172 321 = some (.aload_n 0, 1, none) := by decide +kernel
theorem k_172_322 : zD 172 322 = some (.getfield 133, 3, none) ∧ zFl (zOn 172) 133 = some (8, 12) ∧ zFc 8 12 = some 0 := by decide +kernel
theorem k_172_325 : zD 172 325 = some (.imul, 1, none) := by decide +kernel
theorem k_172_326 : zD 172 326 = some (.iload_n 1, 1, none) := by decide +kernel
theorem k_172_327 : zD 172 327 = some (.iastore, 1, none) := by decide +kernel
theorem k_172_328 : zD 172 328 = some (.aload_n 0, 1, none) := by decide +kernel
theorem k_172_329 : zD 172 329 = some (.getfield 39, 3, none) ∧ zFl (zOn 172) 39 = some (8, 13) ∧ zFc 8 13 = some 3 := by decide +kernel
theorem k_172_332 : zD 172 332 = some (.iconst (5), 1, none) := by decide +kernel
theorem k_172_333 : zD 172 333 = some (.aload_n 0, 1, none) := by decide +kernel
theorem k_172_334 : zD 172 334 = some (.getfield 133, 3, none) ∧ zFl (zOn 172) 133 = some (8, 12) ∧ zFc 8 12 = some 0 := by decide +kernel
theorem k_172_337 : zD 172 337 = some (.imul, 1, none) := by decide +kernel
theorem k_172_338 : zD 172 338 = some (.iconst (1), 1, none) := by decide +kernel
theorem k_172_339 : zD 172 339 = some (.iadd, 1, none) := by decide +kernel
theorem k_172_340 : zD 172 340 = some (.iload_n 2, 1, none) := by decide +kernel
theorem k_172_341 : zD 172 341 = some (.iastore, 1, none) := by decide +kernel
theorem k_172_342 : zD 172 342 = some (.aload_n 0, 1, none) := by decide +kernel
theorem k_172_343 : zD 172 343 = some (.getfield 39, 3, none) ∧ zFl (zOn 172) 39 = some (8, 13) ∧ zFc 8 13 = some 3 := by decide +kernel
theorem k_172_346 : zD 172 346 = some (.iconst (5), 1, none) := by decide +kernel
theorem k_172_347 : zD 172 347 = some (.aload_n 0, 1, none) := by decide +kernel
theorem k_172_348 : zD 172 348 = some (.getfield 133, 3, none) ∧ zFl (zOn 172) 133 = some (8, 12) ∧ zFc 8 12 = some 0 := by decide +kernel
theorem k_172_351 : zD 172 351 = some (.imul, 1, none) := by decide +kernel
theorem k_172_352 : zD 172 352 = some (.iconst (2), 1, none) := by decide +kernel
theorem k_172_353 : zD 172 353 = some (.iadd, 1, none) := by decide +kernel
theorem k_172_354 : zD 172 354 = some (.iload_n 3, 1, none) := by decide +kernel
theorem k_172_355 : zD 172 355 = some (.iastore, 1, none) := by decide +kernel
theorem k_172_356 : zD 172 356 = some (.aload_n 0, 1, none) := by decide +kernel
theorem k_172_357 : zD 172 357 = some (.getfield 39, 3, none) ∧ zFl (zOn 172) 39 = some (8, 13) ∧ zFc 8 13 = some 3 := by decide +kernel
theorem k_172_360 : zD 172 360 = some (.iconst (5), 1, none) := by decide +kernel
theorem k_172_361 : zD 172 361 = some (.aload_n 0, 1, none) := by decide +kernel
theorem k_172_362 : zD 172 362 = some (.getfield 133, 3, none) ∧ zFl (zOn 172) 133 = some (8, 12) ∧ zFc 8 12 = some 0 := by decide +kernel
theorem k_172_365 : zD 172 365 = some (.imul, 1, none) := by decide +kernel
theorem k_172_366 : zD 172 366 = some (.iconst (3), 1, none) := by decide +kernel
theorem k_172_367 : zD 172 367 = some (.iadd, 1, none) := by decide +kernel
theorem k_172_368 : zD 172 368 = some (.iload 4, 2, none) := by decide +kernel
theorem k_172_370 : zD 172 370 = some (.iastore, 1, none) := by decide +kernel
theorem k_172_371 : zD 172 371 = some (.aload_n 0, 1, none) := by decide +kernel
theorem k_172_372 : zD 172 372 = some (.getfield 39, 3, none) ∧ zFl (zOn 172) 39 = some (8, 13) ∧ zFc 8 13 = some 3 := by decide +kernel
theorem k_172_375 : zD 172 375 = some (.iconst (5), 1, none) := by decide +kernel
theorem k_172_376 : zD 172 376 = some (.aload_n 0, 1, none) := by decide +kernel
theorem k_172_377 : zD 172 377 = some (.getfield 133, 3, none) ∧ zFl (zOn 172) 133 = some (8, 12) ∧ zFc 8 12 = some 0 := by decide +kernel
theorem k_172_380 : zD 172 380 = some (.imul, 1, none) := by decide +kernel
theorem k_172_381 : zD 172 381 = some (.iconst (4), 1, none) := by decide +kernel
theorem k_172_382 : zD 172 382 = some (.iadd, 1, none) := by decide +kernel
theorem k_172_383 : zD 172 383 = some (.iload 5, 2, none) := by decide +kernel
theorem k_172_385 : zD 172 385 = some (.ifCond .eq (7), 3, none) ∧ zTg 385 (7) = some 392 := by decide +kernel
theorem k_172_392 : zD 172 392 = some (.iconst (0), 1, none) := by decide +kernel
theorem k_172_388 : zD 172 388 = some (.iconst (1), 1, none) := by decide +kernel
theorem k_172_389 : zD 172 389 = some (.goto (4), 3, none) ∧ zTg 389 (4) = some 393 := by decide +kernel
theorem k_172_404 : zD 172 404 = some (.iload 5, 2, some [false, false, false, false, false, true, false, false, false, false]) := by decide +kernel
theorem k_172_406 : zD 172 406 = some (.ireturn, 1, none) := by decide +kernel
theorem k_172_393 : zD 172 393 = some (.iastore, 1, some [true, false, false, false, false, true, false, false, false, false]) := by decide +kernel
theorem k_172_394 : zD 172 394 = some (.aload_n 0, 1, none) := by decide +kernel
theorem k_172_395 : zD 172 395 = some (.dup, 1, none) := by decide +kernel
theorem k_172_396 : zD 172 396 = some (.getfield 133, 3, none) ∧ zFl (zOn 172) 133 = some (8, 12) ∧ zFc 8 12 = some 0 := by decide +kernel
theorem k_172_399 : zD 172 399 = some (.iconst (1), 1, none) := by decide +kernel
theorem k_172_400 : zD 172 400 = some (.iadd, 1, none) := by decide +kernel
theorem k_172_401 : zD 172 401 = some (.putfield 133, 3, none) ∧ zFl (zOn 172) 133 = some (8, 12) ∧ zFc 8 12 = some 0 := by decide +kernel
theorem kd_172_27 : zD 172 27 = some (.iload 7, 2, some [true, true, true, true, true, true, true, true, false, false]) := k_172_27
theorem kd_172_99 : zD 172 99 = some (.lastore, 1, some [true, true, true, true, true, true, true, true, true, false]) := k_172_99
theorem kd_172_145 : zD 172 145 = some (.iload 9, 2, some [true, true, true, true, true, true, true, true, true, true]) := k_172_145
theorem kd_172_198 : zD 172 198 = some (.aload_n 0, 1, some [true, true, true, true, true, true, true, true, true, true]) := k_172_198
theorem kd_172_215 : zD 172 215 = some (.iinc 7 (1), 3, some [true, true, true, true, true, true, true, true, false, false]) := k_172_215
theorem kd_172_224 : zD 172 224 = some (.iload 7, 2, some [true, true, true, true, true, true, false, true, false, false]) := k_172_224
theorem kd_172_255 : zD 172 255 = some (.aload_n 0, 1, some [true, true, true, true, true, true, false, true, false, false]) := k_172_255
theorem kd_172_305 : zD 172 305 = some (.iadd, 1, some [true, true, true, true, true, true, false, false, false, false]) := k_172_305
theorem kd_172_393 : zD 172 393 = some (.iastore, 1, some [true, false, false, false, false, true, false, false, false, false]) := k_172_393
theorem kd_172_404 : zD 172 404 = some (.iload 5, 2, some [false, false, false, false, false, true, false, false, false, false]) := k_172_404
theorem ml_173 : zML 173 = 7 := by decide +kernel
theorem rt_173 : zRt 173 = some .long := by decide +kernel
theorem k_173_0 : zD 173 0 = some (.lconst 0, 1, none) := by decide +kernel
theorem k_173_1 : zD 173 1 = some (.lstore 4, 2, none) := by decide +kernel
theorem k_173_3 : zD 173 3 = some (.iconst (0), 1, none) := by decide +kernel
theorem k_173_4 : zD 173 4 = some (.istore 6, 2, none) := by decide +kernel
theorem k_173_6 : zD 173 6 = some (.iload 6, 2, some [true, true, false, true, true, false, true]) := by decide +kernel
theorem k_173_8 : zD 173 8 = some (.iconst (1), 1, none) := by decide +kernel
theorem k_173_9 : zD 173 9 = some (.aload_n 0, 1, none) := by decide +kernel
theorem k_173_10 : zD 173 10 = some (.getfield 103, 3, none) ∧ zFl (zOn 173) 103 = some (8, 0) ∧ zFc 8 0 = some 0 := by decide +kernel
theorem k_173_13 : zD 173 13 = some (.ishl, 1, none) := by decide +kernel
theorem k_173_14 : zD 173 14 = some (.if_icmp .ge (42), 3, none) ∧ zTg 14 (42) = some 56 := by decide +kernel
theorem k_173_17 : zD 173 17 = some (.lload 4, 2, none) := by decide +kernel
theorem k_173_19 : zD 173 19 = some (.lload_n 1, 1, none) := by decide +kernel
theorem k_173_20 : zD 173 20 = some (.iload 6, 2, none) := by decide +kernel
theorem k_173_22 : zD 173 22 = some (.lshr, 1, none) := by decide +kernel
theorem k_173_23 : zD 173 23 = some (.lconst 1, 1, none) := by decide +kernel
theorem k_173_24 : zD 173 24 = some (.land, 1, none) := by decide +kernel
theorem k_173_25 : zD 173 25 = some (.lconst 1, 1, none) := by decide +kernel
theorem k_173_26 : zD 173 26 = some (.lcmp, 1, none) := by decide +kernel
theorem k_173_27 : zD 173 27 = some (.ifCond .ne (19), 3, none) ∧ zTg 27 (19) = some 46 := by decide +kernel
theorem k_173_30 : zD 173 30 = some (.lconst 1, 1, none) := by decide +kernel
theorem k_173_31 : zD 173 31 = some (.aload_n 0, 1, none) := by decide +kernel
theorem k_173_32 : zD 173 32 = some (.getfield 23, 3, none) ∧ zFl (zOn 173) 23 = some (8, 6) ∧ zFc 8 6 = some 3 := by decide +kernel
theorem k_173_35 : zD 173 35 = some (.iload 6, 2, none) := by decide +kernel
theorem k_173_37 : zD 173 37 = some (.iconst (1), 1, none) := by decide +kernel
theorem k_173_38 : zD 173 38 = some (.iload_n 3, 1, none) := by decide +kernel
theorem k_173_39 : zD 173 39 = some (.ishl, 1, none) := by decide +kernel
theorem k_173_40 : zD 173 40 = some (.ior, 1, none) := by decide +kernel
theorem k_173_41 : zD 173 41 = some (.iaload, 1, none) := by decide +kernel
theorem k_173_42 : zD 173 42 = some (.lshl, 1, none) := by decide +kernel
theorem k_173_43 : zD 173 43 = some (.goto (4), 3, none) ∧ zTg 43 (4) = some 47 := by decide +kernel
theorem k_173_47 : zD 173 47 = some (.lor, 1, some [true, true, false, true, false, false, true]) := by decide +kernel
theorem k_173_48 : zD 173 48 = some (.lstore 4, 2, none) := by decide +kernel
theorem k_173_50 : zD 173 50 = some (.iinc 6 (1), 3, none) := by decide +kernel
theorem k_173_53 : zD 173 53 = some (.goto (-47), 3, none) ∧ zTg 53 (-47) = some 6 := by decide +kernel
theorem k_173_46 : zD 173 46 = some (.lconst 0, 1, none) := by decide +kernel
theorem k_173_56 : zD 173 56 = some (.lload 4, 2, none) := by decide +kernel
theorem k_173_58 : zD 173 58 = some (.lreturn, 1, none) := by decide +kernel
theorem kd_173_6 : zD 173 6 = some (.iload 6, 2, some [true, true, false, true, true, false, true]) := k_173_6
theorem kd_173_47 : zD 173 47 = some (.lor, 1, some [true, true, false, true, false, false, true]) := k_173_47
theorem ml_174 : zML 174 = 3 := by decide +kernel
theorem rt_174 : zRt 174 = some .int := by decide +kernel
theorem k_174_0 : zD 174 0 = some (.aload_n 0, 1, none) := by decide +kernel
theorem k_174_1 : zD 174 1 = some (.iload_n 1, 1, none) := by decide +kernel
theorem k_174_2 : zD 174 2 = some (.iload_n 2, 1, none) := by decide +kernel
theorem k_174_3 : zD 174 3 = some (.invokevirtual 243, 3, none) ∧ zCk (zOn 174) 243 = some (0, 157) ∧ zNp 157 = 2 ∧ zML 157 = 3 ∧ zCo[8]? = some (zOn 157) ∧ (zRt 157 = some .int ∨ zRt 157 = some .boolean ∨ zRt 157 = some .char ∨ zRt 157 = some .byte) := by decide +kernel
theorem k_174_6 : zD 174 6 = some (.ifCond .eq (12), 3, none) ∧ zTg 6 (12) = some 18 := by decide +kernel
theorem k_174_18 : zD 174 18 = some (.ldc 229, 2, none) ∧ zKc (zOn 174) 229 = some (.inl (-1000000001)) := by decide +kernel
theorem k_174_20 : zD 174 20 = some (.ireturn, 1, some [false, false, false]) := by decide +kernel
theorem k_174_9 : zD 174 9 = some (.aload_n 0, 1, none) := by decide +kernel
theorem k_174_10 : zD 174 10 = some (.iload_n 1, 1, none) := by decide +kernel
theorem k_174_11 : zD 174 11 = some (.iload_n 2, 1, none) := by decide +kernel
theorem k_174_12 : zD 174 12 = some (.invokevirtual 288, 3, none) ∧ zCk (zOn 174) 288 = some (0, 175) ∧ zNp 175 = 2 ∧ zML 175 = 9 ∧ zCo[8]? = some (zOn 175) ∧ (zRt 175 = some .int ∨ zRt 175 = some .boolean ∨ zRt 175 = some .char ∨ zRt 175 = some .byte) := by decide +kernel
theorem k_174_15 : zD 174 15 = some (.goto (5), 3, none) ∧ zTg 15 (5) = some 20 := by decide +kernel
theorem kd_174_20 : zD 174 20 = some (.ireturn, 1, some [false, false, false]) := k_174_20
theorem ml_175 : zML 175 = 9 := by decide +kernel
theorem rt_175 : zRt 175 = some .int := by decide +kernel
theorem k_175_0 : zD 175 0 = some (.aload_n 0, 1, none) := by decide +kernel
theorem k_175_1 : zD 175 1 = some (.iload_n 2, 1, none) := by decide +kernel
theorem k_175_2 : zD 175 2 = some (.invokevirtual 237, 3, none) ∧ zCk (zOn 175) 237 = some (0, 152) ∧ zNp 152 = 1 ∧ zML 152 = 2 ∧ zCo[8]? = some (zOn 152) ∧ (zRt 152 = some .int ∨ zRt 152 = some .boolean ∨ zRt 152 = some .char ∨ zRt 152 = some .byte) := by decide +kernel
theorem k_175_5 : zD 175 5 = some (.aload_n 0, 1, none) := by decide +kernel
theorem k_175_6 : zD 175 6 = some (.getfield 26, 3, none) ∧ zFl (zOn 175) 26 = some (8, 8) ∧ zFc 8 8 = some 3 := by decide +kernel
theorem k_175_9 : zD 175 9 = some (.iload_n 2, 1, none) := by decide +kernel
theorem k_175_10 : zD 175 10 = some (.iaload, 1, none) := by decide +kernel
theorem k_175_11 : zD 175 11 = some (.iconst (-1), 1, none) := by decide +kernel
theorem k_175_12 : zD 175 12 = some (.ixor, 1, none) := by decide +kernel
theorem k_175_13 : zD 175 13 = some (.iand, 1, none) := by decide +kernel
theorem k_175_14 : zD 175 14 = some (.istore_n 3, 1, none) := by decide +kernel
theorem k_175_15 : zD 175 15 = some (.aload_n 0, 1, none) := by decide +kernel
theorem k_175_16 : zD 175 16 = some (.getfield 32, 3, none) ∧ zFl (zOn 175) 32 = some (8, 10) ∧ zFc 8 10 = some 3 := by decide +kernel
theorem k_175_19 : zD 175 19 = some (.iconst (5), 1, none) := by decide +kernel
theorem k_175_20 : zD 175 20 = some (.iload_n 2, 1, none) := by decide +kernel
theorem k_175_21 : zD 175 21 = some (.imul, 1, none) := by decide +kernel
theorem k_175_22 : zD 175 22 = some (.iload_n 1, 1, none) := by decide +kernel
theorem k_175_23 : zD 175 23 = some (.iadd, 1, none) := by decide +kernel
theorem k_175_24 : zD 175 24 = some (.laload, 1, none) := by decide +kernel
theorem k_175_25 : zD 175 25 = some (.lstore 4, 2, none) := by decide +kernel
theorem k_175_27 : zD 175 27 = some (.lload 4, 2, none) := by decide +kernel
theorem k_175_29 : zD 175 29 = some (.lstore 6, 2, none) := by decide +kernel
theorem k_175_31 : zD 175 31 = some (.iconst (0), 1, none) := by decide +kernel
theorem k_175_32 : zD 175 32 = some (.istore 8, 2, none) := by decide +kernel
theorem k_175_34 : zD 175 34 = some (.iload 8, 2, some [true, true, true, true, true, false, true, false, true]) := by decide +kernel
theorem k_175_36 : zD 175 36 = some (.iconst (1), 1, none) := by decide +kernel
theorem k_175_37 : zD 175 37 = some (.aload_n 0, 1, none) := by decide +kernel
theorem k_175_38 : zD 175 38 = some (.getfield 103, 3, none) ∧ zFl (zOn 175) 103 = some (8, 0) ∧ zFc 8 0 = some 0 := by decide +kernel
theorem k_175_41 : zD 175 41 = some (.ishl, 1, none) := by decide +kernel
theorem k_175_42 : zD 175 42 = some (.if_icmp .ge (35), 3, none) ∧ zTg 42 (35) = some 77 := by decide +kernel
theorem k_175_45 : zD 175 45 = some (.lload 6, 2, none) := by decide +kernel
theorem k_175_47 : zD 175 47 = some (.iload 8, 2, none) := by decide +kernel
theorem k_175_49 : zD 175 49 = some (.iload_n 3, 1, none) := by decide +kernel
theorem k_175_50 : zD 175 50 = some (.iand, 1, none) := by decide +kernel
theorem k_175_51 : zD 175 51 = some (.ifCond .eq (14), 3, none) ∧ zTg 51 (14) = some 65 := by decide +kernel
theorem k_175_65 : zD 175 65 = some (.ldc2_w 286, 3, none) ∧ zKc (zOn 175) 286 = some (.inr (-1)) := by decide +kernel
theorem k_175_68 : zD 175 68 = some (.land, 1, some [true, true, true, true, true, false, false, false, true]) := by decide +kernel
theorem k_175_69 : zD 175 69 = some (.lstore 6, 2, none) := by decide +kernel
theorem k_175_71 : zD 175 71 = some (.iinc 8 (1), 3, none) := by decide +kernel
theorem k_175_74 : zD 175 74 = some (.goto (-40), 3, none) ∧ zTg 74 (-40) = some 34 := by decide +kernel
theorem k_175_54 : zD 175 54 = some (.lconst 1, 1, none) := by decide +kernel
theorem k_175_55 : zD 175 55 = some (.iload 8, 2, none) := by decide +kernel
theorem k_175_57 : zD 175 57 = some (.lshl, 1, none) := by decide +kernel
theorem k_175_58 : zD 175 58 = some (.ldc2_w 286, 3, none) ∧ zKc (zOn 175) 286 = some (.inr (-1)) := by decide +kernel
theorem k_175_61 : zD 175 61 = some (.lxor, 1, none) := by decide +kernel
theorem k_175_62 : zD 175 62 = some (.goto (6), 3, none) ∧ zTg 62 (6) = some 68 := by decide +kernel
theorem k_175_77 : zD 175 77 = some (.aload_n 0, 1, none) := by decide +kernel
theorem k_175_78 : zD 175 78 = some (.getfield 32, 3, none) ∧ zFl (zOn 175) 32 = some (8, 10) ∧ zFc 8 10 = some 3 := by decide +kernel
theorem k_175_81 : zD 175 81 = some (.iconst (5), 1, none) := by decide +kernel
theorem k_175_82 : zD 175 82 = some (.iload_n 2, 1, none) := by decide +kernel
theorem k_175_83 : zD 175 83 = some (.imul, 1, none) := by decide +kernel
theorem k_175_84 : zD 175 84 = some (.iload_n 1, 1, none) := by decide +kernel
theorem k_175_85 : zD 175 85 = some (.iadd, 1, none) := by decide +kernel
theorem k_175_86 : zD 175 86 = some (.lload 6, 2, none) := by decide +kernel
theorem k_175_88 : zD 175 88 = some (.lastore, 1, none) := by decide +kernel
theorem k_175_89 : zD 175 89 = some (.lload 4, 2, none) := by decide +kernel
theorem k_175_91 : zD 175 91 = some (.invokestatic 222, 3, none) ∧ zAt.lookup (zOn 175, 222) = none ∧ zCk (zOn 175) 222 = some (1, 146) ∧ (1 = 1 ∨ 1 = 3) ∧ zNp 146 = 1 ∧ zML 146 = 4 ∧ (zRt 146 = some .int ∨ zRt 146 = some .boolean ∨ zRt 146 = some .char ∨ zRt 146 = some .byte) := by decide +kernel
theorem k_175_94 : zD 175 94 = some (.lload 6, 2, none) := by decide +kernel
theorem k_175_96 : zD 175 96 = some (.invokestatic 222, 3, none) ∧ zAt.lookup (zOn 175, 222) = none ∧ zCk (zOn 175) 222 = some (1, 146) ∧ (1 = 1 ∨ 1 = 3) ∧ zNp 146 = 1 ∧ zML 146 = 4 ∧ (zRt 146 = some .int ∨ zRt 146 = some .boolean ∨ zRt 146 = some .char ∨ zRt 146 = some .byte) := by decide +kernel
theorem k_175_99 : zD 175 99 = some (.isub, 1, none) := by decide +kernel
theorem k_175_100 : zD 175 100 = some (.ireturn, 1, none) := by decide +kernel
theorem kd_175_34 : zD 175 34 = some (.iload 8, 2, some [true, true, true, true, true, false, true, false, true]) := k_175_34
theorem kd_175_68 : zD 175 68 = some (.land, 1, some [true, true, true, true, true, false, false, false, true]) := k_175_68
theorem ml_176 : zML 176 = 6 := by decide +kernel
theorem rt_176 : zRt 176 = some .int := by decide +kernel
theorem k_176_0 : zD 176 0 = some (.iconst (0), 1, none) := by decide +kernel
theorem k_176_1 : zD 176 1 = some (.istore_n 1, 1, none) := by decide +kernel
theorem k_176_2 : zD 176 2 = some (.iconst (0), 1, none) := by decide +kernel
theorem k_176_3 : zD 176 3 = some (.istore_n 2, 1, none) := by decide +kernel
theorem k_176_4 : zD 176 4 = some (.iload_n 2, 1, some [true, true, true, false, false, false]) := by decide +kernel
theorem k_176_5 : zD 176 5 = some (.bipush (25), 2, none) := by decide +kernel
theorem k_176_7 : zD 176 7 = some (.if_icmp .ge (68), 3, none) ∧ zTg 7 (68) = some 75 := by decide +kernel
theorem k_176_10 : zD 176 10 = some (.iload_n 2, 1, none) := by decide +kernel
theorem k_176_11 : zD 176 11 = some (.iconst (5), 1, none) := by decide +kernel
theorem k_176_12 : zD 176 12 = some (.idiv, 1, none) := by decide +kernel
theorem k_176_13 : zD 176 13 = some (.iload_n 2, 1, none) := by decide +kernel
theorem k_176_14 : zD 176 14 = some (.iconst (5), 1, none) := by decide +kernel
theorem k_176_15 : zD 176 15 = some (.irem, 1, none) := by decide +kernel
theorem k_176_16 : zD 176 16 = some (.if_icmp .eq (27), 3, none) ∧ zTg 16 (27) = some 43 := by decide +kernel
theorem k_176_19 : zD 176 19 = some (.iload_n 2, 1, none) := by decide +kernel
theorem k_176_20 : zD 176 20 = some (.iconst (5), 1, none) := by decide +kernel
theorem k_176_21 : zD 176 21 = some (.idiv, 1, none) := by decide +kernel
theorem k_176_22 : zD 176 22 = some (.aload_n 0, 1, none) := by decide +kernel
theorem k_176_23 : zD 176 23 = some (.getfield 110, 3, none) ∧ zFl (zOn 176) 110 = some (8, 3) ∧ zFc 8 3 = some 0 := by decide +kernel
theorem k_176_26 : zD 176 26 = some (.if_icmp .ge (17), 3, none) ∧ zTg 26 (17) = some 43 := by decide +kernel
theorem k_176_29 : zD 176 29 = some (.iload_n 2, 1, none) := by decide +kernel
theorem k_176_30 : zD 176 30 = some (.iconst (5), 1, none) := by decide +kernel
theorem k_176_31 : zD 176 31 = some (.irem, 1, none) := by decide +kernel
theorem k_176_32 : zD 176 32 = some (.aload_n 0, 1, none) := by decide +kernel
theorem k_176_33 : zD 176 33 = some (.getfield 110, 3, none) ∧ zFl (zOn 176) 110 = some (8, 3) ∧ zFc 8 3 = some 0 := by decide +kernel
theorem k_176_36 : zD 176 36 = some (.if_icmp .ge (7), 3, none) ∧ zTg 36 (7) = some 43 := by decide +kernel
theorem k_176_39 : zD 176 39 = some (.iconst (1), 1, none) := by decide +kernel
theorem k_176_40 : zD 176 40 = some (.goto (4), 3, none) ∧ zTg 40 (4) = some 44 := by decide +kernel
theorem k_176_75 : zD 176 75 = some (.iconst (0), 1, none) := by decide +kernel
theorem k_176_76 : zD 176 76 = some (.istore_n 2, 1, none) := by decide +kernel
theorem k_176_43 : zD 176 43 = some (.iconst (0), 1, some [true, true, true, false, false, false]) := by decide +kernel
theorem k_176_44 : zD 176 44 = some (.istore_n 3, 1, some [true, true, true, false, false, false]) := by decide +kernel
theorem k_176_45 : zD 176 45 = some (.aload_n 0, 1, none) := by decide +kernel
theorem k_176_46 : zD 176 46 = some (.getfield 57, 3, none) ∧ zFl (zOn 176) 57 = some (8, 29) ∧ zFc 8 29 = some 3 := by decide +kernel
theorem k_176_49 : zD 176 49 = some (.iload_n 2, 1, none) := by decide +kernel
theorem k_176_50 : zD 176 50 = some (.iload_n 3, 1, none) := by decide +kernel
theorem k_176_51 : zD 176 51 = some (.ifCond .eq (16), 3, none) ∧ zTg 51 (16) = some 67 := by decide +kernel
theorem k_176_67 : zD 176 67 = some (.iconst (0), 1, none) := by decide +kernel
theorem k_176_68 : zD 176 68 = some (.iastore, 1, some [true, true, true, false, false, false]) := by decide +kernel
theorem k_176_69 : zD 176 69 = some (.iinc 2 (1), 3, none) := by decide +kernel
theorem k_176_72 : zD 176 72 = some (.goto (-68), 3, none) ∧ zTg 72 (-68) = some 4 := by decide +kernel
theorem k_176_54 : zD 176 54 = some (.aload_n 0, 1, none) := by decide +kernel
theorem k_176_55 : zD 176 55 = some (.iload_n 2, 1, none) := by decide +kernel
theorem k_176_56 : zD 176 56 = some (.iconst (5), 1, none) := by decide +kernel
theorem k_176_57 : zD 176 57 = some (.idiv, 1, none) := by decide +kernel
theorem k_176_58 : zD 176 58 = some (.iload_n 2, 1, none) := by decide +kernel
theorem k_176_59 : zD 176 59 = some (.iconst (5), 1, none) := by decide +kernel
theorem k_176_60 : zD 176 60 = some (.irem, 1, none) := by decide +kernel
theorem k_176_61 : zD 176 61 = some (.invokevirtual 257, 3, none) ∧ zCk (zOn 176) 257 = some (0, 160) ∧ zNp 160 = 2 ∧ zML 160 = 3 ∧ zCo[8]? = some (zOn 160) ∧ (zRt 160 = some .int ∨ zRt 160 = some .boolean ∨ zRt 160 = some .char ∨ zRt 160 = some .byte) := by decide +kernel
theorem k_176_64 : zD 176 64 = some (.goto (4), 3, none) ∧ zTg 64 (4) = some 68 := by decide +kernel
theorem k_176_77 : zD 176 77 = some (.iload_n 2, 1, some [true, true, true, false, false, false]) := by decide +kernel
theorem k_176_78 : zD 176 78 = some (.aload_n 0, 1, none) := by decide +kernel
theorem k_176_79 : zD 176 79 = some (.getfield 110, 3, none) ∧ zFl (zOn 176) 110 = some (8, 3) ∧ zFc 8 3 = some 0 := by decide +kernel
theorem k_176_82 : zD 176 82 = some (.if_icmp .ge (51), 3, none) ∧ zTg 82 (51) = some 133 := by decide +kernel
theorem k_176_85 : zD 176 85 = some (.aload_n 0, 1, none) := by decide +kernel
theorem k_176_86 : zD 176 86 = some (.aload_n 0, 1, none) := by decide +kernel
theorem k_176_87 : zD 176 87 = some (.getfield 26, 3, none) ∧ zFl (zOn 176) 26 = some (8, 8) ∧ zFc 8 8 = some 3 := by decide +kernel
theorem k_176_90 : zD 176 90 = some (.iload_n 2, 1, none) := by decide +kernel
theorem k_176_91 : zD 176 91 = some (.iaload, 1, none) := by decide +kernel
theorem k_176_92 : zD 176 92 = some (.aload_n 0, 1, none) := by decide +kernel
theorem k_176_93 : zD 176 93 = some (.getfield 19, 3, none) ∧ zFl (zOn 176) 19 = some (8, 5) ∧ zFc 8 5 = some 0 := by decide +kernel
theorem k_176_96 : zD 176 96 = some (.invokevirtual 125, 3, none) ∧ zCk (zOn 176) 125 = some (0, 128) ∧ zNp 128 = 2 ∧ zML 128 = 5 ∧ zCo[8]? = some (zOn 128) ∧ (zRt 128 = some .int ∨ zRt 128 = some .boolean ∨ zRt 128 = some .char ∨ zRt 128 = some .byte) := by decide +kernel
theorem k_176_99 : zD 176 99 = some (.istore_n 3, 1, none) := by decide +kernel
theorem k_176_100 : zD 176 100 = some (.iload_n 1, 1, none) := by decide +kernel
theorem k_176_101 : zD 176 101 = some (.iload_n 3, 1, none) := by decide +kernel
theorem k_176_102 : zD 176 102 = some (.aload_n 0, 1, none) := by decide +kernel
theorem k_176_103 : zD 176 103 = some (.getfield 29, 3, none) ∧ zFl (zOn 176) 29 = some (8, 9) ∧ zFc 8 9 = some 3 := by decide +kernel
theorem k_176_106 : zD 176 106 = some (.iload_n 2, 1, none) := by decide +kernel
theorem k_176_107 : zD 176 107 = some (.iaload, 1, none) := by decide +kernel
theorem k_176_108 : zD 176 108 = some (.if_icmp .ne (7), 3, none) ∧ zTg 108 (7) = some 115 := by decide +kernel
theorem k_176_111 : zD 176 111 = some (.iconst (0), 1, none) := by decide +kernel
theorem k_176_112 : zD 176 112 = some (.goto (6), 3, none) ∧ zTg 112 (6) = some 118 := by decide +kernel
theorem k_176_115 : zD 176 115 = some (.iconst (1), 1, none) := by decide +kernel
theorem k_176_116 : zD 176 116 = some (.iload_n 2, 1, none) := by decide +kernel
theorem k_176_117 : zD 176 117 = some (.ishl, 1, none) := by decide +kernel
theorem k_176_133 : zD 176 133 = some (.iconst (0), 1, none) := by decide +kernel
theorem k_176_134 : zD 176 134 = some (.istore_n 2, 1, none) := by decide +kernel
theorem k_176_118 : zD 176 118 = some (.ior, 1, some [true, false, true, true, false, false]) := by decide +kernel
theorem k_176_119 : zD 176 119 = some (.istore_n 1, 1, none) := by decide +kernel
theorem k_176_120 : zD 176 120 = some (.aload_n 0, 1, none) := by decide +kernel
theorem k_176_121 : zD 176 121 = some (.getfield 29, 3, none) ∧ zFl (zOn 176) 29 = some (8, 9) ∧ zFc 8 9 = some 3 := by decide +kernel
theorem k_176_124 : zD 176 124 = some (.iload_n 2, 1, none) := by decide +kernel
theorem k_176_125 : zD 176 125 = some (.iload_n 3, 1, none) := by decide +kernel
theorem k_176_126 : zD 176 126 = some (.iastore, 1, none) := by decide +kernel
theorem k_176_127 : zD 176 127 = some (.iinc 2 (1), 3, none) := by decide +kernel
theorem k_176_130 : zD 176 130 = some (.goto (-53), 3, none) ∧ zTg 130 (-53) = some 77 := by decide +kernel
theorem k_176_135 : zD 176 135 = some (.iload_n 2, 1, some [true, true, true, false, false, false]) := by decide +kernel
theorem k_176_136 : zD 176 136 = some (.bipush (25), 2, none) := by decide +kernel
theorem k_176_138 : zD 176 138 = some (.if_icmp .ge (82), 3, none) ∧ zTg 138 (82) = some 220 := by decide +kernel
theorem k_176_141 : zD 176 141 = some (.aload_n 0, 1, none) := by decide +kernel
theorem k_176_142 : zD 176 142 = some (.getfield 32, 3, none) ∧ zFl (zOn 176) 32 = some (8, 10) ∧ zFc 8 10 = some 3 := by decide +kernel
theorem k_176_145 : zD 176 145 = some (.iload_n 2, 1, none) := by decide +kernel
theorem k_176_146 : zD 176 146 = some (.lconst 0, 1, none) := by decide +kernel
theorem k_176_147 : zD 176 147 = some (.lastore, 1, none) := by decide +kernel
theorem k_176_148 : zD 176 148 = some (.aload_n 0, 1, none) := by decide +kernel
theorem k_176_149 : zD 176 149 = some (.aload_n 0, 1, none) := by decide +kernel
theorem k_176_150 : zD 176 150 = some (.getfield 29, 3, none) ∧ zFl (zOn 176) 29 = some (8, 9) ∧ zFc 8 9 = some 3 := by decide +kernel
theorem k_176_153 : zD 176 153 = some (.iload_n 2, 1, none) := by decide +kernel
theorem k_176_154 : zD 176 154 = some (.iconst (5), 1, none) := by decide +kernel
theorem k_176_155 : zD 176 155 = some (.irem, 1, none) := by decide +kernel
theorem k_176_156 : zD 176 156 = some (.iaload, 1, none) := by decide +kernel
theorem k_176_157 : zD 176 157 = some (.invokevirtual 129, 3, none) ∧ zCk (zOn 176) 129 = some (0, 130) ∧ zNp 130 = 1 ∧ zML 130 = 5 ∧ zCo[8]? = some (zOn 130) ∧ zRt 130 = some .long := by decide +kernel
theorem k_176_160 : zD 176 160 = some (.lstore_n 3, 1, none) := by decide +kernel
theorem k_176_161 : zD 176 161 = some (.iconst (0), 1, none) := by decide +kernel
theorem k_176_162 : zD 176 162 = some (.istore 5, 2, none) := by decide +kernel
theorem k_176_220 : zD 176 220 = some (.aload_n 0, 1, none) := by decide +kernel
theorem k_176_221 : zD 176 221 = some (.iconst (0), 1, none) := by decide +kernel
theorem k_176_222 : zD 176 222 = some (.putfield 133, 3, none) ∧ zFl (zOn 176) 133 = some (8, 12) ∧ zFc 8 12 = some 0 := by decide +kernel
theorem k_176_225 : zD 176 225 = some (.iload_n 1, 1, none) := by decide +kernel
theorem k_176_226 : zD 176 226 = some (.ireturn, 1, none) := by decide +kernel
theorem k_176_164 : zD 176 164 = some (.iload 5, 2, some [true, true, true, true, false, true]) := by decide +kernel
theorem k_176_166 : zD 176 166 = some (.iconst (1), 1, none) := by decide +kernel
theorem k_176_167 : zD 176 167 = some (.aload_n 0, 1, none) := by decide +kernel
theorem k_176_168 : zD 176 168 = some (.getfield 103, 3, none) ∧ zFl (zOn 176) 103 = some (8, 0) ∧ zFc 8 0 = some 0 := by decide +kernel
theorem k_176_171 : zD 176 171 = some (.ishl, 1, none) := by decide +kernel
theorem k_176_172 : zD 176 172 = some (.if_icmp .ge (42), 3, none) ∧ zTg 172 (42) = some 214 := by decide +kernel
theorem k_176_175 : zD 176 175 = some (.aload_n 0, 1, none) := by decide +kernel
theorem k_176_176 : zD 176 176 = some (.getfield 32, 3, none) ∧ zFl (zOn 176) 32 = some (8, 10) ∧ zFc 8 10 = some 3 := by decide +kernel
theorem k_176_179 : zD 176 179 = some (.iload_n 2, 1, none) := by decide +kernel
theorem k_176_180 : zD 176 180 = some (.dup2, 1, none) := by decide +kernel
theorem k_176_181 : zD 176 181 = some (.laload, 1, none) := by decide +kernel
theorem k_176_182 : zD 176 182 = some (.aload_n 0, 1, none) := by decide +kernel
theorem k_176_183 : zD 176 183 = some (.getfield 57, 3, none) ∧ zFl (zOn 176) 57 = some (8, 29) ∧ zFc 8 29 = some 3 := by decide +kernel
theorem k_176_186 : zD 176 186 = some (.iload_n 2, 1, none) := by decide +kernel
theorem k_176_187 : zD 176 187 = some (.iaload, 1, none) := by decide +kernel
theorem k_176_188 : zD 176 188 = some (.iload 5, 2, none) := by decide +kernel
theorem k_176_190 : zD 176 190 = some (.iconst (-1), 1, none) := by decide +kernel
theorem k_176_191 : zD 176 191 = some (.ixor, 1, none) := by decide +kernel
theorem k_176_192 : zD 176 192 = some (.iand, 1, none) := by decide +kernel
theorem k_176_193 : zD 176 193 = some (.ifCond .ne (12), 3, none) ∧ zTg 193 (12) = some 205 := by decide +kernel
theorem k_176_196 : zD 176 196 = some (.lload_n 3, 1, none) := by decide +kernel
theorem k_176_197 : zD 176 197 = some (.lconst 1, 1, none) := by decide +kernel
theorem k_176_198 : zD 176 198 = some (.iload 5, 2, none) := by decide +kernel
theorem k_176_200 : zD 176 200 = some (.lshl, 1, none) := by decide +kernel
theorem k_176_201 : zD 176 201 = some (.land, 1, none) := by decide +kernel
theorem k_176_202 : zD 176 202 = some (.goto (4), 3, none) ∧ zTg 202 (4) = some 206 := by decide +kernel
theorem k_176_206 : zD 176 206 = some (.lor, 1, some [true, true, true, true, false, true]) := by decide +kernel
theorem k_176_207 : zD 176 207 = some (.lastore, 1, none) := by decide +kernel
theorem k_176_208 : zD 176 208 = some (.iinc 5 (1), 3, none) := by decide +kernel
theorem k_176_211 : zD 176 211 = some (.goto (-47), 3, none) ∧ zTg 211 (-47) = some 164 := by decide +kernel
theorem k_176_205 : zD 176 205 = some (.lconst 0, 1, none) := by decide +kernel
theorem k_176_214 : zD 176 214 = some (.iinc 2 (1), 3, none) := by decide +kernel
theorem k_176_217 : zD 176 217 = some (.goto (-82), 3, none) ∧ zTg 217 (-82) = some 135 := by decide +kernel
theorem kd_176_4 : zD 176 4 = some (.iload_n 2, 1, some [true, true, true, false, false, false]) := k_176_4
theorem kd_176_43 : zD 176 43 = some (.iconst (0), 1, some [true, true, true, false, false, false]) := k_176_43
theorem kd_176_44 : zD 176 44 = some (.istore_n 3, 1, some [true, true, true, false, false, false]) := k_176_44
theorem kd_176_68 : zD 176 68 = some (.iastore, 1, some [true, true, true, false, false, false]) := k_176_68
theorem kd_176_77 : zD 176 77 = some (.iload_n 2, 1, some [true, true, true, false, false, false]) := k_176_77
theorem kd_176_118 : zD 176 118 = some (.ior, 1, some [true, false, true, true, false, false]) := k_176_118
theorem kd_176_135 : zD 176 135 = some (.iload_n 2, 1, some [true, true, true, false, false, false]) := k_176_135
theorem kd_176_164 : zD 176 164 = some (.iload 5, 2, some [true, true, true, true, false, true]) := k_176_164
theorem ml_177 : zML 177 = 3 := by decide +kernel
theorem rt_177 : zRt 177 = some .int := by decide +kernel
theorem k_177_0 : zD 177 0 = some (.aload_n 0, 1, none) := by decide +kernel
theorem k_177_1 : zD 177 1 = some (.iload_n 1, 1, none) := by decide +kernel
theorem k_177_2 : zD 177 2 = some (.invokevirtual 240, 3, none) ∧ zCk (zOn 177) 240 = some (0, 155) ∧ zNp 155 = 1 ∧ zML 155 = 2 ∧ zCo[8]? = some (zOn 155) ∧ (zRt 155 = some .int ∨ zRt 155 = some .boolean ∨ zRt 155 = some .char ∨ zRt 155 = some .byte) := by decide +kernel
theorem k_177_5 : zD 177 5 = some (.ifCond .ne (6), 3, none) ∧ zTg 5 (6) = some 11 := by decide +kernel
theorem k_177_8 : zD 177 8 = some (.ldc 229, 2, none) ∧ zKc (zOn 177) 229 = some (.inl (-1000000001)) := by decide +kernel
theorem k_177_10 : zD 177 10 = some (.ireturn, 1, none) := by decide +kernel
theorem k_177_11 : zD 177 11 = some (.iconst (0), 1, none) := by decide +kernel
theorem k_177_12 : zD 177 12 = some (.istore_n 2, 1, none) := by decide +kernel
theorem k_177_13 : zD 177 13 = some (.aload_n 0, 1, some [true, true, true]) := by decide +kernel
theorem k_177_14 : zD 177 14 = some (.iload_n 1, 1, none) := by decide +kernel
theorem k_177_15 : zD 177 15 = some (.invokevirtual 291, 3, none) ∧ zCk (zOn 177) 291 = some (0, 178) ∧ zNp 178 = 1 ∧ zML 178 = 8 ∧ zCo[8]? = some (zOn 178) ∧ (zRt 178 = some .int ∨ zRt 178 = some .boolean ∨ zRt 178 = some .char ∨ zRt 178 = some .byte) := by decide +kernel
theorem k_177_18 : zD 177 18 = some (.ifCond .eq (9), 3, none) ∧ zTg 18 (9) = some 27 := by decide +kernel
theorem k_177_27 : zD 177 27 = some (.iload_n 2, 1, none) := by decide +kernel
theorem k_177_28 : zD 177 28 = some (.ireturn, 1, none) := by decide +kernel
theorem k_177_21 : zD 177 21 = some (.iinc 2 (1), 3, none) := by decide +kernel
theorem k_177_24 : zD 177 24 = some (.goto (-11), 3, none) ∧ zTg 24 (-11) = some 13 := by decide +kernel
theorem kd_177_13 : zD 177 13 = some (.aload_n 0, 1, some [true, true, true]) := k_177_13
theorem ml_178 : zML 178 = 8 := by decide +kernel
theorem rt_178 : zRt 178 = some .boolean := by decide +kernel
theorem k_178_0 : zD 178 0 = some (.iconst (0), 1, none) := by decide +kernel
theorem k_178_1 : zD 178 1 = some (.istore_n 2, 1, none) := by decide +kernel
theorem k_178_2 : zD 178 2 = some (.iload_n 2, 1, some [true, true, true, false, false, false, false, false]) := by decide +kernel
theorem k_178_3 : zD 178 3 = some (.aload_n 0, 1, none) := by decide +kernel
theorem k_178_4 : zD 178 4 = some (.getfield 110, 3, none) ∧ zFl (zOn 178) 110 = some (8, 3) ∧ zFc 8 3 = some 0 := by decide +kernel
theorem k_178_7 : zD 178 7 = some (.aload_n 0, 1, none) := by decide +kernel
theorem k_178_8 : zD 178 8 = some (.getfield 110, 3, none) ∧ zFl (zOn 178) 110 = some (8, 3) ∧ zFc 8 3 = some 0 := by decide +kernel
theorem k_178_11 : zD 178 11 = some (.imul, 1, none) := by decide +kernel
theorem k_178_12 : zD 178 12 = some (.if_icmp .ge (103), 3, none) ∧ zTg 12 (103) = some 115 := by decide +kernel
theorem k_178_15 : zD 178 15 = some (.iload_n 2, 1, none) := by decide +kernel
theorem k_178_16 : zD 178 16 = some (.aload_n 0, 1, none) := by decide +kernel
theorem k_178_17 : zD 178 17 = some (.getfield 110, 3, none) ∧ zFl (zOn 178) 110 = some (8, 3) ∧ zFc 8 3 = some 0 := by decide +kernel
theorem k_178_20 : zD 178 20 = some (.idiv, 1, none) := by decide +kernel
theorem k_178_21 : zD 178 21 = some (.istore_n 3, 1, none) := by decide +kernel
theorem k_178_22 : zD 178 22 = some (.iload_n 2, 1, none) := by decide +kernel
theorem k_178_23 : zD 178 23 = some (.aload_n 0, 1, none) := by decide +kernel
theorem k_178_24 : zD 178 24 = some (.getfield 110, 3, none) ∧ zFl (zOn 178) 110 = some (8, 3) ∧ zFc 8 3 = some 0 := by decide +kernel
theorem k_178_27 : zD 178 27 = some (.irem, 1, none) := by decide +kernel
theorem k_178_28 : zD 178 28 = some (.istore 4, 2, none) := by decide +kernel
theorem k_178_30 : zD 178 30 = some (.iload_n 3, 1, none) := by decide +kernel
theorem k_178_31 : zD 178 31 = some (.iload 4, 2, none) := by decide +kernel
theorem k_178_33 : zD 178 33 = some (.if_icmp .ne (7), 3, none) ∧ zTg 33 (7) = some 40 := by decide +kernel
theorem k_178_36 : zD 178 36 = some (.iconst (0), 1, none) := by decide +kernel
theorem k_178_37 : zD 178 37 = some (.goto (12), 3, none) ∧ zTg 37 (12) = some 49 := by decide +kernel
theorem k_178_40 : zD 178 40 = some (.aload_n 0, 1, none) := by decide +kernel
theorem k_178_41 : zD 178 41 = some (.iload_n 3, 1, none) := by decide +kernel
theorem k_178_42 : zD 178 42 = some (.iload 4, 2, none) := by decide +kernel
theorem k_178_44 : zD 178 44 = some (.invokevirtual 263, 3, none) ∧ zCk (zOn 178) 263 = some (0, 165) ∧ zNp 165 = 2 ∧ zML 165 = 3 ∧ zCo[8]? = some (zOn 165) ∧ (zRt 165 = some .int ∨ zRt 165 = some .boolean ∨ zRt 165 = some .char ∨ zRt 165 = some .byte) := by decide +kernel
theorem k_178_47 : zD 178 47 = some (.iload_n 1, 1, none) := by decide +kernel
theorem k_178_48 : zD 178 48 = some (.iand, 1, none) := by decide +kernel
theorem k_178_115 : zD 178 115 = some (.iconst (0), 1, none) := by decide +kernel
theorem k_178_116 : zD 178 116 = some (.ireturn, 1, none) := by decide +kernel
theorem k_178_49 : zD 178 49 = some (.istore 5, 2, some [true, true, true, true, true, false, false, false]) := by decide +kernel
theorem k_178_51 : zD 178 51 = some (.iload 5, 2, none) := by decide +kernel
theorem k_178_53 : zD 178 53 = some (.ifCond .eq (56), 3, none) ∧ zTg 53 (56) = some 109 := by decide +kernel
theorem k_178_109 : zD 178 109 = some (.iinc 2 (1), 3, none) := by decide +kernel
theorem k_178_112 : zD 178 112 = some (.goto (-110), 3, none) ∧ zTg 112 (-110) = some 2 := by decide +kernel
theorem k_178_56 : zD 178 56 = some (.iconst (0), 1, none) := by decide +kernel
theorem k_178_57 : zD 178 57 = some (.istore 6, 2, none) := by decide +kernel
theorem k_178_59 : zD 178 59 = some (.iload 5, 2, some [true, false, false, true, true, true, true, false]) := by decide +kernel
theorem k_178_61 : zD 178 61 = some (.iload 6, 2, none) := by decide +kernel
theorem k_178_63 : zD 178 63 = some (.invokestatic 121, 3, none) ∧ zAt.lookup (zOn 178, 121) = none ∧ zCk (zOn 178) 121 = some (1, 129) ∧ (1 = 1 ∨ 1 = 3) ∧ zNp 129 = 2 ∧ zML 129 = 2 ∧ (zRt 129 = some .int ∨ zRt 129 = some .boolean ∨ zRt 129 = some .char ∨ zRt 129 = some .byte) := by decide +kernel
theorem k_178_66 : zD 178 66 = some (.ifCond .ne (9), 3, none) ∧ zTg 66 (9) = some 75 := by decide +kernel
theorem k_178_69 : zD 178 69 = some (.iinc 6 (1), 3, none) := by decide +kernel
theorem k_178_72 : zD 178 72 = some (.goto (-13), 3, none) ∧ zTg 72 (-13) = some 59 := by decide +kernel
theorem k_178_75 : zD 178 75 = some (.aload_n 0, 1, none) := by decide +kernel
theorem k_178_76 : zD 178 76 = some (.iload_n 3, 1, none) := by decide +kernel
theorem k_178_77 : zD 178 77 = some (.iload 4, 2, none) := by decide +kernel
theorem k_178_79 : zD 178 79 = some (.iload 6, 2, none) := by decide +kernel
theorem k_178_81 : zD 178 81 = some (.iconst (1), 1, none) := by decide +kernel
theorem k_178_82 : zD 178 82 = some (.aload_n 0, 1, none) := by decide +kernel
theorem k_178_83 : zD 178 83 = some (.getfield 110, 3, none) ∧ zFl (zOn 178) 110 = some (8, 3) ∧ zFc 8 3 = some 0 := by decide +kernel
theorem k_178_86 : zD 178 86 = some (.ishl, 1, none) := by decide +kernel
theorem k_178_87 : zD 178 87 = some (.iconst (1), 1, none) := by decide +kernel
theorem k_178_88 : zD 178 88 = some (.isub, 1, none) := by decide +kernel
theorem k_178_89 : zD 178 89 = some (.iconst (1), 1, none) := by decide +kernel
theorem k_178_90 : zD 178 90 = some (.iload_n 3, 1, none) := by decide +kernel
theorem k_178_91 : zD 178 91 = some (.ishl, 1, none) := by decide +kernel
theorem k_178_92 : zD 178 92 = some (.iconst (-1), 1, none) := by decide +kernel
theorem k_178_93 : zD 178 93 = some (.ixor, 1, none) := by decide +kernel
theorem k_178_94 : zD 178 94 = some (.iand, 1, none) := by decide +kernel
theorem k_178_95 : zD 178 95 = some (.iconst (1), 1, none) := by decide +kernel
theorem k_178_96 : zD 178 96 = some (.iload 4, 2, none) := by decide +kernel
theorem k_178_98 : zD 178 98 = some (.ishl, 1, none) := by decide +kernel
theorem k_178_99 : zD 178 99 = some (.iconst (-1), 1, none) := by decide +kernel
theorem k_178_100 : zD 178 100 = some (.ixor, 1, none) := by decide +kernel
theorem k_178_101 : zD 178 101 = some (.iand, 1, none) := by decide +kernel
theorem k_178_102 : zD 178 102 = some (.invokevirtual 282, 3, none) ∧ zCk (zOn 178) 282 = some (0, 172) ∧ zNp 172 = 4 ∧ zML 172 = 10 ∧ zCo[8]? = some (zOn 172) ∧ (zRt 172 = some .int ∨ zRt 172 = some .boolean ∨ zRt 172 = some .char ∨ zRt 172 = some .byte) := by decide +kernel
theorem k_178_105 : zD 178 105 = some (.istore 7, 2, none) := by decide +kernel
theorem k_178_107 : zD 178 107 = some (.iconst (1), 1, none) := by decide +kernel
theorem k_178_108 : zD 178 108 = some (.ireturn, 1, none) := by decide +kernel
theorem kd_178_2 : zD 178 2 = some (.iload_n 2, 1, some [true, true, true, false, false, false, false, false]) := k_178_2
theorem kd_178_49 : zD 178 49 = some (.istore 5, 2, some [true, true, true, true, true, false, false, false]) := k_178_49
theorem kd_178_59 : zD 178 59 = some (.iload 5, 2, some [true, false, false, true, true, true, true, false]) := k_178_59
theorem ml_179 : zML 179 = 6 := by decide +kernel
theorem rt_179 : zRt 179 = some .int := by decide +kernel
theorem k_179_0 : zD 179 0 = some (.aload_n 0, 1, none) := by decide +kernel
theorem k_179_1 : zD 179 1 = some (.iload_n 1, 1, none) := by decide +kernel
theorem k_179_2 : zD 179 2 = some (.iload_n 2, 1, none) := by decide +kernel
theorem k_179_3 : zD 179 3 = some (.invokevirtual 243, 3, none) ∧ zCk (zOn 179) 243 = some (0, 157) ∧ zNp 157 = 2 ∧ zML 157 = 3 ∧ zCo[8]? = some (zOn 157) ∧ (zRt 157 = some .int ∨ zRt 157 = some .boolean ∨ zRt 157 = some .char ∨ zRt 157 = some .byte) := by decide +kernel
theorem k_179_6 : zD 179 6 = some (.ifCond .ne (6), 3, none) ∧ zTg 6 (6) = some 12 := by decide +kernel
theorem k_179_9 : zD 179 9 = some (.ldc 229, 2, none) ∧ zKc (zOn 179) 229 = some (.inl (-1000000001)) := by decide +kernel
theorem k_179_11 : zD 179 11 = some (.ireturn, 1, none) := by decide +kernel
theorem k_179_12 : zD 179 12 = some (.aload_n 0, 1, none) := by decide +kernel
theorem k_179_13 : zD 179 13 = some (.getfield 60, 3, none) ∧ zFl (zOn 179) 60 = some (8, 30) ∧ zFc 8 30 = some 3 := by decide +kernel
theorem k_179_16 : zD 179 16 = some (.iconst (0), 1, none) := by decide +kernel
theorem k_179_17 : zD 179 17 = some (.aload_n 0, 1, none) := by decide +kernel
theorem k_179_18 : zD 179 18 = some (.getfield 26, 3, none) ∧ zFl (zOn 179) 26 = some (8, 8) ∧ zFc 8 8 = some 3 := by decide +kernel
theorem k_179_21 : zD 179 21 = some (.iload_n 1, 1, none) := by decide +kernel
theorem k_179_22 : zD 179 22 = some (.iaload, 1, none) := by decide +kernel
theorem k_179_23 : zD 179 23 = some (.iastore, 1, none) := by decide +kernel
theorem k_179_24 : zD 179 24 = some (.aload_n 0, 1, none) := by decide +kernel
theorem k_179_25 : zD 179 25 = some (.getfield 63, 3, none) ∧ zFl (zOn 179) 63 = some (8, 31) ∧ zFc 8 31 = some 3 := by decide +kernel
theorem k_179_28 : zD 179 28 = some (.iconst (0), 1, none) := by decide +kernel
theorem k_179_29 : zD 179 29 = some (.aload_n 0, 1, none) := by decide +kernel
theorem k_179_30 : zD 179 30 = some (.getfield 26, 3, none) ∧ zFl (zOn 179) 26 = some (8, 8) ∧ zFc 8 8 = some 3 := by decide +kernel
theorem k_179_33 : zD 179 33 = some (.iload_n 2, 1, none) := by decide +kernel
theorem k_179_34 : zD 179 34 = some (.iaload, 1, none) := by decide +kernel
theorem k_179_35 : zD 179 35 = some (.iastore, 1, none) := by decide +kernel
theorem k_179_36 : zD 179 36 = some (.aload_n 0, 1, none) := by decide +kernel
theorem k_179_37 : zD 179 37 = some (.getfield 66, 3, none) ∧ zFl (zOn 179) 66 = some (8, 32) ∧ zFc 8 32 = some 3 := by decide +kernel
theorem k_179_40 : zD 179 40 = some (.iconst (0), 1, none) := by decide +kernel
theorem k_179_41 : zD 179 41 = some (.aload_n 0, 1, none) := by decide +kernel
theorem k_179_42 : zD 179 42 = some (.getfield 32, 3, none) ∧ zFl (zOn 179) 32 = some (8, 10) ∧ zFc 8 10 = some 3 := by decide +kernel
theorem k_179_45 : zD 179 45 = some (.iconst (5), 1, none) := by decide +kernel
theorem k_179_46 : zD 179 46 = some (.iload_n 1, 1, none) := by decide +kernel
theorem k_179_47 : zD 179 47 = some (.imul, 1, none) := by decide +kernel
theorem k_179_48 : zD 179 48 = some (.iload_n 2, 1, none) := by decide +kernel
theorem k_179_49 : zD 179 49 = some (.iadd, 1, none) := by decide +kernel
theorem k_179_50 : zD 179 50 = some (.laload, 1, none) := by decide +kernel
theorem k_179_51 : zD 179 51 = some (.lastore, 1, none) := by decide +kernel
theorem k_179_52 : zD 179 52 = some (.aload_n 0, 1, none) := by decide +kernel
theorem k_179_53 : zD 179 53 = some (.getfield 69, 3, none) ∧ zFl (zOn 179) 69 = some (8, 33) ∧ zFc 8 33 = some 3 := by decide +kernel
theorem k_179_56 : zD 179 56 = some (.iconst (0), 1, none) := by decide +kernel
theorem k_179_57 : zD 179 57 = some (.aload_n 0, 1, none) := by decide +kernel
theorem k_179_58 : zD 179 58 = some (.getfield 32, 3, none) ∧ zFl (zOn 179) 32 = some (8, 10) ∧ zFc 8 10 = some 3 := by decide +kernel
theorem k_179_61 : zD 179 61 = some (.iconst (5), 1, none) := by decide +kernel
theorem k_179_62 : zD 179 62 = some (.iload_n 2, 1, none) := by decide +kernel
theorem k_179_63 : zD 179 63 = some (.imul, 1, none) := by decide +kernel
theorem k_179_64 : zD 179 64 = some (.iload_n 1, 1, none) := by decide +kernel
theorem k_179_65 : zD 179 65 = some (.iadd, 1, none) := by decide +kernel
theorem k_179_66 : zD 179 66 = some (.laload, 1, none) := by decide +kernel
theorem k_179_67 : zD 179 67 = some (.lastore, 1, none) := by decide +kernel
theorem k_179_68 : zD 179 68 = some (.iconst (0), 1, none) := by decide +kernel
theorem k_179_69 : zD 179 69 = some (.istore 4, 2, none) := by decide +kernel
theorem k_179_71 : zD 179 71 = some (.iload 4, 2, some [true, true, true, true, true, false]) := by decide +kernel
theorem k_179_73 : zD 179 73 = some (.bipush (6), 2, none) := by decide +kernel
theorem k_179_75 : zD 179 75 = some (.if_icmp .gt (102), 3, none) ∧ zTg 75 (102) = some 177 := by decide +kernel
theorem k_179_177 : zD 179 177 = some (.iconst (-1), 1, none) := by decide +kernel
theorem k_179_178 : zD 179 178 = some (.ireturn, 1, none) := by decide +kernel
theorem k_179_78 : zD 179 78 = some (.aload_n 0, 1, none) := by decide +kernel
theorem k_179_79 : zD 179 79 = some (.iload 4, 2, none) := by decide +kernel
theorem k_179_81 : zD 179 81 = some (.aload_n 0, 1, none) := by decide +kernel
theorem k_179_82 : zD 179 82 = some (.getfield 26, 3, none) ∧ zFl (zOn 179) 26 = some (8, 8) ∧ zFc 8 8 = some 3 := by decide +kernel
theorem k_179_85 : zD 179 85 = some (.iload_n 1, 1, none) := by decide +kernel
theorem k_179_86 : zD 179 86 = some (.iaload, 1, none) := by decide +kernel
theorem k_179_87 : zD 179 87 = some (.aload_n 0, 1, none) := by decide +kernel
theorem k_179_88 : zD 179 88 = some (.getfield 26, 3, none) ∧ zFl (zOn 179) 26 = some (8, 8) ∧ zFc 8 8 = some 3 := by decide +kernel
theorem k_179_91 : zD 179 91 = some (.iload_n 2, 1, none) := by decide +kernel
theorem k_179_92 : zD 179 92 = some (.iaload, 1, none) := by decide +kernel
theorem k_179_93 : zD 179 93 = some (.ior, 1, none) := by decide +kernel
theorem k_179_94 : zD 179 94 = some (.invokevirtual 297, 3, none) ∧ zCk (zOn 179) 297 = some (0, 180) ∧ zNp 180 = 2 ∧ zML 180 = 5 ∧ zCo[8]? = some (zOn 180) ∧ (zRt 180 = some .int ∨ zRt 180 = some .boolean ∨ zRt 180 = some .char ∨ zRt 180 = some .byte) := by decide +kernel
theorem k_179_97 : zD 179 97 = some (.ifCond .eq (74), 3, none) ∧ zTg 97 (74) = some 171 := by decide +kernel
theorem k_179_171 : zD 179 171 = some (.iinc 4 (1), 3, none) := by decide +kernel
theorem k_179_174 : zD 179 174 = some (.goto (-103), 3, none) ∧ zTg 174 (-103) = some 71 := by decide +kernel
theorem k_179_100 : zD 179 100 = some (.iload_n 3, 1, none) := by decide +kernel
theorem k_179_101 : zD 179 101 = some (.iconst (-1), 1, none) := by decide +kernel
theorem k_179_102 : zD 179 102 = some (.if_icmp .eq (19), 3, none) ∧ zTg 102 (19) = some 121 := by decide +kernel
theorem k_179_105 : zD 179 105 = some (.iload_n 3, 1, none) := by decide +kernel
theorem k_179_106 : zD 179 106 = some (.i2l, 1, none) := by decide +kernel
theorem k_179_107 : zD 179 107 = some (.lconst 0, 1, none) := by decide +kernel
theorem k_179_108 : zD 179 108 = some (.iconst (2), 1, none) := by decide +kernel
theorem k_179_109 : zD 179 109 = some (.iload 4, 2, none) := by decide +kernel
theorem k_179_111 : zD 179 111 = some (.imul, 1, none) := by decide +kernel
theorem k_179_112 : zD 179 112 = some (.iconst (1), 1, none) := by decide +kernel
theorem k_179_113 : zD 179 113 = some (.isub, 1, none) := by decide +kernel
theorem k_179_114 : zD 179 114 = some (.i2l, 1, none) := by decide +kernel
theorem k_179_115 : zD 179 115 = some (.invokestatic 106, 3, none) ∧ zAt.lookup (zOn 179, 106) = none ∧ zCk (zOn 179) 106 = some (1, 132) ∧ (1 = 1 ∨ 1 = 3) ∧ zNp 132 = 3 ∧ zML 132 = 6 ∧ (zRt 132 = some .int ∨ zRt 132 = some .boolean ∨ zRt 132 = some .char ∨ zRt 132 = some .byte) := by decide +kernel
theorem k_179_118 : zD 179 118 = some (.ifCond .ne (15), 3, none) ∧ zTg 118 (15) = some 133 := by decide +kernel
theorem k_179_133 : zD 179 133 = some (.aload_n 0, 1, none) := by decide +kernel
theorem k_179_134 : zD 179 134 = some (.getfield 72, 3, none) ∧ zFl (zOn 179) 72 = some (8, 34) ∧ zFc 8 34 = some 3 := by decide +kernel
theorem k_179_137 : zD 179 137 = some (.iload_n 3, 1, none) := by decide +kernel
theorem k_179_138 : zD 179 138 = some (.iconst (2), 1, none) := by decide +kernel
theorem k_179_139 : zD 179 139 = some (.idiv, 1, none) := by decide +kernel
theorem k_179_140 : zD 179 140 = some (.iaload, 1, none) := by decide +kernel
theorem k_179_141 : zD 179 141 = some (.istore 5, 2, none) := by decide +kernel
theorem k_179_143 : zD 179 143 = some (.iload_n 3, 1, none) := by decide +kernel
theorem k_179_144 : zD 179 144 = some (.iconst (2), 1, none) := by decide +kernel
theorem k_179_145 : zD 179 145 = some (.irem, 1, none) := by decide +kernel
theorem k_179_146 : zD 179 146 = some (.iconst (1), 1, none) := by decide +kernel
theorem k_179_147 : zD 179 147 = some (.if_icmp .ne (11), 3, none) ∧ zTg 147 (11) = some 158 := by decide +kernel
theorem k_179_150 : zD 179 150 = some (.iload 5, 2, none) := by decide +kernel
theorem k_179_152 : zD 179 152 = some (.bipush (6), 2, none) := by decide +kernel
theorem k_179_154 : zD 179 154 = some (.irem, 1, none) := by decide +kernel
theorem k_179_155 : zD 179 155 = some (.goto (15), 3, none) ∧ zTg 155 (15) = some 170 := by decide +kernel
theorem k_179_170 : zD 179 170 = some (.ireturn, 1, some [false, false, false, false, false, false]) := by decide +kernel
theorem k_179_158 : zD 179 158 = some (.iload 5, 2, none) := by decide +kernel
theorem k_179_160 : zD 179 160 = some (.bipush (6), 2, none) := by decide +kernel
theorem k_179_162 : zD 179 162 = some (.if_icmp .ge (7), 3, none) ∧ zTg 162 (7) = some 169 := by decide +kernel
theorem k_179_165 : zD 179 165 = some (.iload_n 1, 1, none) := by decide +kernel
theorem k_179_166 : zD 179 166 = some (.goto (4), 3, none) ∧ zTg 166 (4) = some 170 := by decide +kernel
theorem k_179_169 : zD 179 169 = some (.iload_n 2, 1, none) := by decide +kernel
theorem k_179_121 : zD 179 121 = some (.iload_n 3, 1, some [false, false, false, true, true, false]) := by decide +kernel
theorem k_179_122 : zD 179 122 = some (.iconst (-1), 1, none) := by decide +kernel
theorem k_179_123 : zD 179 123 = some (.if_icmp .ne (8), 3, none) ∧ zTg 123 (8) = some 131 := by decide +kernel
theorem k_179_126 : zD 179 126 = some (.iload 4, 2, none) := by decide +kernel
theorem k_179_128 : zD 179 128 = some (.goto (4), 3, none) ∧ zTg 128 (4) = some 132 := by decide +kernel
theorem k_179_132 : zD 179 132 = some (.ireturn, 1, some [false, false, false, false, false, false]) := by decide +kernel
theorem k_179_131 : zD 179 131 = some (.iconst (-1), 1, none) := by decide +kernel
theorem kd_179_71 : zD 179 71 = some (.iload 4, 2, some [true, true, true, true, true, false]) := k_179_71
theorem kd_179_121 : zD 179 121 = some (.iload_n 3, 1, some [false, false, false, true, true, false]) := k_179_121
theorem kd_179_132 : zD 179 132 = some (.ireturn, 1, some [false, false, false, false, false, false]) := k_179_132
theorem kd_179_170 : zD 179 170 = some (.ireturn, 1, some [false, false, false, false, false, false]) := k_179_170
theorem ml_180 : zML 180 = 5 := by decide +kernel
theorem rt_180 : zRt 180 = some .boolean := by decide +kernel
theorem k_180_0 : zD 180 0 = some (.iconst (0), 1, none) := by decide +kernel
theorem k_180_1 : zD 180 1 = some (.istore_n 3, 1, none) := by decide +kernel
theorem k_180_2 : zD 180 2 = some (.aload_n 0, 1, none) := by decide +kernel
theorem k_180_3 : zD 180 3 = some (.getfield 72, 3, none) ∧ zFl (zOn 180) 72 = some (8, 34) ∧ zFc 8 34 = some 3 := by decide +kernel
theorem k_180_6 : zD 180 6 = some (.iconst (0), 1, none) := by decide +kernel
theorem k_180_7 : zD 180 7 = some (.iconst (-1), 1, none) := by decide +kernel
theorem k_180_8 : zD 180 8 = some (.iastore, 1, none) := by decide +kernel
theorem k_180_9 : zD 180 9 = some (.iload_n 3, 1, some [true, true, true, true, false]) := by decide +kernel
theorem k_180_10 : zD 180 10 = some (.ifCond .lt (130), 3, none) ∧ zTg 10 (130) = some 140 := by decide +kernel
theorem k_180_140 : zD 180 140 = some (.iconst (0), 1, none) := by decide +kernel
theorem k_180_141 : zD 180 141 = some (.ireturn, 1, none) := by decide +kernel
theorem k_180_13 : zD 180 13 = some (.iload_n 2, 1, none) := by decide +kernel
theorem k_180_14 : zD 180 14 = some (.aload_n 0, 1, none) := by decide +kernel

section
variable {sc : zSc} {d M pc : Nat} {lv : zLv} {g : zSg} {h : zHp} {mq : Option (List Bool)}
theorem ev_ret_byte_c {x : Int32} (hd : zD M pc = some (.ireturn, 1, mq)) (hm : zMo mq lv = lv) (ht : zRt M = some .byte) : zE sc d M pc lv [.int x] g h = (if x = 0 then some (some (.int x), g, h) else none) := by
  by_cases hx : x = 0
  · rw [if_pos hx]; exact ev_ret_byte hd hm ht hx
  · rw [if_neg hx]; exact ev_stuck hd hm rfl rfl rfl rfl (by rw [ht]; simp [zRet, zRk, hx]) rfl
theorem ev_ret_char_c {x : Int32} (hd : zD M pc = some (.ireturn, 1, mq)) (hm : zMo mq lv = lv) (ht : zRt M = some .char) : zE sc d M pc lv [.int x] g h = (if (x.toUInt32 % 65536).toInt32 = x then some (some (.int x), g, h) else none) := by
  by_cases hx : (x.toUInt32 % 65536).toInt32 = x
  · rw [if_pos hx]; exact ev_ret_char hd hm ht hx
  · rw [if_neg hx]; exact ev_stuck hd hm rfl rfl rfl rfl (by rw [ht]; simp [zRet, zRk, hx]) rfl
end
theorem ml_30 : zML 30 = 1 := by decide +kernel
theorem rt_30 : zRt 30 = some .int := by decide +kernel
theorem k_30_0 : zD 30 0 = some (.aload_n 0, 1, none) := by decide +kernel
theorem k_30_1 : zD 30 1 = some (.getfield 9, 3, none) ∧ zFl (zOn 30) 9 = some (100, 0) := by decide +kernel
theorem k_30_4 : zD 30 4 = some (.arraylength, 1, none) := by decide +kernel
theorem k_30_5 : zD 30 5 = some (.aload_n 0, 1, none) := by decide +kernel
theorem k_30_6 : zD 30 6 = some (.invokevirtual 335, 3, none) ∧ zCk (zOn 30) 335 = some (0, 31) ∧ zNp 31 = 0 ∧ zML 31 = 1 ∧ zO (zOn 31) = "java/lang/String" ∧ (zRt 31 = some .int ∨ zRt 31 = some .boolean ∨ zRt 31 = some .char ∨ zRt 31 = some .byte) := by decide +kernel
theorem k_30_9 : zD 30 9 = some (.ishr, 1, none) := by decide +kernel
theorem k_30_10 : zD 30 10 = some (.ireturn, 1, none) := by decide +kernel
theorem ml_31 : zML 31 = 1 := by decide +kernel
theorem rt_31 : zRt 31 = some .byte := by decide +kernel
theorem k_31_0 : zD 31 0 = some (.getstatic 38, 3, none) ∧ zSc' (zOn 31) 38 = some 1 := by decide +kernel
theorem k_31_3 : zD 31 3 = some (.ifCond .eq (10), 3, none) ∧ zTg 3 (10) = some 13 := by decide +kernel
theorem k_31_13 : zD 31 13 = some (.iconst (1), 1, none) := by decide +kernel
theorem k_31_14 : zD 31 14 = some (.ireturn, 1, some [false]) := by decide +kernel
theorem k_31_6 : zD 31 6 = some (.aload_n 0, 1, none) := by decide +kernel
theorem k_31_7 : zD 31 7 = some (.getfield 15, 3, none) ∧ zFl (zOn 31) 15 = some (100, 1) := by decide +kernel
theorem k_31_10 : zD 31 10 = some (.goto (4), 3, none) ∧ zTg 10 (4) = some 14 := by decide +kernel
theorem kd_31_14 : zD 31 14 = some (.ireturn, 1, some [false]) := k_31_14
theorem ml_32 : zML 32 = 2 := by decide +kernel
theorem rt_32 : zRt 32 = some .char := by decide +kernel
theorem k_32_0 : zD 32 0 = some (.aload_n 0, 1, none) := by decide +kernel
theorem k_32_1 : zD 32 1 = some (.invokevirtual 492, 3, none) ∧ zCk (zOn 32) 492 = some (0, 33) ∧ zNp 33 = 0 ∧ zML 33 = 1 ∧ zO (zOn 33) = "java/lang/String" ∧ (zRt 33 = some .int ∨ zRt 33 = some .boolean ∨ zRt 33 = some .char ∨ zRt 33 = some .byte) := by decide +kernel
theorem k_32_4 : zD 32 4 = some (.ifCond .eq (12), 3, none) ∧ zTg 4 (12) = some 16 := by decide +kernel
theorem k_32_16 : zD 32 16 = some (.aload_n 0, 1, none) := by decide +kernel
theorem k_32_17 : zD 32 17 = some (.getfield 9, 3, none) ∧ zFl (zOn 32) 9 = some (100, 0) := by decide +kernel
theorem k_32_20 : zD 32 20 = some (.iload_n 1, 1, none) := by decide +kernel
theorem k_32_7 : zD 32 7 = some (.aload_n 0, 1, none) := by decide +kernel
theorem k_32_8 : zD 32 8 = some (.getfield 9, 3, none) ∧ zFl (zOn 32) 9 = some (100, 0) := by decide +kernel
theorem k_32_11 : zD 32 11 = some (.iload_n 1, 1, none) := by decide +kernel
theorem k_32_12 : zD 32 12 = some (.invokestatic 495, 3, none) ∧ zAt.lookup (zOn 32, 495) = none ∧ zCk (zOn 32) 495 = some (1, 34) ∧ (1 = 1 ∨ 1 = 3) ∧ zNp 34 = 2 ∧ zML 34 = 2 ∧ (zRt 34 = some .int ∨ zRt 34 = some .boolean ∨ zRt 34 = some .char ∨ zRt 34 = some .byte) := by decide +kernel
theorem k_32_15 : zD 32 15 = some (.ireturn, 1, none) := by decide +kernel
theorem ml_33 : zML 33 = 1 := by decide +kernel
theorem rt_33 : zRt 33 = some .boolean := by decide +kernel
theorem k_33_0 : zD 33 0 = some (.getstatic 38, 3, none) ∧ zSc' (zOn 33) 38 = some 1 := by decide +kernel
theorem k_33_3 : zD 33 3 = some (.ifCond .eq (14), 3, none) ∧ zTg 3 (14) = some 17 := by decide +kernel
theorem k_33_17 : zD 33 17 = some (.iconst (0), 1, some [false]) := by decide +kernel
theorem k_33_18 : zD 33 18 = some (.ireturn, 1, some [false]) := by decide +kernel
theorem k_33_6 : zD 33 6 = some (.aload_n 0, 1, none) := by decide +kernel
theorem k_33_7 : zD 33 7 = some (.getfield 15, 3, none) ∧ zFl (zOn 33) 15 = some (100, 1) := by decide +kernel
theorem k_33_10 : zD 33 10 = some (.ifCond .ne (7), 3, none) ∧ zTg 10 (7) = some 17 := by decide +kernel
theorem k_33_13 : zD 33 13 = some (.iconst (1), 1, none) := by decide +kernel
theorem k_33_14 : zD 33 14 = some (.goto (4), 3, none) ∧ zTg 14 (4) = some 18 := by decide +kernel
theorem kd_33_17 : zD 33 17 = some (.iconst (0), 1, some [false]) := k_33_17
theorem kd_33_18 : zD 33 18 = some (.ireturn, 1, some [false]) := k_33_18
theorem ml_34 : zML 34 = 2 := by decide +kernel
theorem rt_34 : zRt 34 = some .char := by decide +kernel
theorem k_34_0 : zD 34 0 = some (.iload_n 1, 1, none) := by decide +kernel
theorem k_34_1 : zD 34 1 = some (.aload_n 0, 1, none) := by decide +kernel
theorem k_34_2 : zD 34 2 = some (.arraylength, 1, none) := by decide +kernel
theorem k_34_3 : zD 34 3 = some (.invokestatic 9, 3, none) ∧ zAt.lookup (zOn 34, 9) = none ∧ zCk (zOn 34) 9 = some (1, 35) ∧ (1 = 1 ∨ 1 = 3) ∧ zNp 35 = 2 ∧ zML 35 = 2 ∧ zRt 35 = none := by decide +kernel
theorem k_34_6 : zD 34 6 = some (.aload_n 0, 1, none) := by decide +kernel
theorem k_34_7 : zD 34 7 = some (.iload_n 1, 1, none) := by decide +kernel
theorem k_34_8 : zD 34 8 = some (.baload, 1, none) := by decide +kernel
theorem k_34_9 : zD 34 9 = some (.sipush (255), 3, none) := by decide +kernel
theorem k_34_12 : zD 34 12 = some (.iand, 1, none) := by decide +kernel
theorem k_34_13 : zD 34 13 = some (.i2c, 1, none) := by decide +kernel
theorem k_34_14 : zD 34 14 = some (.ireturn, 1, none) := by decide +kernel
theorem ml_35 : zML 35 = 2 := by decide +kernel
theorem rt_35 : zRt 35 = none := by decide +kernel
theorem k_35_0 : zD 35 0 = some (.iload_n 0, 1, none) := by decide +kernel
theorem k_35_1 : zD 35 1 = some (.iload_n 1, 1, none) := by decide +kernel
theorem k_35_2 : zD 35 2 = some (.getstatic 1053, 3, none) ∧ zSc' (zOn 35) 1053 = some 2 := by decide +kernel
theorem k_35_5 : zD 35 5 = some (.invokestatic 1059, 3, none) ∧ zAt.lookup (zOn 35, 1059) = none ∧ zCk (zOn 35) 1059 = some (1, 36) ∧ (1 = 1 ∨ 1 = 3) ∧ zNp 36 = 3 ∧ zML 36 = 3 ∧ (zRt 36 = some .int ∨ zRt 36 = some .boolean ∨ zRt 36 = some .char ∨ zRt 36 = some .byte) := by decide +kernel
theorem k_35_8 : zD 35 8 = some (.pop, 1, none) := by decide +kernel
theorem k_35_9 : zD 35 9 = some (.return_, 1, none) := by decide +kernel
theorem ml_36 : zML 36 = 3 := by decide +kernel
theorem rt_36 : zRt 36 = some .int := by decide +kernel
theorem k_36_0 : zD 36 0 = some (.iload_n 0, 1, none) := by decide +kernel
theorem k_36_1 : zD 36 1 = some (.ifCond .lt (8), 3, none) ∧ zTg 1 (8) = some 9 := by decide +kernel
theorem k_36_4 : zD 36 4 = some (.iload_n 0, 1, none) := by decide +kernel
theorem k_36_5 : zD 36 5 = some (.iload_n 1, 1, none) := by decide +kernel
theorem k_36_6 : zD 36 6 = some (.if_icmp .lt (10), 3, none) ∧ zTg 6 (10) = some 16 := by decide +kernel
theorem k_36_16 : zD 36 16 = some (.iload_n 0, 1, none) := by decide +kernel
theorem k_36_17 : zD 36 17 = some (.ireturn, 1, none) := by decide +kernel
theorem kd_36_9 : zD 36 9 = some (.aload_n 2, 1, some [true, true, true]) := by decide +kernel
set_option maxRecDepth 100000 in
theorem E_JS_length (sc : zSc) (d : Nat) (g : zSg) (h : zHp) (a0 : Nat) (q0 : 1000 ≤ a0 ∧ a0 < 1005) : zRun sc (d + 1) 30 [.ref a0] g h = (zBi (zRun sc d 31 [.ref a0] g h) g fun x1 h1 => some (some (.int ((Int32.ofNat (zBt.getD (a0 + 100 - 1100) []).length) >>> (x1 &&& 31))), g, h1)) := by
  have he : zEnt 30 [.ref a0] = [some (.ref a0)] := by unfold zEnt; rw [ml_30]; rfl
  unfold zRun
  rw [he]
  refine Eq.trans (ev_aload_n (pc := 0) (x := a0) k_30_0 rfl rfl (z_n5 q0)) ?_
  refine Eq.trans (ev_getS (pc := 1) k_30_1 rfl q0) ?_
  refine Eq.trans (ev_alenB (pc := 4) k_30_4 rfl (z_b5 q0)) ?_
  refine Eq.trans (ev_aload_n (pc := 5) (x := a0) k_30_5 rfl rfl (z_n5 q0)) ?_
  refine Eq.trans (ev_vs (pc := 6) (as := []) (rest := [.int (Int32.ofNat (zBt.getD (a0 + 100 - 1100) []).length)]) k_30_6 rfl q0 rfl rfl (Nat.le_of_ble_eq_true rfl) (Nat.le_of_ble_eq_true rfl)) (z_cbi fun x1 h1 => ?_)
  refine Eq.trans (ev_ishr (pc := 9) k_30_9 rfl) ?_
  exact ev_ret_int k_30_10 rfl rt_30

set_option maxRecDepth 100000 in
theorem E_JS_coder (sc : zSc) (d : Nat) (g : zSg) (h : zHp) (a0 : Nat) (q0 : 1000 ≤ a0 ∧ a0 < 1005) : zRun sc d 31 [.ref a0] g h = (if (1 : Int32) = 0 then (if (1 : Int32) = 0 then some (some (.int 1), g, h) else none) else (if (0 : Int32) = 0 then some (some (.int 0), g, h) else none)) := by
  have he : zEnt 31 [.ref a0] = [some (.ref a0)] := by unfold zEnt; rw [ml_31]; rfl
  unfold zRun
  rw [he]
  refine Eq.trans (ev_gsC (pc := 0) k_31_0 rfl) ?_
  refine Eq.trans (ev_ifeq (pc := 3) k_31_3.1 rfl k_31_3.2) (z_ite ?_ ?_)
  · refine Eq.trans (ev_iconst (pc := 13) (v := 1) k_31_13 rfl (by decide)) ?_
    refine Eq.trans (ev_mk (pc := 14) (lv' := [none]) kd_31_14 rfl) ?_
    exact ev_ret_byte_c k_31_14 rfl rt_31
  · refine Eq.trans (ev_aload_n (pc := 6) (x := a0) k_31_6 rfl rfl (z_n5 q0)) ?_
    refine Eq.trans (ev_getC (pc := 7) k_31_7 rfl q0) ?_
    refine Eq.trans (ev_goto (pc := 10) k_31_10.1 rfl k_31_10.2) ?_
    refine Eq.trans (ev_mk (pc := 14) (lv' := [none]) kd_31_14 rfl) ?_
    exact ev_ret_byte_c k_31_14 rfl rt_31

set_option maxRecDepth 100000 in
theorem E_JS_charAt (sc : zSc) (d : Nat) (g : zSg) (h : zHp) (a0 : Nat) (q0 : 1000 ≤ a0 ∧ a0 < 1005) (v1 : Int32) : zRun sc (d + 1) 32 [.ref a0, .int v1] g h = (zBi (zRun sc d 33 [.ref a0] g h) g fun x1 h1 => (if x1 = 0 then zE sc (d + 1) 32 21 [some (.ref a0), some (.int v1)] [.int v1, .ref (a0 + 100)] g h1 else (zBi (zRun sc d 34 [.ref (a0 + 100), .int v1] g h1) g fun x2 h2 => (if (x2.toUInt32 % 65536).toInt32 = x2 then some (some (.int x2), g, h2) else none)))) := by
  have he : zEnt 32 [.ref a0, .int v1] = [some (.ref a0), some (.int v1)] := by unfold zEnt; rw [ml_32]; rfl
  unfold zRun
  rw [he]
  refine Eq.trans (ev_aload_n (pc := 0) (x := a0) k_32_0 rfl rfl (z_n5 q0)) ?_
  refine Eq.trans (ev_vs (pc := 1) (as := []) (rest := []) k_32_1 rfl q0 rfl rfl (Nat.le_of_ble_eq_true rfl) (Nat.le_of_ble_eq_true rfl)) (z_cbi fun x1 h1 => ?_)
  refine Eq.trans (ev_ifeq (pc := 4) k_32_4.1 rfl k_32_4.2) (z_ite ?_ ?_)
  · refine Eq.trans (ev_aload_n (pc := 16) (x := a0) k_32_16 rfl rfl (z_n5 q0)) ?_
    refine Eq.trans (ev_getS (pc := 17) k_32_17 rfl q0) ?_
    refine Eq.trans (ev_iload_n (pc := 20) k_32_20 rfl rfl) ?_
    rfl
  · refine Eq.trans (ev_aload_n (pc := 7) (x := a0) k_32_7 rfl rfl (z_n5 q0)) ?_
    refine Eq.trans (ev_getS (pc := 8) k_32_8 rfl q0) ?_
    refine Eq.trans (ev_iload_n (pc := 11) k_32_11 rfl rfl) ?_
    refine Eq.trans (ev_si (pc := 12) (as := [.ref (a0 + 100), .int v1]) (rest := []) k_32_12 rfl rfl rfl (Nat.le_of_ble_eq_true rfl) (Nat.le_of_ble_eq_true rfl)) (z_cbi fun x2 h2 => ?_)
    exact ev_ret_char_c k_32_15 rfl rt_32

set_option maxRecDepth 100000 in
theorem E_JS_isLatin1 (sc : zSc) (d : Nat) (g : zSg) (h : zHp) (a0 : Nat) (q0 : 1000 ≤ a0 ∧ a0 < 1005) : zRun sc d 33 [.ref a0] g h = (if (1 : Int32) = 0 then some (some (.int 0), g, h) else (if (0 : Int32) = 0 then some (some (.int 1), g, h) else some (some (.int 0), g, h))) := by
  have he : zEnt 33 [.ref a0] = [some (.ref a0)] := by unfold zEnt; rw [ml_33]; rfl
  unfold zRun
  rw [he]
  refine Eq.trans (ev_gsC (pc := 0) k_33_0 rfl) ?_
  refine Eq.trans (ev_ifeq (pc := 3) k_33_3.1 rfl k_33_3.2) (z_ite ?_ ?_)
  · refine Eq.trans (ev_mk (pc := 17) (lv' := [none]) kd_33_17 rfl) ?_
    refine Eq.trans (ev_iconst (pc := 17) (v := 0) k_33_17 rfl (by decide)) ?_
    exact ev_ret_b1 k_33_18 rfl rt_33 (by decide)
  · refine Eq.trans (ev_aload_n (pc := 6) (x := a0) k_33_6 rfl rfl (z_n5 q0)) ?_
    refine Eq.trans (ev_getC (pc := 7) k_33_7 rfl q0) ?_
    refine Eq.trans (ev_ifne (pc := 10) k_33_10.1 rfl k_33_10.2) (z_ite ?_ ?_)
    · refine Eq.trans (ev_iconst (pc := 13) (v := 1) k_33_13 rfl (by decide)) ?_
      refine Eq.trans (ev_goto (pc := 14) k_33_14.1 rfl k_33_14.2) ?_
      refine Eq.trans (ev_mk (pc := 18) (lv' := [none]) kd_33_18 rfl) ?_
      exact ev_ret_b1 k_33_18 rfl rt_33 (by decide)
    · refine Eq.trans (ev_mk (pc := 17) (lv' := [none]) kd_33_17 rfl) ?_
      refine Eq.trans (ev_iconst (pc := 17) (v := 0) k_33_17 rfl (by decide)) ?_
      exact ev_ret_b1 k_33_18 rfl rt_33 (by decide)

set_option maxRecDepth 100000 in
theorem E_J1_charAt (sc : zSc) (d : Nat) (g : zSg) (h : zHp) (a0 : Nat) (q0 : 1100 ≤ a0 ∧ a0 < 1105) (v1 : Int32) : zRun sc (d + 1) 34 [.ref a0, .int v1] g h = (zBv (zRun sc d 35 [.int v1, .int (Int32.ofNat (zBt.getD (a0 - 1100) []).length)] g h) g fun h1 => (if zin v1 (zBt.getD (a0 - 1100) []).length = true then (if ((((((zBt.getD (a0 - 1100) []).getD v1.toNatClampNeg 0) &&& (255 : Int32)).toUInt32 % 65536).toInt32).toUInt32 % 65536).toInt32 = (((((zBt.getD (a0 - 1100) []).getD v1.toNatClampNeg 0) &&& (255 : Int32)).toUInt32 % 65536).toInt32) then some (some (.int (((((zBt.getD (a0 - 1100) []).getD v1.toNatClampNeg 0) &&& (255 : Int32)).toUInt32 % 65536).toInt32)), g, h1) else none) else none)) := by
  have he : zEnt 34 [.ref a0, .int v1] = [some (.ref a0), some (.int v1)] := by unfold zEnt; rw [ml_34]; rfl
  unfold zRun
  rw [he]
  refine Eq.trans (ev_iload_n (pc := 0) k_34_0 rfl rfl) ?_
  refine Eq.trans (ev_aload_n (pc := 1) (x := a0) k_34_1 rfl rfl (z_n6 q0)) ?_
  refine Eq.trans (ev_alenB (pc := 2) k_34_2 rfl q0) ?_
  refine Eq.trans (ev_sv (pc := 3) (as := [.int v1, .int (Int32.ofNat (zBt.getD (a0 - 1100) []).length)]) (rest := []) k_34_3 rfl rfl rfl (Nat.le_of_ble_eq_true rfl) (Nat.le_of_ble_eq_true rfl)) (z_cbv fun h1 => ?_)
  refine Eq.trans (ev_aload_n (pc := 6) (x := a0) k_34_6 rfl rfl (z_n6 q0)) ?_
  refine Eq.trans (ev_iload_n (pc := 7) k_34_7 rfl rfl) ?_
  refine Eq.trans (ev_cald_c (pc := 8) k_34_8 rfl q0) (z_it1 ?_)
  refine Eq.trans (ev_sipush (pc := 9) (v := 255) k_34_9 rfl (by decide)) ?_
  refine Eq.trans (ev_iand (pc := 12) k_34_12 rfl) ?_
  refine Eq.trans (ev_i2c (pc := 13) k_34_13 rfl) ?_
  exact ev_ret_char_c k_34_14 rfl rt_34

set_option maxRecDepth 100000 in
theorem E_JS_checkIndex (sc : zSc) (d : Nat) (g : zSg) (h : zHp) (v0 : Int32) (v1 : Int32) : zRun sc (d + 1) 35 [.int v0, .int v1] g h = (zBi (zRun sc d 36 [.int v0, .int v1, .ref 1400] g h) g fun x1 h1 => some (none, g, h1)) := by
  have he : zEnt 35 [.int v0, .int v1] = [some (.int v0), some (.int v1)] := by unfold zEnt; rw [ml_35]; rfl
  unfold zRun
  rw [he]
  refine Eq.trans (ev_iload_n (pc := 0) k_35_0 rfl rfl) ?_
  refine Eq.trans (ev_iload_n (pc := 1) k_35_1 rfl rfl) ?_
  refine Eq.trans (ev_gsF (pc := 2) k_35_2 rfl) ?_
  refine Eq.trans (ev_si (pc := 5) (as := [.int v0, .int v1, .ref 1400]) (rest := []) k_35_5 rfl rfl rfl (Nat.le_of_ble_eq_true rfl) (Nat.le_of_ble_eq_true rfl)) (z_cbi fun x1 h1 => ?_)
  refine Eq.trans (ev_pop (pc := 8) k_35_8 rfl rfl) ?_
  exact ev_ret_void k_35_9 rfl rt_35

set_option maxRecDepth 100000 in
theorem E_JP_checkIndex (sc : zSc) (d : Nat) (g : zSg) (h : zHp) (v0 : Int32) (v1 : Int32) : zRun sc (d + 1) 36 [.int v0, .int v1, .ref 1400] g h = (if v0 < 0 then zE sc (d + 1) 36 9 [some (.int v0), some (.int v1), some (.ref 1400)] [] g h else (if v0 < v1 then some (some (.int v0), g, h) else zE sc (d + 1) 36 9 [some (.int v0), some (.int v1), some (.ref 1400)] [] g h)) := by
  have he : zEnt 36 [.int v0, .int v1, .ref 1400] = [some (.int v0), some (.int v1), some (.ref 1400)] := by unfold zEnt; rw [ml_36]; rfl
  unfold zRun
  rw [he]
  refine Eq.trans (ev_iload_n (pc := 0) k_36_0 rfl rfl) ?_
  refine Eq.trans (ev_iflt (pc := 1) k_36_1.1 rfl k_36_1.2) (z_ite ?_ ?_)
  · exact ev_mk kd_36_9 rfl
  · refine Eq.trans (ev_iload_n (pc := 4) k_36_4 rfl rfl) ?_
    refine Eq.trans (ev_iload_n (pc := 5) k_36_5 rfl rfl) ?_
    refine Eq.trans (ev_iclt (pc := 6) k_36_6.1 rfl k_36_6.2) (z_ite ?_ ?_)
    · refine Eq.trans (ev_iload_n (pc := 16) k_36_16 rfl rfl) ?_
      exact ev_ret_int k_36_17 rfl rt_36
    · exact ev_mk kd_36_9 rfl

set_option maxRecDepth 100000 in
theorem E_JP_checkIndex_9 (sc : zSc) (d : Nat) (g : zSg) (h : zHp) (v0 : Int32) (v1 : Int32) : zE sc (d + 1) 36 9 [some (.int v0), some (.int v1), some (.ref 1400)] [] g h = zE sc (d + 1) 36 9 [some (.int v0), some (.int v1), some (.ref 1400)] [] g h := by
  rfl


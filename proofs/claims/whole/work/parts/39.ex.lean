set_option maxRecDepth 100000 in
theorem E_X_feed (sc : zSc) (d : Nat) (h : zHp) (v1 : Int32) (w2 : Int64) : zRun sc (d + 1) 20 [.ref 0, .int v1, .long w2] zGL h = (if v1 < (1 : Int32) then some (some (.int (-1000000002)), zGL, h) else (if (8 : Int32) < v1 then some (some (.int (-1000000002)), zGL, h) else (zBi (zRun sc d 21 [.ref 1, .int v1, .long w2] zGL h) zGL fun x1 h1 => (if x1 = 0 then some (some (.int (-1000000004)), zGL, h1) else some (some (.int (h1.1 1 1)), zGL, h1))))) := by
  have he : zEnt 20 [.ref 0, .int v1, .long w2] = [some (.ref 0), some (.int v1), some (.long w2), none] := by unfold zEnt; rw [ml_20]; rfl
  unfold zRun
  rw [he]
  refine Eq.trans (ev_iload_n (pc := 0) k_20_0 rfl rfl) ?_
  refine Eq.trans (ev_iconst (pc := 1) (v := 1) k_20_1 rfl (by decide)) ?_
  refine Eq.trans (ev_iclt (pc := 2) k_20_2.1 rfl k_20_2.2) (z_ite ?_ ?_)
  · refine Eq.trans (ev_mk (pc := 11) (lv' := [none, none, none, none]) kd_20_11 rfl) ?_
    refine Eq.trans (ev_ldc (pc := 11) (v := (-1000000002)) k_20_11 rfl) ?_
    exact ev_ret_int k_20_13 rfl rt_20
  · refine Eq.trans (ev_iload_n (pc := 5) k_20_5 rfl rfl) ?_
    refine Eq.trans (ev_bipush (pc := 6) (v := 8) k_20_6 rfl (by decide)) ?_
    refine Eq.trans (ev_icle (pc := 8) k_20_8.1 rfl k_20_8.2) (z_ite ?_ ?_)
    · refine Eq.trans (ev_mk (pc := 11) (lv' := [none, none, none, none]) kd_20_11 rfl) ?_
      refine Eq.trans (ev_ldc (pc := 11) (v := (-1000000002)) k_20_11 rfl) ?_
      exact ev_ret_int k_20_13 rfl rt_20
    · refine Eq.trans (ev_aload_n (pc := 14) (x := 0) k_20_14 rfl rfl (by decide)) ?_
      refine Eq.trans (ev_getR (pc := 15) (b := 1) k_20_15 rfl zo_0.1 zg_0_0) ?_
      refine Eq.trans (ev_iload_n (pc := 18) k_20_18 rfl rfl) ?_
      refine Eq.trans (ev_lload_n (pc := 19) k_20_19 rfl rfl) ?_
      refine Eq.trans (ev_vi (pc := 20) (as := [.int v1, .long w2]) (rest := []) k_20_20 rfl zo_1 rfl rfl (Nat.le_of_ble_eq_true rfl) (Nat.le_of_ble_eq_true rfl)) (z_cbi fun x1 h1 => ?_)
      refine Eq.trans (ev_ifeq (pc := 23) k_20_23.1 rfl k_20_23.2) (z_ite ?_ ?_)
      · refine Eq.trans (ev_ldc (pc := 36) (v := (-1000000004)) k_20_36 rfl) ?_
        refine Eq.trans (ev_mk (pc := 38) (lv' := [none, none, none, none]) kd_20_38 rfl) ?_
        exact ev_ret_int k_20_38 rfl rt_20
      · refine Eq.trans (ev_aload_n (pc := 26) (x := 0) k_20_26 rfl rfl (by decide)) ?_
        refine Eq.trans (ev_getR (pc := 27) (b := 1) k_20_27 rfl zo_0.1 zg_0_0) ?_
        refine Eq.trans (ev_getI (pc := 30) k_20_30 rfl zo_1.1) ?_
        refine Eq.trans (ev_goto (pc := 33) k_20_33.1 rfl k_20_33.2) ?_
        refine Eq.trans (ev_mk (pc := 38) (lv' := [none, none, none, none]) kd_20_38 rfl) ?_
        exact ev_ret_int k_20_38 rfl rt_20

set_option maxRecDepth 100000 in
theorem E_X_town (sc : zSc) (d : Nat) (h : zHp)  : zRun sc (d + 1) 22 [.ref 0] zGL h = (zOT (h.2.2 0 9) fun t1 ht1 => (zBi (zRun sc d 23 [.ref 15, .ref t1] zGL h) zGL fun x2 h2 => (if x2 = 0 then (zOT ((zPI (zPI h2 1 1 0) 0 10 ((zPI h2 1 1 0).1 15 8)).2.2 0 8) fun t3 ht3 => (zOT ((zPI (zPI h2 1 1 0) 0 10 ((zPI h2 1 1 0).1 15 8)).2.2 0 9) fun t4 ht4 => (zOT ((zPR (zPR (zPI (zPI h2 1 1 0) 0 10 ((zPI h2 1 1 0).1 15 8)) 0 8 t4) 0 9 t3).2.2 0 8) fun t5 ht5 => (zBv (zRun sc d 9 [.ref t5] zGL (zPR (zPR (zPI (zPI h2 1 1 0) 0 10 ((zPI h2 1 1 0).1 15 8)) 0 8 t4) 0 9 t3)) zGL fun h6 => (zOT (h6.2.2 0 8) fun t7 ht7 => (zBv (zRun sc d 17 [.ref 26, .ref t7] zGL h6) zGL fun h8 => zE sc (d + 1) 22 86 [some (.ref 0), none, none, some (.int 0)] [] zGL (zPI h8 21 4 0))))))) else some (some (.int (((-10) : Int32) - x2)), zGL, zPI (zPI h2 1 1 0) 0 10 ((zPI h2 1 1 0).1 15 8))))) := by
  have he : zEnt 22 [.ref 0] = [some (.ref 0), none, none, none] := by unfold zEnt; rw [ml_22]; rfl
  unfold zRun
  rw [he]
  refine Eq.trans (ev_aload_n (pc := 0) (x := 0) k_22_0 rfl rfl (by decide)) ?_
  refine Eq.trans (ev_getR (pc := 1) (b := 15) k_22_1 rfl zo_0.1 zg_0_1) ?_
  refine Eq.trans (ev_aload_n (pc := 4) (x := 0) k_22_4 rfl rfl (by decide)) ?_
  refine Eq.trans (ev_getT (pc := 5) k_22_5 rfl zo_0.1) (z_cot fun t1 ht1 => ?_)
  refine Eq.trans (ev_vi (pc := 8) (as := [.ref t1]) (rest := []) k_22_8 rfl zo_15 rfl rfl (Nat.le_of_ble_eq_true rfl) (Nat.le_of_ble_eq_true rfl)) (z_cbi fun x2 h2 => ?_)
  refine Eq.trans (ev_istore_n (pc := 11) (lv' := [some (.ref 0), some (.int x2), none, none]) k_22_11 rfl (Nat.le_of_ble_eq_true rfl) rfl) ?_
  refine Eq.trans (ev_aload_n (pc := 12) (x := 0) k_22_12 rfl rfl (by decide)) ?_
  refine Eq.trans (ev_getR (pc := 13) (b := 1) k_22_13 rfl zo_0.1 zg_0_0) ?_
  refine Eq.trans (ev_iconst (pc := 16) (v := 0) k_22_16 rfl (by decide)) ?_
  refine Eq.trans (ev_putI (pc := 17) k_22_17 rfl zo_1.1) ?_
  refine Eq.trans (ev_aload_n (pc := 20) (x := 0) k_22_20 rfl rfl (by decide)) ?_
  refine Eq.trans (ev_aload_n (pc := 21) (x := 0) k_22_21 rfl rfl (by decide)) ?_
  refine Eq.trans (ev_getR (pc := 22) (b := 15) k_22_22 rfl zo_0.1 zg_0_1) ?_
  refine Eq.trans (ev_getI (pc := 25) k_22_25 rfl zo_15.1) ?_
  refine Eq.trans (ev_putI (pc := 28) k_22_28 rfl zo_0.1) ?_
  refine Eq.trans (ev_iload_n (pc := 31) k_22_31 rfl rfl) ?_
  refine Eq.trans (ev_ifeq (pc := 32) k_22_32.1 rfl k_22_32.2) (z_ite ?_ ?_)
  · refine Eq.trans (ev_aload_n (pc := 40) (x := 0) k_22_40 rfl rfl (by decide)) ?_
    refine Eq.trans (ev_getT (pc := 41) k_22_41 rfl zo_0.1) (z_cot fun t3 ht3 => ?_)
    refine Eq.trans (ev_astore_n (pc := 44) (lv' := [some (.ref 0), some (.int x2), some (.ref t3), none]) k_22_44 rfl (Nat.le_of_ble_eq_true rfl) (zIO_lt (zTw_6 ht3).1).2.2 rfl) ?_
    refine Eq.trans (ev_aload_n (pc := 45) (x := 0) k_22_45 rfl rfl (by decide)) ?_
    refine Eq.trans (ev_aload_n (pc := 46) (x := 0) k_22_46 rfl rfl (by decide)) ?_
    refine Eq.trans (ev_getT (pc := 47) k_22_47 rfl zo_0.1) (z_cot fun t4 ht4 => ?_)
    refine Eq.trans (ev_putT (pc := 50) k_22_50 rfl zo_0.1 (zIO_lt (zTw_6 ht4).1).2.1) ?_
    refine Eq.trans (ev_aload_n (pc := 53) (x := 0) k_22_53 rfl rfl (by decide)) ?_
    refine Eq.trans (ev_aload_n (pc := 54) (x := t3) k_22_54 rfl rfl (zIO_lt (zTw_6 ht3).1).2.2) ?_
    refine Eq.trans (ev_putT (pc := 55) k_22_55 rfl zo_0.1 (zIO_lt (zTw_6 ht3).1).2.1) ?_
    refine Eq.trans (ev_aload_n (pc := 58) (x := 0) k_22_58 rfl rfl (by decide)) ?_
    refine Eq.trans (ev_getT (pc := 59) k_22_59 rfl zo_0.1) (z_cot fun t5 ht5 => ?_)
    refine Eq.trans (ev_vv (pc := 62) (as := []) (rest := []) k_22_62 rfl (zTw_6 ht5).1 rfl rfl (Nat.le_of_ble_eq_true rfl) (Nat.le_of_ble_eq_true rfl)) (z_cbv fun h6 => ?_)
    refine Eq.trans (ev_aload_n (pc := 65) (x := 0) k_22_65 rfl rfl (by decide)) ?_
    refine Eq.trans (ev_getR (pc := 66) (b := 26) k_22_66 rfl zo_0.1 zg_0_5) ?_
    refine Eq.trans (ev_aload_n (pc := 69) (x := 0) k_22_69 rfl rfl (by decide)) ?_
    refine Eq.trans (ev_getT (pc := 70) k_22_70 rfl zo_0.1) (z_cot fun t7 ht7 => ?_)
    refine Eq.trans (ev_vv (pc := 73) (as := [.ref t7]) (rest := []) k_22_73 rfl zo_26 rfl rfl (Nat.le_of_ble_eq_true rfl) (Nat.le_of_ble_eq_true rfl)) (z_cbv fun h8 => ?_)
    refine Eq.trans (ev_aload_n (pc := 76) (x := 0) k_22_76 rfl rfl (by decide)) ?_
    refine Eq.trans (ev_getR (pc := 77) (b := 21) k_22_77 rfl zo_0.1 zg_0_4) ?_
    refine Eq.trans (ev_iconst (pc := 80) (v := 0) k_22_80 rfl (by decide)) ?_
    refine Eq.trans (ev_putI (pc := 81) k_22_81 rfl zo_21.1) ?_
    refine Eq.trans (ev_iconst (pc := 84) (v := 0) k_22_84 rfl (by decide)) ?_
    refine Eq.trans (ev_istore_n (pc := 85) (lv' := [some (.ref 0), some (.int x2), some (.ref t3), some (.int 0)]) k_22_85 rfl (Nat.le_of_ble_eq_true rfl) rfl) ?_
    exact ev_mk kd_22_86 rfl
  · refine Eq.trans (ev_bipush (pc := 35) (v := (-10)) k_22_35 rfl (by decide)) ?_
    refine Eq.trans (ev_iload_n (pc := 37) k_22_37 rfl rfl) ?_
    refine Eq.trans (ev_isub (pc := 38) k_22_38 rfl) ?_
    exact ev_ret_int k_22_39 rfl rt_22

set_option maxRecDepth 100000 in
theorem E_X_town_86 (sc : zSc) (d : Nat) (h : zHp) (v3 : Int32) : zE sc (d + 1) 22 86 [some (.ref 0), none, none, some (.int v3)] [] zGL h = (if v3 < (2 : Int32) then (if zin v3 2 = true then zE sc (d + 1) 22 86 [some (.ref 0), none, none, some (.int (v3 + 1))] [] zGL (zPI h 45 v3.toNatClampNeg 0) else none) else (zOT (h.2.2 0 8) fun t1 ht1 => some (some (.int (h.1 t1 1)), zGL, h))) := by
  refine Eq.trans (ev_iload_n (pc := 86) k_22_86 rfl rfl) ?_
  refine Eq.trans (ev_iconst (pc := 87) (v := 2) k_22_87 rfl (by decide)) ?_
  refine Eq.trans (ev_icge (pc := 88) k_22_88.1 rfl k_22_88.2) (z_ite ?_ ?_)
  · refine Eq.trans (ev_aload_n (pc := 91) (x := 0) k_22_91 rfl rfl (by decide)) ?_
    refine Eq.trans (ev_getR (pc := 92) (b := 45) k_22_92 rfl zo_0.1 zg_0_7) ?_
    refine Eq.trans (ev_iload_n (pc := 95) k_22_95 rfl rfl) ?_
    refine Eq.trans (ev_iconst (pc := 96) (v := 0) k_22_96 rfl (by decide)) ?_
    refine Eq.trans (ev_bast_c (pc := 97) k_22_97 rfl za_45 (by decide)) (z_it1 ?_)
    refine Eq.trans (ev_iinc (pc := 98) (v := 1) (lv' := [some (.ref 0), none, none, some (.int (v3 + 1))]) k_22_98 rfl rfl (by decide) rfl) ?_
    refine Eq.trans (ev_goto (pc := 101) k_22_101.1 rfl k_22_101.2) ?_
    exact ev_mk kd_22_86 rfl
  · refine Eq.trans (ev_aload_n (pc := 104) (x := 0) k_22_104 rfl rfl (by decide)) ?_
    refine Eq.trans (ev_getT (pc := 105) k_22_105 rfl zo_0.1) (z_cot fun t1 ht1 => ?_)
    refine Eq.trans (ev_getI (pc := 108) k_22_108 rfl (zTw_6 ht1).1.1) ?_
    exact ev_ret_int k_22_111 rfl rt_22

set_option maxRecDepth 100000 in
theorem E_X_fault (sc : zSc) (d : Nat) (h : zHp)  : zRun sc d 48 [.ref 0] zGL h = some (some (.int (h.1 0 10)), zGL, h) := by
  have he : zEnt 48 [.ref 0] = [some (.ref 0)] := by unfold zEnt; rw [ml_48]; rfl
  unfold zRun
  rw [he]
  refine Eq.trans (ev_aload_n (pc := 0) (x := 0) k_48_0 rfl rfl (by decide)) ?_
  refine Eq.trans (ev_getI (pc := 1) k_48_1 rfl zo_0.1) ?_
  exact ev_ret_int k_48_4 rfl rt_48

set_option maxRecDepth 100000 in
theorem E_X_told (sc : zSc) (d : Nat) (h : zHp) (v1 : Int32) : zRun sc (d + 1) 49 [.ref 0, .int v1] zGL h = (if v1 = 0 then (zOT (h.2.2 0 8) fun t1 ht1 => some (some (.int (h.1 t1 0)), zGL, h)) else (if v1 = 1 then (zOT (h.2.2 0 8) fun t2 ht2 => some (some (.int (h.1 t2 1)), zGL, h)) else (if v1 = 2 then (zOT (h.2.2 0 8) fun t3 ht3 => some (some (.int (h.1 t3 2)), zGL, h)) else (if v1 = 3 then some (some (.int (h.1 1 1)), zGL, h) else (if v1 = 4 then some (some (.int (h.1 26 5)), zGL, h) else (if v1 = 5 then some (some (.int (h.1 21 4)), zGL, h) else (if v1 = 6 then (zOT (h.2.2 0 8) fun t4 ht4 => (zBi (zRun sc d 50 [.long (h.2.1 t4 8)] zGL h) zGL fun x5 h5 => some (some (.int x5), zGL, h5))) else some (some (.int (-1000000002)), zGL, h)))))))) := by
  have he : zEnt 49 [.ref 0, .int v1] = [some (.ref 0), some (.int v1)] := by unfold zEnt; rw [ml_49]; rfl
  unfold zRun
  rw [he]
  refine Eq.trans (ev_iload_n (pc := 0) k_49_0 rfl rfl) ?_
  by_cases e0 : v1 = 0
  · rw [if_pos e0, e0]
    refine Eq.trans (ev_sw (pc := 1) (t := 44) k_49_1 rfl ⟨rfl, rfl⟩ (z_tsI (o := 43) (by decide) (by decide) (by decide))) ?_
    refine Eq.trans (ev_aload_n (pc := 44) (x := 0) k_49_44 rfl rfl (by decide)) ?_
    refine Eq.trans (ev_getT (pc := 45) k_49_45 rfl zo_0.1) (z_cot fun t1 ht1 => ?_)
    refine Eq.trans (ev_getI (pc := 48) k_49_48 rfl (zTw_6 ht1).1.1) ?_
    exact ev_ret_int k_49_51 rfl rt_49
  · rw [if_neg e0]
    by_cases e1 : v1 = 1
    · rw [if_pos e1, e1]
      refine Eq.trans (ev_sw (pc := 1) (t := 52) k_49_1 rfl ⟨rfl, rfl⟩ (z_tsI (o := 51) (by decide) (by decide) (by decide))) ?_
      refine Eq.trans (ev_aload_n (pc := 52) (x := 0) k_49_52 rfl rfl (by decide)) ?_
      refine Eq.trans (ev_getT (pc := 53) k_49_53 rfl zo_0.1) (z_cot fun t2 ht2 => ?_)
      refine Eq.trans (ev_getI (pc := 56) k_49_56 rfl (zTw_6 ht2).1.1) ?_
      exact ev_ret_int k_49_59 rfl rt_49
    · rw [if_neg e1]
      by_cases e2 : v1 = 2
      · rw [if_pos e2, e2]
        refine Eq.trans (ev_sw (pc := 1) (t := 60) k_49_1 rfl ⟨rfl, rfl⟩ (z_tsI (o := 59) (by decide) (by decide) (by decide))) ?_
        refine Eq.trans (ev_aload_n (pc := 60) (x := 0) k_49_60 rfl rfl (by decide)) ?_
        refine Eq.trans (ev_getT (pc := 61) k_49_61 rfl zo_0.1) (z_cot fun t3 ht3 => ?_)
        refine Eq.trans (ev_getI (pc := 64) k_49_64 rfl (zTw_6 ht3).1.1) ?_
        exact ev_ret_int k_49_67 rfl rt_49
      · rw [if_neg e2]
        by_cases e3 : v1 = 3
        · rw [if_pos e3, e3]
          refine Eq.trans (ev_sw (pc := 1) (t := 68) k_49_1 rfl ⟨rfl, rfl⟩ (z_tsI (o := 67) (by decide) (by decide) (by decide))) ?_
          refine Eq.trans (ev_aload_n (pc := 68) (x := 0) k_49_68 rfl rfl (by decide)) ?_
          refine Eq.trans (ev_getR (pc := 69) (b := 1) k_49_69 rfl zo_0.1 zg_0_0) ?_
          refine Eq.trans (ev_getI (pc := 72) k_49_72 rfl zo_1.1) ?_
          exact ev_ret_int k_49_75 rfl rt_49
        · rw [if_neg e3]
          by_cases e4 : v1 = 4
          · rw [if_pos e4, e4]
            refine Eq.trans (ev_sw (pc := 1) (t := 76) k_49_1 rfl ⟨rfl, rfl⟩ (z_tsI (o := 75) (by decide) (by decide) (by decide))) ?_
            refine Eq.trans (ev_aload_n (pc := 76) (x := 0) k_49_76 rfl rfl (by decide)) ?_
            refine Eq.trans (ev_getR (pc := 77) (b := 26) k_49_77 rfl zo_0.1 zg_0_5) ?_
            refine Eq.trans (ev_getI (pc := 80) k_49_80 rfl zo_26.1) ?_
            exact ev_ret_int k_49_83 rfl rt_49
          · rw [if_neg e4]
            by_cases e5 : v1 = 5
            · rw [if_pos e5, e5]
              refine Eq.trans (ev_sw (pc := 1) (t := 84) k_49_1 rfl ⟨rfl, rfl⟩ (z_tsI (o := 83) (by decide) (by decide) (by decide))) ?_
              refine Eq.trans (ev_aload_n (pc := 84) (x := 0) k_49_84 rfl rfl (by decide)) ?_
              refine Eq.trans (ev_getR (pc := 85) (b := 21) k_49_85 rfl zo_0.1 zg_0_4) ?_
              refine Eq.trans (ev_getI (pc := 88) k_49_88 rfl zo_21.1) ?_
              exact ev_ret_int k_49_91 rfl rt_49
            · rw [if_neg e5]
              by_cases e6 : v1 = 6
              · rw [if_pos e6, e6]
                refine Eq.trans (ev_sw (pc := 1) (t := 92) k_49_1 rfl ⟨rfl, rfl⟩ (z_tsI (o := 91) (by decide) (by decide) (by decide))) ?_
                refine Eq.trans (ev_aload_n (pc := 92) (x := 0) k_49_92 rfl rfl (by decide)) ?_
                refine Eq.trans (ev_getT (pc := 93) k_49_93 rfl zo_0.1) (z_cot fun t4 ht4 => ?_)
                refine Eq.trans (ev_getL (pc := 96) k_49_96 rfl (zTw_6 ht4).1.1) ?_
                refine Eq.trans (ev_si (pc := 99) (as := [.long (h.2.1 t4 8)]) (rest := []) k_49_99 rfl rfl rfl (Nat.le_of_ble_eq_true rfl) (Nat.le_of_ble_eq_true rfl)) (z_cbi fun x5 h5 => ?_)
                exact ev_ret_int k_49_102 rfl rt_49
              · rw [if_neg e6]
                have f0 : (v1).toInt ≠ 0 := fun z => e0 (Int32.toInt_inj.mp (z.trans (by decide)))
                have f1 : (v1).toInt ≠ 1 := fun z => e1 (Int32.toInt_inj.mp (z.trans (by decide)))
                have f2 : (v1).toInt ≠ 2 := fun z => e2 (Int32.toInt_inj.mp (z.trans (by decide)))
                have f3 : (v1).toInt ≠ 3 := fun z => e3 (Int32.toInt_inj.mp (z.trans (by decide)))
                have f4 : (v1).toInt ≠ 4 := fun z => e4 (Int32.toInt_inj.mp (z.trans (by decide)))
                have f5 : (v1).toInt ≠ 5 := fun z => e5 (Int32.toInt_inj.mp (z.trans (by decide)))
                have f6 : (v1).toInt ≠ 6 := fun z => e6 (Int32.toInt_inj.mp (z.trans (by decide)))
                refine Eq.trans (ev_sw (pc := 1) (t := 103) k_49_1 rfl ⟨rfl, rfl⟩ (z_tsO (by omega) (by decide))) ?_
                refine Eq.trans (ev_ldc (pc := 103) (v := (-1000000002)) k_49_103 rfl) ?_
                exact ev_ret_int k_49_105 rfl rt_49

set_option maxRecDepth 100000 in
theorem E_X_fact (sc : zSc) (d : Nat) (h : zHp) (v1 : Int32) (v2 : Int32) : zRun sc (d + 1) 51 [.ref 0, .int v1, .int v2] zGL h = (zBi (zRun sc d 52 [.ref 0, .int v1] zGL h) zGL fun x1 h1 => (if x1 = 0 then some (some (.int (-1000000001)), zGL, h1) else (if v2 = 0 then (zOT (h1.2.2 0 8) fun t2 ht2 => (if zin v1 6 = true then some (some (.int (h1.1 (t2 + 1) v1.toNatClampNeg)), zGL, h1) else none)) else (if v2 = 1 then (zOT (h1.2.2 0 8) fun t3 ht3 => (if zin v1 6 = true then some (some (.int (h1.1 (t3 + 2) v1.toNatClampNeg)), zGL, h1) else none)) else (if v2 = 2 then (zOT (h1.2.2 0 8) fun t4 ht4 => (zBi (zRun sc d 53 [.ref 26, .ref t4, .int v1] zGL h1) zGL fun x5 h5 => some (some (.int x5), zGL, h5))) else some (some (.int (-1000000002)), zGL, h1)))))) := by
  have he : zEnt 51 [.ref 0, .int v1, .int v2] = [some (.ref 0), some (.int v1), some (.int v2)] := by unfold zEnt; rw [ml_51]; rfl
  unfold zRun
  rw [he]
  refine Eq.trans (ev_aload_n (pc := 0) (x := 0) k_51_0 rfl rfl (by decide)) ?_
  refine Eq.trans (ev_iload_n (pc := 1) k_51_1 rfl rfl) ?_
  refine Eq.trans (ev_vi (pc := 2) (as := [.int v1]) (rest := []) k_51_2 rfl zo_0 rfl rfl (Nat.le_of_ble_eq_true rfl) (Nat.le_of_ble_eq_true rfl)) (z_cbi fun x1 h1 => ?_)
  refine Eq.trans (ev_ifne (pc := 5) k_51_5.1 rfl k_51_5.2) (z_ite ?_ ?_)
  · refine Eq.trans (ev_ldc (pc := 8) (v := (-1000000001)) k_51_8 rfl) ?_
    exact ev_ret_int k_51_10 rfl rt_51
  · refine Eq.trans (ev_iload_n (pc := 11) k_51_11 rfl rfl) ?_
    by_cases e0 : v2 = 0
    · rw [if_pos e0, e0]
      refine Eq.trans (ev_sw (pc := 12) (t := 40) k_51_12 rfl ⟨rfl, rfl⟩ (z_tsI (o := 28) (by decide) (by decide) (by decide))) ?_
      refine Eq.trans (ev_aload_n (pc := 40) (x := 0) k_51_40 rfl rfl (by decide)) ?_
      refine Eq.trans (ev_getT (pc := 41) k_51_41 rfl zo_0.1) (z_cot fun t2 ht2 => ?_)
      refine Eq.trans (ev_getR (pc := 44) (b := t2 + 1) k_51_44 rfl (zTw_6 ht2).1.1 (zTw_6 ht2).2.1) ?_
      refine Eq.trans (ev_iload_n (pc := 47) k_51_47 rfl rfl) ?_
      refine Eq.trans (ev_iald_c (pc := 48) k_51_48 rfl (zTw_6 ht2).2.2.2.2.2.2.1) (z_it1 ?_)
      exact ev_ret_int k_51_49 rfl rt_51
    · rw [if_neg e0]
      by_cases e1 : v2 = 1
      · rw [if_pos e1, e1]
        refine Eq.trans (ev_sw (pc := 12) (t := 50) k_51_12 rfl ⟨rfl, rfl⟩ (z_tsI (o := 38) (by decide) (by decide) (by decide))) ?_
        refine Eq.trans (ev_aload_n (pc := 50) (x := 0) k_51_50 rfl rfl (by decide)) ?_
        refine Eq.trans (ev_getT (pc := 51) k_51_51 rfl zo_0.1) (z_cot fun t3 ht3 => ?_)
        refine Eq.trans (ev_getR (pc := 54) (b := t3 + 2) k_51_54 rfl (zTw_6 ht3).1.1 (zTw_6 ht3).2.2.1) ?_
        refine Eq.trans (ev_iload_n (pc := 57) k_51_57 rfl rfl) ?_
        refine Eq.trans (ev_iald_c (pc := 58) k_51_58 rfl (zTw_6 ht3).2.2.2.2.2.2.2.1) (z_it1 ?_)
        exact ev_ret_int k_51_59 rfl rt_51
      · rw [if_neg e1]
        by_cases e2 : v2 = 2
        · rw [if_pos e2, e2]
          refine Eq.trans (ev_sw (pc := 12) (t := 60) k_51_12 rfl ⟨rfl, rfl⟩ (z_tsI (o := 48) (by decide) (by decide) (by decide))) ?_
          refine Eq.trans (ev_aload_n (pc := 60) (x := 0) k_51_60 rfl rfl (by decide)) ?_
          refine Eq.trans (ev_getR (pc := 61) (b := 26) k_51_61 rfl zo_0.1 zg_0_5) ?_
          refine Eq.trans (ev_aload_n (pc := 64) (x := 0) k_51_64 rfl rfl (by decide)) ?_
          refine Eq.trans (ev_getT (pc := 65) k_51_65 rfl zo_0.1) (z_cot fun t4 ht4 => ?_)
          refine Eq.trans (ev_iload_n (pc := 68) k_51_68 rfl rfl) ?_
          refine Eq.trans (ev_vi (pc := 69) (as := [.ref t4, .int v1]) (rest := []) k_51_69 rfl zo_26 rfl rfl (Nat.le_of_ble_eq_true rfl) (Nat.le_of_ble_eq_true rfl)) (z_cbi fun x5 h5 => ?_)
          exact ev_ret_int k_51_72 rfl rt_51
        · rw [if_neg e2]
          have f0 : (v2).toInt ≠ 0 := fun z => e0 (Int32.toInt_inj.mp (z.trans (by decide)))
          have f1 : (v2).toInt ≠ 1 := fun z => e1 (Int32.toInt_inj.mp (z.trans (by decide)))
          have f2 : (v2).toInt ≠ 2 := fun z => e2 (Int32.toInt_inj.mp (z.trans (by decide)))
          refine Eq.trans (ev_sw (pc := 12) (t := 73) k_51_12 rfl ⟨rfl, rfl⟩ (z_tsO (by omega) (by decide))) ?_
          refine Eq.trans (ev_ldc (pc := 73) (v := (-1000000002)) k_51_73 rfl) ?_
          exact ev_ret_int k_51_75 rfl rt_51

set_option maxRecDepth 100000 in
theorem E_X_isFact (sc : zSc) (d : Nat) (h : zHp) (v1 : Int32) : zRun sc d 52 [.ref 0, .int v1] zGL h = (if v1 < 0 then some (some (.int 0), zGL, h) else (zOT (h.2.2 0 8) fun t1 ht1 => (if v1 < (h.1 t1 0) then some (some (.int 1), zGL, h) else some (some (.int 0), zGL, h)))) := by
  have he : zEnt 52 [.ref 0, .int v1] = [some (.ref 0), some (.int v1)] := by unfold zEnt; rw [ml_52]; rfl
  unfold zRun
  rw [he]
  refine Eq.trans (ev_iload_n (pc := 0) k_52_0 rfl rfl) ?_
  refine Eq.trans (ev_iflt (pc := 1) k_52_1.1 rfl k_52_1.2) (z_ite ?_ ?_)
  · refine Eq.trans (ev_mk (pc := 19) (lv' := [none, none]) kd_52_19 rfl) ?_
    refine Eq.trans (ev_iconst (pc := 19) (v := 0) k_52_19 rfl (by decide)) ?_
    exact ev_ret_b1 k_52_20 rfl rt_52 (by decide)
  · refine Eq.trans (ev_iload_n (pc := 4) k_52_4 rfl rfl) ?_
    refine Eq.trans (ev_aload_n (pc := 5) (x := 0) k_52_5 rfl rfl (by decide)) ?_
    refine Eq.trans (ev_getT (pc := 6) k_52_6 rfl zo_0.1) (z_cot fun t1 ht1 => ?_)
    refine Eq.trans (ev_getI (pc := 9) k_52_9 rfl (zTw_6 ht1).1.1) ?_
    refine Eq.trans (ev_icge (pc := 12) k_52_12.1 rfl k_52_12.2) (z_ite ?_ ?_)
    · refine Eq.trans (ev_iconst (pc := 15) (v := 1) k_52_15 rfl (by decide)) ?_
      refine Eq.trans (ev_goto (pc := 16) k_52_16.1 rfl k_52_16.2) ?_
      refine Eq.trans (ev_mk (pc := 20) (lv' := [none, none]) kd_52_20 rfl) ?_
      exact ev_ret_b1 k_52_20 rfl rt_52 (by decide)
    · refine Eq.trans (ev_mk (pc := 19) (lv' := [none, none]) kd_52_19 rfl) ?_
      refine Eq.trans (ev_iconst (pc := 19) (v := 0) k_52_19 rfl (by decide)) ?_
      exact ev_ret_b1 k_52_20 rfl rt_52 (by decide)

set_option maxRecDepth 100000 in
theorem E_X_person (sc : zSc) (d : Nat) (h : zHp) (v1 : Int32) (v2 : Int32) : zRun sc (d + 1) 54 [.ref 0, .int v1, .int v2] zGL h = (zBi (zRun sc d 55 [.ref 0, .int v1] zGL h) zGL fun x1 h1 => (if x1 = 0 then some (some (.int (-1000000001)), zGL, h1) else (if v2 = 0 then (if zin v1 5 = true then some (some (.int (h1.1 27 v1.toNatClampNeg)), zGL, h1) else none) else (if v2 = 1 then (if zin v1 5 = true then some (some (.int (h1.1 28 v1.toNatClampNeg)), zGL, h1) else none) else (if v2 = 2 then (if zin v1 5 = true then some (some (.int (h1.1 29 v1.toNatClampNeg)), zGL, h1) else none) else (if v2 = 3 then (zOT (h1.2.2 0 8) fun t2 ht2 => (zBi (zRun sc d 56 [.ref 26, .ref t2, .int v1] zGL h1) zGL fun x3 h3 => some (some (.int x3), zGL, h3))) else some (some (.int (-1000000002)), zGL, h1))))))) := by
  have he : zEnt 54 [.ref 0, .int v1, .int v2] = [some (.ref 0), some (.int v1), some (.int v2)] := by unfold zEnt; rw [ml_54]; rfl
  unfold zRun
  rw [he]
  refine Eq.trans (ev_aload_n (pc := 0) (x := 0) k_54_0 rfl rfl (by decide)) ?_
  refine Eq.trans (ev_iload_n (pc := 1) k_54_1 rfl rfl) ?_
  refine Eq.trans (ev_vi (pc := 2) (as := [.int v1]) (rest := []) k_54_2 rfl zo_0 rfl rfl (Nat.le_of_ble_eq_true rfl) (Nat.le_of_ble_eq_true rfl)) (z_cbi fun x1 h1 => ?_)
  refine Eq.trans (ev_ifne (pc := 5) k_54_5.1 rfl k_54_5.2) (z_ite ?_ ?_)
  · refine Eq.trans (ev_ldc (pc := 8) (v := (-1000000001)) k_54_8 rfl) ?_
    exact ev_ret_int k_54_10 rfl rt_54
  · refine Eq.trans (ev_iload_n (pc := 11) k_54_11 rfl rfl) ?_
    by_cases e0 : v2 = 0
    · rw [if_pos e0, e0]
      refine Eq.trans (ev_sw (pc := 12) (t := 44) k_54_12 rfl ⟨rfl, rfl⟩ (z_tsI (o := 32) (by decide) (by decide) (by decide))) ?_
      refine Eq.trans (ev_aload_n (pc := 44) (x := 0) k_54_44 rfl rfl (by decide)) ?_
      refine Eq.trans (ev_getR (pc := 45) (b := 26) k_54_45 rfl zo_0.1 zg_0_5) ?_
      refine Eq.trans (ev_getR (pc := 48) (b := 27) k_54_48 rfl zo_26.1 zg_26_0) ?_
      refine Eq.trans (ev_iload_n (pc := 51) k_54_51 rfl rfl) ?_
      refine Eq.trans (ev_iald_c (pc := 52) k_54_52 rfl za_27) (z_it1 ?_)
      exact ev_ret_int k_54_53 rfl rt_54
    · rw [if_neg e0]
      by_cases e1 : v2 = 1
      · rw [if_pos e1, e1]
        refine Eq.trans (ev_sw (pc := 12) (t := 54) k_54_12 rfl ⟨rfl, rfl⟩ (z_tsI (o := 42) (by decide) (by decide) (by decide))) ?_
        refine Eq.trans (ev_aload_n (pc := 54) (x := 0) k_54_54 rfl rfl (by decide)) ?_
        refine Eq.trans (ev_getR (pc := 55) (b := 26) k_54_55 rfl zo_0.1 zg_0_5) ?_
        refine Eq.trans (ev_getR (pc := 58) (b := 28) k_54_58 rfl zo_26.1 zg_26_1) ?_
        refine Eq.trans (ev_iload_n (pc := 61) k_54_61 rfl rfl) ?_
        refine Eq.trans (ev_iald_c (pc := 62) k_54_62 rfl za_28) (z_it1 ?_)
        exact ev_ret_int k_54_63 rfl rt_54
      · rw [if_neg e1]
        by_cases e2 : v2 = 2
        · rw [if_pos e2, e2]
          refine Eq.trans (ev_sw (pc := 12) (t := 64) k_54_12 rfl ⟨rfl, rfl⟩ (z_tsI (o := 52) (by decide) (by decide) (by decide))) ?_
          refine Eq.trans (ev_aload_n (pc := 64) (x := 0) k_54_64 rfl rfl (by decide)) ?_
          refine Eq.trans (ev_getR (pc := 65) (b := 26) k_54_65 rfl zo_0.1 zg_0_5) ?_
          refine Eq.trans (ev_getR (pc := 68) (b := 29) k_54_68 rfl zo_26.1 zg_26_2) ?_
          refine Eq.trans (ev_iload_n (pc := 71) k_54_71 rfl rfl) ?_
          refine Eq.trans (ev_iald_c (pc := 72) k_54_72 rfl za_29) (z_it1 ?_)
          exact ev_ret_int k_54_73 rfl rt_54
        · rw [if_neg e2]
          by_cases e3 : v2 = 3
          · rw [if_pos e3, e3]
            refine Eq.trans (ev_sw (pc := 12) (t := 74) k_54_12 rfl ⟨rfl, rfl⟩ (z_tsI (o := 62) (by decide) (by decide) (by decide))) ?_
            refine Eq.trans (ev_aload_n (pc := 74) (x := 0) k_54_74 rfl rfl (by decide)) ?_
            refine Eq.trans (ev_getR (pc := 75) (b := 26) k_54_75 rfl zo_0.1 zg_0_5) ?_
            refine Eq.trans (ev_aload_n (pc := 78) (x := 0) k_54_78 rfl rfl (by decide)) ?_
            refine Eq.trans (ev_getT (pc := 79) k_54_79 rfl zo_0.1) (z_cot fun t2 ht2 => ?_)
            refine Eq.trans (ev_iload_n (pc := 82) k_54_82 rfl rfl) ?_
            refine Eq.trans (ev_vi (pc := 83) (as := [.ref t2, .int v1]) (rest := []) k_54_83 rfl zo_26 rfl rfl (Nat.le_of_ble_eq_true rfl) (Nat.le_of_ble_eq_true rfl)) (z_cbi fun x3 h3 => ?_)
            exact ev_ret_int k_54_86 rfl rt_54
          · rw [if_neg e3]
            have f0 : (v2).toInt ≠ 0 := fun z => e0 (Int32.toInt_inj.mp (z.trans (by decide)))
            have f1 : (v2).toInt ≠ 1 := fun z => e1 (Int32.toInt_inj.mp (z.trans (by decide)))
            have f2 : (v2).toInt ≠ 2 := fun z => e2 (Int32.toInt_inj.mp (z.trans (by decide)))
            have f3 : (v2).toInt ≠ 3 := fun z => e3 (Int32.toInt_inj.mp (z.trans (by decide)))
            refine Eq.trans (ev_sw (pc := 12) (t := 87) k_54_12 rfl ⟨rfl, rfl⟩ (z_tsO (by omega) (by decide))) ?_
            refine Eq.trans (ev_ldc (pc := 87) (v := (-1000000002)) k_54_87 rfl) ?_
            exact ev_ret_int k_54_89 rfl rt_54

set_option maxRecDepth 100000 in
theorem E_X_isPerson (sc : zSc) (d : Nat) (h : zHp) (v1 : Int32) : zRun sc d 55 [.ref 0, .int v1] zGL h = (if v1 < 0 then some (some (.int 0), zGL, h) else (zOT (h.2.2 0 8) fun t1 ht1 => (if v1 < (h.1 t1 1) then some (some (.int 1), zGL, h) else some (some (.int 0), zGL, h)))) := by
  have he : zEnt 55 [.ref 0, .int v1] = [some (.ref 0), some (.int v1)] := by unfold zEnt; rw [ml_55]; rfl
  unfold zRun
  rw [he]
  refine Eq.trans (ev_iload_n (pc := 0) k_55_0 rfl rfl) ?_
  refine Eq.trans (ev_iflt (pc := 1) k_55_1.1 rfl k_55_1.2) (z_ite ?_ ?_)
  · refine Eq.trans (ev_mk (pc := 19) (lv' := [none, none]) kd_55_19 rfl) ?_
    refine Eq.trans (ev_iconst (pc := 19) (v := 0) k_55_19 rfl (by decide)) ?_
    exact ev_ret_b1 k_55_20 rfl rt_55 (by decide)
  · refine Eq.trans (ev_iload_n (pc := 4) k_55_4 rfl rfl) ?_
    refine Eq.trans (ev_aload_n (pc := 5) (x := 0) k_55_5 rfl rfl (by decide)) ?_
    refine Eq.trans (ev_getT (pc := 6) k_55_6 rfl zo_0.1) (z_cot fun t1 ht1 => ?_)
    refine Eq.trans (ev_getI (pc := 9) k_55_9 rfl (zTw_6 ht1).1.1) ?_
    refine Eq.trans (ev_icge (pc := 12) k_55_12.1 rfl k_55_12.2) (z_ite ?_ ?_)
    · refine Eq.trans (ev_iconst (pc := 15) (v := 1) k_55_15 rfl (by decide)) ?_
      refine Eq.trans (ev_goto (pc := 16) k_55_16.1 rfl k_55_16.2) ?_
      refine Eq.trans (ev_mk (pc := 20) (lv' := [none, none]) kd_55_20 rfl) ?_
      exact ev_ret_b1 k_55_20 rfl rt_55 (by decide)
    · refine Eq.trans (ev_mk (pc := 19) (lv' := [none, none]) kd_55_19 rfl) ?_
      refine Eq.trans (ev_iconst (pc := 19) (v := 0) k_55_19 rfl (by decide)) ?_
      exact ev_ret_b1 k_55_20 rfl rt_55 (by decide)

set_option maxRecDepth 100000 in
theorem E_X_closed (sc : zSc) (d : Nat) (h : zHp) (v1 : Int32) : zRun sc (d + 1) 58 [.ref 0, .int v1] zGL h = (zBi (zRun sc d 59 [.ref 0, .int v1] zGL h) zGL fun x1 h1 => (if x1 = 0 then some (some (.int (-1000000001)), zGL, h1) else (zOT (h1.2.2 0 8) fun t2 ht2 => (zBi (zRun sc d 18 [.ref t2, .int v1] zGL h1) zGL fun x3 h3 => some (some (.int x3), zGL, h3))))) := by
  have he : zEnt 58 [.ref 0, .int v1] = [some (.ref 0), some (.int v1)] := by unfold zEnt; rw [ml_58]; rfl
  unfold zRun
  rw [he]
  refine Eq.trans (ev_aload_n (pc := 0) (x := 0) k_58_0 rfl rfl (by decide)) ?_
  refine Eq.trans (ev_iload_n (pc := 1) k_58_1 rfl rfl) ?_
  refine Eq.trans (ev_vi (pc := 2) (as := [.int v1]) (rest := []) k_58_2 rfl zo_0 rfl rfl (Nat.le_of_ble_eq_true rfl) (Nat.le_of_ble_eq_true rfl)) (z_cbi fun x1 h1 => ?_)
  refine Eq.trans (ev_ifeq (pc := 5) k_58_5.1 rfl k_58_5.2) (z_ite ?_ ?_)
  · refine Eq.trans (ev_ldc (pc := 19) (v := (-1000000001)) k_58_19 rfl) ?_
    refine Eq.trans (ev_mk (pc := 21) (lv' := [none, none]) kd_58_21 rfl) ?_
    exact ev_ret_int k_58_21 rfl rt_58
  · refine Eq.trans (ev_aload_n (pc := 8) (x := 0) k_58_8 rfl rfl (by decide)) ?_
    refine Eq.trans (ev_getT (pc := 9) k_58_9 rfl zo_0.1) (z_cot fun t2 ht2 => ?_)
    refine Eq.trans (ev_iload_n (pc := 12) k_58_12 rfl rfl) ?_
    refine Eq.trans (ev_vi (pc := 13) (as := [.int v1]) (rest := []) k_58_13 rfl (zTw_6 ht2).1 rfl rfl (Nat.le_of_ble_eq_true rfl) (Nat.le_of_ble_eq_true rfl)) (z_cbi fun x3 h3 => ?_)
    refine Eq.trans (ev_goto (pc := 16) k_58_16.1 rfl k_58_16.2) ?_
    refine Eq.trans (ev_mk (pc := 21) (lv' := [none, none]) kd_58_21 rfl) ?_
    exact ev_ret_int k_58_21 rfl rt_58

set_option maxRecDepth 100000 in
theorem E_X_isFactSet (sc : zSc) (d : Nat) (h : zHp) (v1 : Int32) : zRun sc d 59 [.ref 0, .int v1] zGL h = (if v1 < 0 then some (some (.int 0), zGL, h) else (zOT (h.2.2 0 8) fun t1 ht1 => (if v1 < ((1 : Int32) <<< ((h.1 t1 0) &&& 31)) then some (some (.int 1), zGL, h) else some (some (.int 0), zGL, h)))) := by
  have he : zEnt 59 [.ref 0, .int v1] = [some (.ref 0), some (.int v1)] := by unfold zEnt; rw [ml_59]; rfl
  unfold zRun
  rw [he]
  refine Eq.trans (ev_iload_n (pc := 0) k_59_0 rfl rfl) ?_
  refine Eq.trans (ev_iflt (pc := 1) k_59_1.1 rfl k_59_1.2) (z_ite ?_ ?_)
  · refine Eq.trans (ev_mk (pc := 21) (lv' := [none, none]) kd_59_21 rfl) ?_
    refine Eq.trans (ev_iconst (pc := 21) (v := 0) k_59_21 rfl (by decide)) ?_
    exact ev_ret_b1 k_59_22 rfl rt_59 (by decide)
  · refine Eq.trans (ev_iload_n (pc := 4) k_59_4 rfl rfl) ?_
    refine Eq.trans (ev_iconst (pc := 5) (v := 1) k_59_5 rfl (by decide)) ?_
    refine Eq.trans (ev_aload_n (pc := 6) (x := 0) k_59_6 rfl rfl (by decide)) ?_
    refine Eq.trans (ev_getT (pc := 7) k_59_7 rfl zo_0.1) (z_cot fun t1 ht1 => ?_)
    refine Eq.trans (ev_getI (pc := 10) k_59_10 rfl (zTw_6 ht1).1.1) ?_
    refine Eq.trans (ev_ishl (pc := 13) k_59_13 rfl) ?_
    refine Eq.trans (ev_icge (pc := 14) k_59_14.1 rfl k_59_14.2) (z_ite ?_ ?_)
    · refine Eq.trans (ev_iconst (pc := 17) (v := 1) k_59_17 rfl (by decide)) ?_
      refine Eq.trans (ev_goto (pc := 18) k_59_18.1 rfl k_59_18.2) ?_
      refine Eq.trans (ev_mk (pc := 22) (lv' := [none, none]) kd_59_22 rfl) ?_
      exact ev_ret_b1 k_59_22 rfl rt_59 (by decide)
    · refine Eq.trans (ev_mk (pc := 21) (lv' := [none, none]) kd_59_21 rfl) ?_
      refine Eq.trans (ev_iconst (pc := 21) (v := 0) k_59_21 rfl (by decide)) ?_
      exact ev_ret_b1 k_59_22 rfl rt_59 (by decide)

set_option maxRecDepth 100000 in
theorem E_X_canKnow (sc : zSc) (d : Nat) (h : zHp) (v1 : Int32) (v2 : Int32) (v3 : Int32) : zRun sc (d + 1) 60 [.ref 0, .int v1, .int v2, .int v3] zGL h = (zBi (zRun sc d 61 [.ref 0, .int v1, .int v2] zGL h) zGL fun x1 h1 => (if x1 = 0 then some (some (.int (-1000000001)), zGL, h1) else (zBj (zRun sc d 62 [.ref 26, .int v1, .int v2] zGL h1) zGL fun x2 h2 => (zBi (zRun sc d 63 [.long x2, .int v3] zGL h2) zGL fun x3 h3 => some (some (.int x3), zGL, h3))))) := by
  have he : zEnt 60 [.ref 0, .int v1, .int v2, .int v3] = [some (.ref 0), some (.int v1), some (.int v2), some (.int v3)] := by unfold zEnt; rw [ml_60]; rfl
  unfold zRun
  rw [he]
  refine Eq.trans (ev_aload_n (pc := 0) (x := 0) k_60_0 rfl rfl (by decide)) ?_
  refine Eq.trans (ev_iload_n (pc := 1) k_60_1 rfl rfl) ?_
  refine Eq.trans (ev_iload_n (pc := 2) k_60_2 rfl rfl) ?_
  refine Eq.trans (ev_vi (pc := 3) (as := [.int v1, .int v2]) (rest := []) k_60_3 rfl zo_0 rfl rfl (Nat.le_of_ble_eq_true rfl) (Nat.le_of_ble_eq_true rfl)) (z_cbi fun x1 h1 => ?_)
  refine Eq.trans (ev_ifeq (pc := 6) k_60_6.1 rfl k_60_6.2) (z_ite ?_ ?_)
  · refine Eq.trans (ev_ldc (pc := 25) (v := (-1000000001)) k_60_25 rfl) ?_
    refine Eq.trans (ev_mk (pc := 27) (lv' := [none, none, none, none]) kd_60_27 rfl) ?_
    exact ev_ret_int k_60_27 rfl rt_60
  · refine Eq.trans (ev_aload_n (pc := 9) (x := 0) k_60_9 rfl rfl (by decide)) ?_
    refine Eq.trans (ev_getR (pc := 10) (b := 26) k_60_10 rfl zo_0.1 zg_0_5) ?_
    refine Eq.trans (ev_iload_n (pc := 13) k_60_13 rfl rfl) ?_
    refine Eq.trans (ev_iload_n (pc := 14) k_60_14 rfl rfl) ?_
    refine Eq.trans (ev_vj (pc := 15) (as := [.int v1, .int v2]) (rest := []) k_60_15 rfl zo_26 rfl rfl (Nat.le_of_ble_eq_true rfl) (Nat.le_of_ble_eq_true rfl)) (z_cbj fun x2 h2 => ?_)
    refine Eq.trans (ev_iload_n (pc := 18) k_60_18 rfl rfl) ?_
    refine Eq.trans (ev_si (pc := 19) (as := [.long x2, .int v3]) (rest := []) k_60_19 rfl rfl rfl (Nat.le_of_ble_eq_true rfl) (Nat.le_of_ble_eq_true rfl)) (z_cbi fun x3 h3 => ?_)
    refine Eq.trans (ev_goto (pc := 22) k_60_22.1 rfl k_60_22.2) ?_
    refine Eq.trans (ev_mk (pc := 27) (lv' := [none, none, none, none]) kd_60_27 rfl) ?_
    exact ev_ret_int k_60_27 rfl rt_60

set_option maxRecDepth 100000 in
theorem E_X_areTwo (sc : zSc) (d : Nat) (h : zHp) (v1 : Int32) (v2 : Int32) : zRun sc (d + 1) 61 [.ref 0, .int v1, .int v2] zGL h = (zBi (zRun sc d 55 [.ref 0, .int v1] zGL h) zGL fun x1 h1 => (if x1 = 0 then some (some (.int 0), zGL, h1) else (zBi (zRun sc d 55 [.ref 0, .int v2] zGL h1) zGL fun x2 h2 => (if x2 = 0 then some (some (.int 0), zGL, h2) else (if v1 = v2 then some (some (.int 0), zGL, h2) else some (some (.int 1), zGL, h2)))))) := by
  have he : zEnt 61 [.ref 0, .int v1, .int v2] = [some (.ref 0), some (.int v1), some (.int v2)] := by unfold zEnt; rw [ml_61]; rfl
  unfold zRun
  rw [he]
  refine Eq.trans (ev_aload_n (pc := 0) (x := 0) k_61_0 rfl rfl (by decide)) ?_
  refine Eq.trans (ev_iload_n (pc := 1) k_61_1 rfl rfl) ?_
  refine Eq.trans (ev_vi (pc := 2) (as := [.int v1]) (rest := []) k_61_2 rfl zo_0 rfl rfl (Nat.le_of_ble_eq_true rfl) (Nat.le_of_ble_eq_true rfl)) (z_cbi fun x1 h1 => ?_)
  refine Eq.trans (ev_ifeq (pc := 5) k_61_5.1 rfl k_61_5.2) (z_ite ?_ ?_)
  · refine Eq.trans (ev_mk (pc := 25) (lv' := [none, none, none]) kd_61_25 rfl) ?_
    refine Eq.trans (ev_iconst (pc := 25) (v := 0) k_61_25 rfl (by decide)) ?_
    exact ev_ret_b1 k_61_26 rfl rt_61 (by decide)
  · refine Eq.trans (ev_aload_n (pc := 8) (x := 0) k_61_8 rfl rfl (by decide)) ?_
    refine Eq.trans (ev_iload_n (pc := 9) k_61_9 rfl rfl) ?_
    refine Eq.trans (ev_vi (pc := 10) (as := [.int v2]) (rest := []) k_61_10 rfl zo_0 rfl rfl (Nat.le_of_ble_eq_true rfl) (Nat.le_of_ble_eq_true rfl)) (z_cbi fun x2 h2 => ?_)
    refine Eq.trans (ev_ifeq (pc := 13) k_61_13.1 rfl k_61_13.2) (z_ite ?_ ?_)
    · refine Eq.trans (ev_mk (pc := 25) (lv' := [none, none, none]) kd_61_25 rfl) ?_
      refine Eq.trans (ev_iconst (pc := 25) (v := 0) k_61_25 rfl (by decide)) ?_
      exact ev_ret_b1 k_61_26 rfl rt_61 (by decide)
    · refine Eq.trans (ev_iload_n (pc := 16) k_61_16 rfl rfl) ?_
      refine Eq.trans (ev_iload_n (pc := 17) k_61_17 rfl rfl) ?_
      refine Eq.trans (ev_iceq (pc := 18) k_61_18.1 rfl k_61_18.2) (z_ite ?_ ?_)
      · refine Eq.trans (ev_mk (pc := 25) (lv' := [none, none, none]) kd_61_25 rfl) ?_
        refine Eq.trans (ev_iconst (pc := 25) (v := 0) k_61_25 rfl (by decide)) ?_
        exact ev_ret_b1 k_61_26 rfl rt_61 (by decide)
      · refine Eq.trans (ev_iconst (pc := 21) (v := 1) k_61_21 rfl (by decide)) ?_
        refine Eq.trans (ev_goto (pc := 22) k_61_22.1 rfl k_61_22.2) ?_
        refine Eq.trans (ev_mk (pc := 26) (lv' := [none, none, none]) kd_61_26 rfl) ?_
        exact ev_ret_b1 k_61_26 rfl rt_61 (by decide)

set_option maxRecDepth 100000 in
theorem E_X_sure (sc : zSc) (d : Nat) (h : zHp) (v1 : Int32) (v2 : Int32) (v3 : Int32) : zRun sc (d + 1) 64 [.ref 0, .int v1, .int v2, .int v3] zGL h = (zBi (zRun sc d 61 [.ref 0, .int v1, .int v2] zGL h) zGL fun x1 h1 => (if x1 = 0 then some (some (.int (-1000000001)), zGL, h1) else (if v3 = 0 then (zOT (h1.2.2 0 8) fun t2 ht2 => (zBi (zRun sc d 65 [.ref 26, .ref t2, .int v1, .int v2] zGL h1) zGL fun x3 h3 => some (some (.int x3), zGL, h3))) else (if v3 = 1 then (zOT (h1.2.2 0 8) fun t4 ht4 => (zBi (zRun sc d 67 [.ref 26, .ref t4, .int v1, .int v2] zGL h1) zGL fun x5 h5 => some (some (.int x5), zGL, h5))) else some (some (.int (-1000000002)), zGL, h1))))) := by
  have he : zEnt 64 [.ref 0, .int v1, .int v2, .int v3] = [some (.ref 0), some (.int v1), some (.int v2), some (.int v3)] := by unfold zEnt; rw [ml_64]; rfl
  unfold zRun
  rw [he]
  refine Eq.trans (ev_aload_n (pc := 0) (x := 0) k_64_0 rfl rfl (by decide)) ?_
  refine Eq.trans (ev_iload_n (pc := 1) k_64_1 rfl rfl) ?_
  refine Eq.trans (ev_iload_n (pc := 2) k_64_2 rfl rfl) ?_
  refine Eq.trans (ev_vi (pc := 3) (as := [.int v1, .int v2]) (rest := []) k_64_3 rfl zo_0 rfl rfl (Nat.le_of_ble_eq_true rfl) (Nat.le_of_ble_eq_true rfl)) (z_cbi fun x1 h1 => ?_)
  refine Eq.trans (ev_ifne (pc := 6) k_64_6.1 rfl k_64_6.2) (z_ite ?_ ?_)
  · refine Eq.trans (ev_ldc (pc := 9) (v := (-1000000001)) k_64_9 rfl) ?_
    exact ev_ret_int k_64_11 rfl rt_64
  · refine Eq.trans (ev_iload_n (pc := 12) k_64_12 rfl rfl) ?_
    by_cases e0 : v3 = 0
    · rw [if_pos e0, e0]
      refine Eq.trans (ev_sw (pc := 13) (t := 40) k_64_13 rfl ⟨rfl, rfl⟩ (z_lkI (o := 27) (by decide) (by decide) (by decide))) ?_
      refine Eq.trans (ev_aload_n (pc := 40) (x := 0) k_64_40 rfl rfl (by decide)) ?_
      refine Eq.trans (ev_getR (pc := 41) (b := 26) k_64_41 rfl zo_0.1 zg_0_5) ?_
      refine Eq.trans (ev_aload_n (pc := 44) (x := 0) k_64_44 rfl rfl (by decide)) ?_
      refine Eq.trans (ev_getT (pc := 45) k_64_45 rfl zo_0.1) (z_cot fun t2 ht2 => ?_)
      refine Eq.trans (ev_iload_n (pc := 48) k_64_48 rfl rfl) ?_
      refine Eq.trans (ev_iload_n (pc := 49) k_64_49 rfl rfl) ?_
      refine Eq.trans (ev_vi (pc := 50) (as := [.ref t2, .int v1, .int v2]) (rest := []) k_64_50 rfl zo_26 rfl rfl (Nat.le_of_ble_eq_true rfl) (Nat.le_of_ble_eq_true rfl)) (z_cbi fun x3 h3 => ?_)
      exact ev_ret_int k_64_53 rfl rt_64
    · rw [if_neg e0]
      by_cases e1 : v3 = 1
      · rw [if_pos e1, e1]
        refine Eq.trans (ev_sw (pc := 13) (t := 54) k_64_13 rfl ⟨rfl, rfl⟩ (z_lkI (o := 41) (by decide) (by decide) (by decide))) ?_
        refine Eq.trans (ev_aload_n (pc := 54) (x := 0) k_64_54 rfl rfl (by decide)) ?_
        refine Eq.trans (ev_getR (pc := 55) (b := 26) k_64_55 rfl zo_0.1 zg_0_5) ?_
        refine Eq.trans (ev_aload_n (pc := 58) (x := 0) k_64_58 rfl rfl (by decide)) ?_
        refine Eq.trans (ev_getT (pc := 59) k_64_59 rfl zo_0.1) (z_cot fun t4 ht4 => ?_)
        refine Eq.trans (ev_iload_n (pc := 62) k_64_62 rfl rfl) ?_
        refine Eq.trans (ev_iload_n (pc := 63) k_64_63 rfl rfl) ?_
        refine Eq.trans (ev_vi (pc := 64) (as := [.ref t4, .int v1, .int v2]) (rest := []) k_64_64 rfl zo_26 rfl rfl (Nat.le_of_ble_eq_true rfl) (Nat.le_of_ble_eq_true rfl)) (z_cbi fun x5 h5 => ?_)
        exact ev_ret_int k_64_67 rfl rt_64
      · rw [if_neg e1]
        have f0 : (v3).toInt ≠ 0 := fun z => e0 (Int32.toInt_inj.mp (z.trans (by decide)))
        have f1 : (v3).toInt ≠ 1 := fun z => e1 (Int32.toInt_inj.mp (z.trans (by decide)))
        refine Eq.trans (ev_sw (pc := 13) (t := 68) k_64_13 rfl ⟨rfl, rfl⟩ (z_lkI (o := 55) (by decide) (by simp [Op.lookupswitch.offset, f0, Ne.symm f0, f1, Ne.symm f1]) (by decide))) ?_
        refine Eq.trans (ev_ldc (pc := 68) (v := (-1000000002)) k_64_68 rfl) ?_
        exact ev_ret_int k_64_70 rfl rt_64

set_option maxRecDepth 100000 in
theorem E_X_safe (sc : zSc) (d : Nat) (h : zHp) (v1 : Int32) (v2 : Int32) : zRun sc (d + 1) 68 [.ref 0, .int v1, .int v2] zGL h = (zBi (zRun sc d 61 [.ref 0, .int v1, .int v2] zGL h) zGL fun x1 h1 => (if x1 = 0 then some (some (.int (-1000000001)), zGL, h1) else (zOT (h1.2.2 0 8) fun t2 ht2 => (zBi (zRun sc d 69 [.ref 26, .ref t2, .int v1, .int v2] zGL h1) zGL fun x3 h3 => some (some (.int x3), zGL, h3))))) := by
  have he : zEnt 68 [.ref 0, .int v1, .int v2] = [some (.ref 0), some (.int v1), some (.int v2)] := by unfold zEnt; rw [ml_68]; rfl
  unfold zRun
  rw [he]
  refine Eq.trans (ev_aload_n (pc := 0) (x := 0) k_68_0 rfl rfl (by decide)) ?_
  refine Eq.trans (ev_iload_n (pc := 1) k_68_1 rfl rfl) ?_
  refine Eq.trans (ev_iload_n (pc := 2) k_68_2 rfl rfl) ?_
  refine Eq.trans (ev_vi (pc := 3) (as := [.int v1, .int v2]) (rest := []) k_68_3 rfl zo_0 rfl rfl (Nat.le_of_ble_eq_true rfl) (Nat.le_of_ble_eq_true rfl)) (z_cbi fun x1 h1 => ?_)
  refine Eq.trans (ev_ifeq (pc := 6) k_68_6.1 rfl k_68_6.2) (z_ite ?_ ?_)
  · refine Eq.trans (ev_ldc (pc := 25) (v := (-1000000001)) k_68_25 rfl) ?_
    refine Eq.trans (ev_mk (pc := 27) (lv' := [none, none, none]) kd_68_27 rfl) ?_
    exact ev_ret_int k_68_27 rfl rt_68
  · refine Eq.trans (ev_aload_n (pc := 9) (x := 0) k_68_9 rfl rfl (by decide)) ?_
    refine Eq.trans (ev_getR (pc := 10) (b := 26) k_68_10 rfl zo_0.1 zg_0_5) ?_
    refine Eq.trans (ev_aload_n (pc := 13) (x := 0) k_68_13 rfl rfl (by decide)) ?_
    refine Eq.trans (ev_getT (pc := 14) k_68_14 rfl zo_0.1) (z_cot fun t2 ht2 => ?_)
    refine Eq.trans (ev_iload_n (pc := 17) k_68_17 rfl rfl) ?_
    refine Eq.trans (ev_iload_n (pc := 18) k_68_18 rfl rfl) ?_
    refine Eq.trans (ev_vi (pc := 19) (as := [.ref t2, .int v1, .int v2]) (rest := []) k_68_19 rfl zo_26 rfl rfl (Nat.le_of_ble_eq_true rfl) (Nat.le_of_ble_eq_true rfl)) (z_cbi fun x3 h3 => ?_)
    refine Eq.trans (ev_goto (pc := 22) k_68_22.1 rfl k_68_22.2) ?_
    refine Eq.trans (ev_mk (pc := 27) (lv' := [none, none, none]) kd_68_27 rfl) ?_
    exact ev_ret_int k_68_27 rfl rt_68

set_option maxRecDepth 100000 in
theorem E_X_odds (sc : zSc) (d : Nat) (h : zHp) (v1 : Int32) (v2 : Int32) (v3 : Int32) : zRun sc (d + 1) 70 [.ref 0, .int v1, .int v2, .int v3] zGL h = (zBi (zRun sc d 61 [.ref 0, .int v1, .int v2] zGL h) zGL fun x1 h1 => (if x1 = 0 then some (some (.int (-1000000001)), zGL, h1) else (zBi (zRun sc d 52 [.ref 0, .int v3] zGL h1) zGL fun x2 h2 => (if x2 = 0 then some (some (.int (-1000000001)), zGL, h2) else (zBi (zRun sc d 71 [.ref 26, .int v1, .int v2, .int v3] zGL h2) zGL fun x3 h3 => some (some (.int x3), zGL, h3)))))) := by
  have he : zEnt 70 [.ref 0, .int v1, .int v2, .int v3] = [some (.ref 0), some (.int v1), some (.int v2), some (.int v3)] := by unfold zEnt; rw [ml_70]; rfl
  unfold zRun
  rw [he]
  refine Eq.trans (ev_aload_n (pc := 0) (x := 0) k_70_0 rfl rfl (by decide)) ?_
  refine Eq.trans (ev_iload_n (pc := 1) k_70_1 rfl rfl) ?_
  refine Eq.trans (ev_iload_n (pc := 2) k_70_2 rfl rfl) ?_
  refine Eq.trans (ev_vi (pc := 3) (as := [.int v1, .int v2]) (rest := []) k_70_3 rfl zo_0 rfl rfl (Nat.le_of_ble_eq_true rfl) (Nat.le_of_ble_eq_true rfl)) (z_cbi fun x1 h1 => ?_)
  refine Eq.trans (ev_ifeq (pc := 6) k_70_6.1 rfl k_70_6.2) (z_ite ?_ ?_)
  · refine Eq.trans (ev_mk (pc := 30) (lv' := [none, none, none, none]) kd_70_30 rfl) ?_
    refine Eq.trans (ev_ldc (pc := 30) (v := (-1000000001)) k_70_30 rfl) ?_
    exact ev_ret_int k_70_32 rfl rt_70
  · refine Eq.trans (ev_aload_n (pc := 9) (x := 0) k_70_9 rfl rfl (by decide)) ?_
    refine Eq.trans (ev_iload_n (pc := 10) k_70_10 rfl rfl) ?_
    refine Eq.trans (ev_vi (pc := 11) (as := [.int v3]) (rest := []) k_70_11 rfl zo_0 rfl rfl (Nat.le_of_ble_eq_true rfl) (Nat.le_of_ble_eq_true rfl)) (z_cbi fun x2 h2 => ?_)
    refine Eq.trans (ev_ifeq (pc := 14) k_70_14.1 rfl k_70_14.2) (z_ite ?_ ?_)
    · refine Eq.trans (ev_mk (pc := 30) (lv' := [none, none, none, none]) kd_70_30 rfl) ?_
      refine Eq.trans (ev_ldc (pc := 30) (v := (-1000000001)) k_70_30 rfl) ?_
      exact ev_ret_int k_70_32 rfl rt_70
    · refine Eq.trans (ev_aload_n (pc := 17) (x := 0) k_70_17 rfl rfl (by decide)) ?_
      refine Eq.trans (ev_getR (pc := 18) (b := 26) k_70_18 rfl zo_0.1 zg_0_5) ?_
      refine Eq.trans (ev_iload_n (pc := 21) k_70_21 rfl rfl) ?_
      refine Eq.trans (ev_iload_n (pc := 22) k_70_22 rfl rfl) ?_
      refine Eq.trans (ev_iload_n (pc := 23) k_70_23 rfl rfl) ?_
      refine Eq.trans (ev_vi (pc := 24) (as := [.int v1, .int v2, .int v3]) (rest := []) k_70_24 rfl zo_26 rfl rfl (Nat.le_of_ble_eq_true rfl) (Nat.le_of_ble_eq_true rfl)) (z_cbi fun x3 h3 => ?_)
      refine Eq.trans (ev_goto (pc := 27) k_70_27.1 rfl k_70_27.2) ?_
      refine Eq.trans (ev_mk (pc := 32) (lv' := [none, none, none, none]) kd_70_32 rfl) ?_
      exact ev_ret_int k_70_32 rfl rt_70

set_option maxRecDepth 100000 in
theorem E_X_best (sc : zSc) (d : Nat) (h : zHp) (v1 : Int32) (v2 : Int32) : zRun sc (d + 1) 72 [.ref 0, .int v1, .int v2] zGL h = (zBi (zRun sc d 61 [.ref 0, .int v1, .int v2] zGL h) zGL fun x1 h1 => (if x1 = 0 then some (some (.int (-1000000001)), zGL, h1) else (zOT (h1.2.2 0 8) fun t2 ht2 => (zBi (zRun sc d 73 [.ref 26, .ref t2, .int v1, .int v2] zGL h1) zGL fun x3 h3 => some (some (.int x3), zGL, h3))))) := by
  have he : zEnt 72 [.ref 0, .int v1, .int v2] = [some (.ref 0), some (.int v1), some (.int v2)] := by unfold zEnt; rw [ml_72]; rfl
  unfold zRun
  rw [he]
  refine Eq.trans (ev_aload_n (pc := 0) (x := 0) k_72_0 rfl rfl (by decide)) ?_
  refine Eq.trans (ev_iload_n (pc := 1) k_72_1 rfl rfl) ?_
  refine Eq.trans (ev_iload_n (pc := 2) k_72_2 rfl rfl) ?_
  refine Eq.trans (ev_vi (pc := 3) (as := [.int v1, .int v2]) (rest := []) k_72_3 rfl zo_0 rfl rfl (Nat.le_of_ble_eq_true rfl) (Nat.le_of_ble_eq_true rfl)) (z_cbi fun x1 h1 => ?_)
  refine Eq.trans (ev_ifeq (pc := 6) k_72_6.1 rfl k_72_6.2) (z_ite ?_ ?_)
  · refine Eq.trans (ev_ldc (pc := 25) (v := (-1000000001)) k_72_25 rfl) ?_
    refine Eq.trans (ev_mk (pc := 27) (lv' := [none, none, none]) kd_72_27 rfl) ?_
    exact ev_ret_int k_72_27 rfl rt_72
  · refine Eq.trans (ev_aload_n (pc := 9) (x := 0) k_72_9 rfl rfl (by decide)) ?_
    refine Eq.trans (ev_getR (pc := 10) (b := 26) k_72_10 rfl zo_0.1 zg_0_5) ?_
    refine Eq.trans (ev_aload_n (pc := 13) (x := 0) k_72_13 rfl rfl (by decide)) ?_
    refine Eq.trans (ev_getT (pc := 14) k_72_14 rfl zo_0.1) (z_cot fun t2 ht2 => ?_)
    refine Eq.trans (ev_iload_n (pc := 17) k_72_17 rfl rfl) ?_
    refine Eq.trans (ev_iload_n (pc := 18) k_72_18 rfl rfl) ?_
    refine Eq.trans (ev_vi (pc := 19) (as := [.ref t2, .int v1, .int v2]) (rest := []) k_72_19 rfl zo_26 rfl rfl (Nat.le_of_ble_eq_true rfl) (Nat.le_of_ble_eq_true rfl)) (z_cbi fun x3 h3 => ?_)
    refine Eq.trans (ev_goto (pc := 22) k_72_22.1 rfl k_72_22.2) ?_
    refine Eq.trans (ev_mk (pc := 27) (lv' := [none, none, none]) kd_72_27 rfl) ?_
    exact ev_ret_int k_72_27 rfl rt_72

set_option maxRecDepth 100000 in
theorem E_X_say (sc : zSc) (d : Nat) (h : zHp) (v1 : Int32) (v2 : Int32) (v3 : Int32) (v4 : Int32) : zRun sc (d + 1) 74 [.ref 0, .int v1, .int v2, .int v3, .int v4] zGL h = (zBi (zRun sc d 61 [.ref 0, .int v1, .int v2] zGL h) zGL fun x1 h1 => (if x1 = 0 then some (some (.int (-1000000001)), zGL, h1) else (zBi (zRun sc d 52 [.ref 0, .int v3] zGL h1) zGL fun x2 h2 => (if x2 = 0 then some (some (.int (-1000000001)), zGL, h2) else (zBi (zRun sc d 75 [.ref 0, .int v4] zGL h2) zGL fun x3 h3 => (if x3 = 0 then some (some (.int (-1000000001)), zGL, h3) else (zBi (zRun sc d 11 [.int v4, .int v1] zGL h3) zGL fun x4 h4 => (if x4 = 0 then (zBi (zRun sc d 11 [.int v4, .int v2] zGL h4) zGL fun x5 h5 => (if x5 = 0 then (if zin v1 5 = true then (zBi (zRun sc d 11 [.int (h5.1 27 v1.toNatClampNeg), .int v3] zGL h5) zGL fun x6 h6 => (if x6 = 0 then some (some (.int (-1000000003)), zGL, h6) else (zOT (h6.2.2 0 8) fun t7 ht7 => (zBi (zRun sc d 77 [.ref 26, .ref t7, .int v1, .int v2, .int v3, .int v4] zGL h6) zGL fun x8 h8 => some (some (.int x8), zGL, h8))))) else none) else some (some (.int (-1000000001)), zGL, h5))) else some (some (.int (-1000000001)), zGL, h4))))))))) := by
  have he : zEnt 74 [.ref 0, .int v1, .int v2, .int v3, .int v4] = [some (.ref 0), some (.int v1), some (.int v2), some (.int v3), some (.int v4)] := by unfold zEnt; rw [ml_74]; rfl
  unfold zRun
  rw [he]
  refine Eq.trans (ev_aload_n (pc := 0) (x := 0) k_74_0 rfl rfl (by decide)) ?_
  refine Eq.trans (ev_iload_n (pc := 1) k_74_1 rfl rfl) ?_
  refine Eq.trans (ev_iload_n (pc := 2) k_74_2 rfl rfl) ?_
  refine Eq.trans (ev_vi (pc := 3) (as := [.int v1, .int v2]) (rest := []) k_74_3 rfl zo_0 rfl rfl (Nat.le_of_ble_eq_true rfl) (Nat.le_of_ble_eq_true rfl)) (z_cbi fun x1 h1 => ?_)
  refine Eq.trans (ev_ifeq (pc := 6) k_74_6.1 rfl k_74_6.2) (z_ite ?_ ?_)
  · refine Eq.trans (ev_mk (pc := 26) (lv' := [none, none, none, none, none]) kd_74_26 rfl) ?_
    refine Eq.trans (ev_ldc (pc := 26) (v := (-1000000001)) k_74_26 rfl) ?_
    exact ev_ret_int k_74_28 rfl rt_74
  · refine Eq.trans (ev_aload_n (pc := 9) (x := 0) k_74_9 rfl rfl (by decide)) ?_
    refine Eq.trans (ev_iload_n (pc := 10) k_74_10 rfl rfl) ?_
    refine Eq.trans (ev_vi (pc := 11) (as := [.int v3]) (rest := []) k_74_11 rfl zo_0 rfl rfl (Nat.le_of_ble_eq_true rfl) (Nat.le_of_ble_eq_true rfl)) (z_cbi fun x2 h2 => ?_)
    refine Eq.trans (ev_ifeq (pc := 14) k_74_14.1 rfl k_74_14.2) (z_ite ?_ ?_)
    · refine Eq.trans (ev_mk (pc := 26) (lv' := [none, none, none, none, none]) kd_74_26 rfl) ?_
      refine Eq.trans (ev_ldc (pc := 26) (v := (-1000000001)) k_74_26 rfl) ?_
      exact ev_ret_int k_74_28 rfl rt_74
    · refine Eq.trans (ev_aload_n (pc := 17) (x := 0) k_74_17 rfl rfl (by decide)) ?_
      refine Eq.trans (ev_iload (pc := 18) k_74_18 rfl rfl) ?_
      refine Eq.trans (ev_vi (pc := 20) (as := [.int v4]) (rest := []) k_74_20 rfl zo_0 rfl rfl (Nat.le_of_ble_eq_true rfl) (Nat.le_of_ble_eq_true rfl)) (z_cbi fun x3 h3 => ?_)
      refine Eq.trans (ev_ifne (pc := 23) k_74_23.1 rfl k_74_23.2) (z_ite ?_ ?_)
      · refine Eq.trans (ev_mk (pc := 26) (lv' := [none, none, none, none, none]) kd_74_26 rfl) ?_
        refine Eq.trans (ev_ldc (pc := 26) (v := (-1000000001)) k_74_26 rfl) ?_
        exact ev_ret_int k_74_28 rfl rt_74
      · refine Eq.trans (ev_iload (pc := 29) k_74_29 rfl rfl) ?_
        refine Eq.trans (ev_iload_n (pc := 31) k_74_31 rfl rfl) ?_
        refine Eq.trans (ev_si (pc := 32) (as := [.int v4, .int v1]) (rest := []) k_74_32 rfl rfl rfl (Nat.le_of_ble_eq_true rfl) (Nat.le_of_ble_eq_true rfl)) (z_cbi fun x4 h4 => ?_)
        refine Eq.trans (ev_ifne (pc := 35) k_74_35.1 rfl k_74_35.2) (z_ite ?_ ?_)
        · refine Eq.trans (ev_iload (pc := 38) k_74_38 rfl rfl) ?_
          refine Eq.trans (ev_iload_n (pc := 40) k_74_40 rfl rfl) ?_
          refine Eq.trans (ev_si (pc := 41) (as := [.int v4, .int v2]) (rest := []) k_74_41 rfl rfl rfl (Nat.le_of_ble_eq_true rfl) (Nat.le_of_ble_eq_true rfl)) (z_cbi fun x5 h5 => ?_)
          refine Eq.trans (ev_ifeq (pc := 44) k_74_44.1 rfl k_74_44.2) (z_ite ?_ ?_)
          · refine Eq.trans (ev_aload_n (pc := 50) (x := 0) k_74_50 rfl rfl (by decide)) ?_
            refine Eq.trans (ev_getR (pc := 51) (b := 26) k_74_51 rfl zo_0.1 zg_0_5) ?_
            refine Eq.trans (ev_getR (pc := 54) (b := 27) k_74_54 rfl zo_26.1 zg_26_0) ?_
            refine Eq.trans (ev_iload_n (pc := 57) k_74_57 rfl rfl) ?_
            refine Eq.trans (ev_iald_c (pc := 58) k_74_58 rfl za_27) (z_it1 ?_)
            refine Eq.trans (ev_iload_n (pc := 59) k_74_59 rfl rfl) ?_
            refine Eq.trans (ev_si (pc := 60) (as := [.int (h5.1 27 v1.toNatClampNeg), .int v3]) (rest := []) k_74_60 rfl rfl rfl (Nat.le_of_ble_eq_true rfl) (Nat.le_of_ble_eq_true rfl)) (z_cbi fun x6 h6 => ?_)
            refine Eq.trans (ev_ifeq (pc := 63) k_74_63.1 rfl k_74_63.2) (z_ite ?_ ?_)
            · refine Eq.trans (ev_ldc (pc := 85) (v := (-1000000003)) k_74_85 rfl) ?_
              refine Eq.trans (ev_mk (pc := 87) (lv' := [none, none, none, none, none]) kd_74_87 rfl) ?_
              exact ev_ret_int k_74_87 rfl rt_74
            · refine Eq.trans (ev_aload_n (pc := 66) (x := 0) k_74_66 rfl rfl (by decide)) ?_
              refine Eq.trans (ev_getR (pc := 67) (b := 26) k_74_67 rfl zo_0.1 zg_0_5) ?_
              refine Eq.trans (ev_aload_n (pc := 70) (x := 0) k_74_70 rfl rfl (by decide)) ?_
              refine Eq.trans (ev_getT (pc := 71) k_74_71 rfl zo_0.1) (z_cot fun t7 ht7 => ?_)
              refine Eq.trans (ev_iload_n (pc := 74) k_74_74 rfl rfl) ?_
              refine Eq.trans (ev_iload_n (pc := 75) k_74_75 rfl rfl) ?_
              refine Eq.trans (ev_iload_n (pc := 76) k_74_76 rfl rfl) ?_
              refine Eq.trans (ev_iload (pc := 77) k_74_77 rfl rfl) ?_
              refine Eq.trans (ev_vi (pc := 79) (as := [.ref t7, .int v1, .int v2, .int v3, .int v4]) (rest := []) k_74_79 rfl zo_26 rfl rfl (Nat.le_of_ble_eq_true rfl) (Nat.le_of_ble_eq_true rfl)) (z_cbi fun x8 h8 => ?_)
              refine Eq.trans (ev_goto (pc := 82) k_74_82.1 rfl k_74_82.2) ?_
              refine Eq.trans (ev_mk (pc := 87) (lv' := [none, none, none, none, none]) kd_74_87 rfl) ?_
              exact ev_ret_int k_74_87 rfl rt_74
          · refine Eq.trans (ev_mk (pc := 47) (lv' := [none, none, none, none, none]) kd_74_47 rfl) ?_
            refine Eq.trans (ev_ldc (pc := 47) (v := (-1000000001)) k_74_47 rfl) ?_
            exact ev_ret_int k_74_49 rfl rt_74
        · refine Eq.trans (ev_mk (pc := 47) (lv' := [none, none, none, none, none]) kd_74_47 rfl) ?_
          refine Eq.trans (ev_ldc (pc := 47) (v := (-1000000001)) k_74_47 rfl) ?_
          exact ev_ret_int k_74_49 rfl rt_74

set_option maxRecDepth 100000 in
theorem E_X_isPersonSet (sc : zSc) (d : Nat) (h : zHp) (v1 : Int32) : zRun sc (d + 1) 75 [.ref 0, .int v1] zGL h = (if v1 < 0 then some (some (.int 0), zGL, h) else (zBi (zRun sc d 76 [.ref 0] zGL h) zGL fun x1 h1 => (if x1 < v1 then some (some (.int 0), zGL, h1) else some (some (.int 1), zGL, h1)))) := by
  have he : zEnt 75 [.ref 0, .int v1] = [some (.ref 0), some (.int v1)] := by unfold zEnt; rw [ml_75]; rfl
  unfold zRun
  rw [he]
  refine Eq.trans (ev_iload_n (pc := 0) k_75_0 rfl rfl) ?_
  refine Eq.trans (ev_iflt (pc := 1) k_75_1.1 rfl k_75_1.2) (z_ite ?_ ?_)
  · refine Eq.trans (ev_mk (pc := 16) (lv' := [none, none]) kd_75_16 rfl) ?_
    refine Eq.trans (ev_iconst (pc := 16) (v := 0) k_75_16 rfl (by decide)) ?_
    exact ev_ret_b1 k_75_17 rfl rt_75 (by decide)
  · refine Eq.trans (ev_iload_n (pc := 4) k_75_4 rfl rfl) ?_
    refine Eq.trans (ev_aload_n (pc := 5) (x := 0) k_75_5 rfl rfl (by decide)) ?_
    refine Eq.trans (ev_vi (pc := 6) (as := []) (rest := [.int v1]) k_75_6 rfl zo_0 rfl rfl (Nat.le_of_ble_eq_true rfl) (Nat.le_of_ble_eq_true rfl)) (z_cbi fun x1 h1 => ?_)
    refine Eq.trans (ev_icgt (pc := 9) k_75_9.1 rfl k_75_9.2) (z_ite ?_ ?_)
    · refine Eq.trans (ev_mk (pc := 16) (lv' := [none, none]) kd_75_16 rfl) ?_
      refine Eq.trans (ev_iconst (pc := 16) (v := 0) k_75_16 rfl (by decide)) ?_
      exact ev_ret_b1 k_75_17 rfl rt_75 (by decide)
    · refine Eq.trans (ev_iconst (pc := 12) (v := 1) k_75_12 rfl (by decide)) ?_
      refine Eq.trans (ev_goto (pc := 13) k_75_13.1 rfl k_75_13.2) ?_
      refine Eq.trans (ev_mk (pc := 17) (lv' := [none, none]) kd_75_17 rfl) ?_
      exact ev_ret_b1 k_75_17 rfl rt_75 (by decide)

set_option maxRecDepth 100000 in
theorem E_X_everybody (sc : zSc) (d : Nat) (h : zHp)  : zRun sc d 76 [.ref 0] zGL h = (zOT (h.2.2 0 8) fun t1 ht1 => some (some (.int (((1 : Int32) <<< ((h.1 t1 1) &&& 31)) - (1 : Int32))), zGL, h)) := by
  have he : zEnt 76 [.ref 0] = [some (.ref 0)] := by unfold zEnt; rw [ml_76]; rfl
  unfold zRun
  rw [he]
  refine Eq.trans (ev_iconst (pc := 0) (v := 1) k_76_0 rfl (by decide)) ?_
  refine Eq.trans (ev_aload_n (pc := 1) (x := 0) k_76_1 rfl rfl (by decide)) ?_
  refine Eq.trans (ev_getT (pc := 2) k_76_2 rfl zo_0.1) (z_cot fun t1 ht1 => ?_)
  refine Eq.trans (ev_getI (pc := 5) k_76_5 rfl (zTw_6 ht1).1.1) ?_
  refine Eq.trans (ev_ishl (pc := 8) k_76_8 rfl) ?_
  refine Eq.trans (ev_iconst (pc := 9) (v := 1) k_76_9 rfl (by decide)) ?_
  refine Eq.trans (ev_isub (pc := 10) k_76_10 rfl) ?_
  exact ev_ret_int k_76_11 rfl rt_76

set_option maxRecDepth 100000 in
theorem E_X_silent (sc : zSc) (d : Nat) (h : zHp) (v1 : Int32) (v2 : Int32) : zRun sc (d + 1) 83 [.ref 0, .int v1, .int v2] zGL h = (zBi (zRun sc d 61 [.ref 0, .int v1, .int v2] zGL h) zGL fun x1 h1 => (if x1 = 0 then some (some (.int (-1000000001)), zGL, h1) else (zOT (h1.2.2 0 8) fun t2 ht2 => (zBi (zRun sc d 84 [.ref 26, .ref t2, .int v1, .int v2] zGL h1) zGL fun x3 h3 => some (some (.int x3), zGL, h3))))) := by
  have he : zEnt 83 [.ref 0, .int v1, .int v2] = [some (.ref 0), some (.int v1), some (.int v2)] := by unfold zEnt; rw [ml_83]; rfl
  unfold zRun
  rw [he]
  refine Eq.trans (ev_aload_n (pc := 0) (x := 0) k_83_0 rfl rfl (by decide)) ?_
  refine Eq.trans (ev_iload_n (pc := 1) k_83_1 rfl rfl) ?_
  refine Eq.trans (ev_iload_n (pc := 2) k_83_2 rfl rfl) ?_
  refine Eq.trans (ev_vi (pc := 3) (as := [.int v1, .int v2]) (rest := []) k_83_3 rfl zo_0 rfl rfl (Nat.le_of_ble_eq_true rfl) (Nat.le_of_ble_eq_true rfl)) (z_cbi fun x1 h1 => ?_)
  refine Eq.trans (ev_ifeq (pc := 6) k_83_6.1 rfl k_83_6.2) (z_ite ?_ ?_)
  · refine Eq.trans (ev_ldc (pc := 25) (v := (-1000000001)) k_83_25 rfl) ?_
    refine Eq.trans (ev_mk (pc := 27) (lv' := [none, none, none]) kd_83_27 rfl) ?_
    exact ev_ret_int k_83_27 rfl rt_83
  · refine Eq.trans (ev_aload_n (pc := 9) (x := 0) k_83_9 rfl rfl (by decide)) ?_
    refine Eq.trans (ev_getR (pc := 10) (b := 26) k_83_10 rfl zo_0.1 zg_0_5) ?_
    refine Eq.trans (ev_aload_n (pc := 13) (x := 0) k_83_13 rfl rfl (by decide)) ?_
    refine Eq.trans (ev_getT (pc := 14) k_83_14 rfl zo_0.1) (z_cot fun t2 ht2 => ?_)
    refine Eq.trans (ev_iload_n (pc := 17) k_83_17 rfl rfl) ?_
    refine Eq.trans (ev_iload_n (pc := 18) k_83_18 rfl rfl) ?_
    refine Eq.trans (ev_vi (pc := 19) (as := [.ref t2, .int v1, .int v2]) (rest := []) k_83_19 rfl zo_26 rfl rfl (Nat.le_of_ble_eq_true rfl) (Nat.le_of_ble_eq_true rfl)) (z_cbi fun x3 h3 => ?_)
    refine Eq.trans (ev_goto (pc := 22) k_83_22.1 rfl k_83_22.2) ?_
    refine Eq.trans (ev_mk (pc := 27) (lv' := [none, none, none]) kd_83_27 rfl) ?_
    exact ev_ret_int k_83_27 rfl rt_83

set_option maxRecDepth 100000 in
theorem E_X_morning (sc : zSc) (d : Nat) (h : zHp)  : zRun sc (d + 1) 86 [.ref 0] zGL h = (zOT (h.2.2 0 8) fun t1 ht1 => (zBi (zRun sc d 87 [.ref 26, .ref t1] zGL h) zGL fun x2 h2 => some (some (.int x2), zGL, h2))) := by
  have he : zEnt 86 [.ref 0] = [some (.ref 0)] := by unfold zEnt; rw [ml_86]; rfl
  unfold zRun
  rw [he]
  refine Eq.trans (ev_aload_n (pc := 0) (x := 0) k_86_0 rfl rfl (by decide)) ?_
  refine Eq.trans (ev_getR (pc := 1) (b := 26) k_86_1 rfl zo_0.1 zg_0_5) ?_
  refine Eq.trans (ev_aload_n (pc := 4) (x := 0) k_86_4 rfl rfl (by decide)) ?_
  refine Eq.trans (ev_getT (pc := 5) k_86_5 rfl zo_0.1) (z_cot fun t1 ht1 => ?_)
  refine Eq.trans (ev_vi (pc := 8) (as := [.ref t1]) (rest := []) k_86_8 rfl zo_26 rfl rfl (Nat.le_of_ble_eq_true rfl) (Nat.le_of_ble_eq_true rfl)) (z_cbi fun x2 h2 => ?_)
  exact ev_ret_int k_86_11 rfl rt_86

set_option maxRecDepth 100000 in
theorem E_X_party (sc : zSc) (d : Nat) (h : zHp) (v1 : Int32) : zRun sc (d + 1) 88 [.ref 0, .int v1] zGL h = (zBi (zRun sc d 59 [.ref 0, .int v1] zGL h) zGL fun x1 h1 => (if x1 = 0 then some (some (.int (-1000000001)), zGL, h1) else zE sc (d + 1) 88 13 [some (.ref 0), some (.int v1), some (.int 0)] [] zGL h1)) := by
  have he : zEnt 88 [.ref 0, .int v1] = [some (.ref 0), some (.int v1), none] := by unfold zEnt; rw [ml_88]; rfl
  unfold zRun
  rw [he]
  refine Eq.trans (ev_aload_n (pc := 0) (x := 0) k_88_0 rfl rfl (by decide)) ?_
  refine Eq.trans (ev_iload_n (pc := 1) k_88_1 rfl rfl) ?_
  refine Eq.trans (ev_vi (pc := 2) (as := [.int v1]) (rest := []) k_88_2 rfl zo_0 rfl rfl (Nat.le_of_ble_eq_true rfl) (Nat.le_of_ble_eq_true rfl)) (z_cbi fun x1 h1 => ?_)
  refine Eq.trans (ev_ifne (pc := 5) k_88_5.1 rfl k_88_5.2) (z_ite ?_ ?_)
  · refine Eq.trans (ev_ldc (pc := 8) (v := (-1000000001)) k_88_8 rfl) ?_
    exact ev_ret_int k_88_10 rfl rt_88
  · refine Eq.trans (ev_iconst (pc := 11) (v := 0) k_88_11 rfl (by decide)) ?_
    refine Eq.trans (ev_istore_n (pc := 12) (lv' := [some (.ref 0), some (.int v1), some (.int 0)]) k_88_12 rfl (Nat.le_of_ble_eq_true rfl) rfl) ?_
    exact ev_mk kd_88_13 rfl

set_option maxRecDepth 100000 in
theorem E_X_party_13 (sc : zSc) (d : Nat) (h : zHp) (v1 : Int32) (v2 : Int32) : zE sc (d + 1) 88 13 [some (.ref 0), some (.int v1), some (.int v2)] [] zGL h = (if v2 < (6 : Int32) then (zBi (zRun sc d 89 [.ref 0, .int v1] zGL h) zGL fun x1 h1 => (if x1 = 0 then some (some (.int v2), zGL, h1) else zE sc (d + 1) 88 13 [some (.ref 0), some (.int v1), some (.int (v2 + 1))] [] zGL h1)) else some (some (.int v2), zGL, h)) := by
  refine Eq.trans (ev_iload_n (pc := 13) k_88_13 rfl rfl) ?_
  refine Eq.trans (ev_bipush (pc := 14) (v := 6) k_88_14 rfl (by decide)) ?_
  refine Eq.trans (ev_icge (pc := 16) k_88_16.1 rfl k_88_16.2) (z_ite ?_ ?_)
  · refine Eq.trans (ev_aload_n (pc := 19) (x := 0) k_88_19 rfl rfl (by decide)) ?_
    refine Eq.trans (ev_iload_n (pc := 20) k_88_20 rfl rfl) ?_
    refine Eq.trans (ev_vi (pc := 21) (as := [.int v1]) (rest := []) k_88_21 rfl zo_0 rfl rfl (Nat.le_of_ble_eq_true rfl) (Nat.le_of_ble_eq_true rfl)) (z_cbi fun x1 h1 => ?_)
    refine Eq.trans (ev_ifeq (pc := 24) k_88_24.1 rfl k_88_24.2) (z_ite ?_ ?_)
    · refine Eq.trans (ev_mk (pc := 33) (lv' := [none, none, some (.int v2)]) kd_88_33 rfl) ?_
      refine Eq.trans (ev_iload_n (pc := 33) k_88_33 rfl rfl) ?_
      exact ev_ret_int k_88_34 rfl rt_88
    · refine Eq.trans (ev_iinc (pc := 27) (v := 1) (lv' := [some (.ref 0), some (.int v1), some (.int (v2 + 1))]) k_88_27 rfl rfl (by decide) rfl) ?_
      refine Eq.trans (ev_goto (pc := 30) k_88_30.1 rfl k_88_30.2) ?_
      exact ev_mk kd_88_13 rfl
  · refine Eq.trans (ev_mk (pc := 33) (lv' := [none, none, some (.int v2)]) kd_88_33 rfl) ?_
    refine Eq.trans (ev_iload_n (pc := 33) k_88_33 rfl rfl) ?_
    exact ev_ret_int k_88_34 rfl rt_88

set_option maxRecDepth 100000 in
theorem E_X_sayFirstSafe (sc : zSc) (d : Nat) (h : zHp) (v1 : Int32) : zRun sc (d + 1) 89 [.ref 0, .int v1] zGL h = zE sc (d + 1) 89 2 [some (.ref 0), some (.int v1), some (.int 0), none, none, none] [] zGL h := by
  have he : zEnt 89 [.ref 0, .int v1] = [some (.ref 0), some (.int v1), none, none, none, none] := by unfold zEnt; rw [ml_89]; rfl
  unfold zRun
  rw [he]
  refine Eq.trans (ev_iconst (pc := 0) (v := 0) k_89_0 rfl (by decide)) ?_
  refine Eq.trans (ev_istore_n (pc := 1) (lv' := [some (.ref 0), some (.int v1), some (.int 0), none, none, none]) k_89_1 rfl (Nat.le_of_ble_eq_true rfl) rfl) ?_
  exact ev_mk kd_89_2 rfl

set_option maxRecDepth 100000 in
theorem E_X_sayFirstSafe_2 (sc : zSc) (d : Nat) (h : zHp) (v1 : Int32) (v2 : Int32) : zE sc (d + 1) 89 2 [some (.ref 0), some (.int v1), some (.int v2), none, none, none] [] zGL h = (zOT (h.2.2 0 8) fun t1 ht1 => (if v2 < (h.1 t1 1) then zE sc (d + 1) 89 15 [some (.ref 0), some (.int v1), some (.int v2), some (.int 0), none, none] [] zGL h else some (some (.int 0), zGL, h))) := by
  refine Eq.trans (ev_iload_n (pc := 2) k_89_2 rfl rfl) ?_
  refine Eq.trans (ev_aload_n (pc := 3) (x := 0) k_89_3 rfl rfl (by decide)) ?_
  refine Eq.trans (ev_getT (pc := 4) k_89_4 rfl zo_0.1) (z_cot fun t1 ht1 => ?_)
  refine Eq.trans (ev_getI (pc := 7) k_89_7 rfl (zTw_6 ht1).1.1) ?_
  refine Eq.trans (ev_icge (pc := 10) k_89_10.1 rfl k_89_10.2) (z_ite ?_ ?_)
  · refine Eq.trans (ev_iconst (pc := 13) (v := 0) k_89_13 rfl (by decide)) ?_
    refine Eq.trans (ev_istore_n (pc := 14) (lv' := [some (.ref 0), some (.int v1), some (.int v2), some (.int 0), none, none]) k_89_14 rfl (Nat.le_of_ble_eq_true rfl) rfl) ?_
    exact ev_mk kd_89_15 rfl
  · refine Eq.trans (ev_iconst (pc := 108) (v := 0) k_89_108 rfl (by decide)) ?_
    exact ev_ret_b1 k_89_109 rfl rt_89 (by decide)

set_option maxRecDepth 100000 in
theorem E_X_sayFirstSafe_15 (sc : zSc) (d : Nat) (h : zHp) (v1 : Int32) (v2 : Int32) (v3 : Int32) : zE sc (d + 1) 89 15 [some (.ref 0), some (.int v1), some (.int v2), some (.int v3), none, none] [] zGL h = (zOT (h.2.2 0 8) fun t1 ht1 => (if v3 < (h.1 t1 1) then (if v2 = v3 then zE sc (d + 1) 89 50 [some (.ref 0), some (.int v1), some (.int v2), some (.int v3), none, none] [.int 0] zGL h else (zOT (h.2.2 0 8) fun t2 ht2 => (zBi (zRun sc d 69 [.ref 26, .ref t2, .int v2, .int v3] zGL h) zGL fun x3 h3 => zE sc (d + 1) 89 50 [some (.ref 0), some (.int v1), some (.int v2), some (.int v3), none, none] [.int (x3 &&& v1)] zGL h3))) else zE sc (d + 1) 89 2 [some (.ref 0), some (.int v1), some (.int (v2 + 1)), none, none, none] [] zGL h)) := by
  refine Eq.trans (ev_iload_n (pc := 15) k_89_15 rfl rfl) ?_
  refine Eq.trans (ev_aload_n (pc := 16) (x := 0) k_89_16 rfl rfl (by decide)) ?_
  refine Eq.trans (ev_getT (pc := 17) k_89_17 rfl zo_0.1) (z_cot fun t1 ht1 => ?_)
  refine Eq.trans (ev_getI (pc := 20) k_89_20 rfl (zTw_6 ht1).1.1) ?_
  refine Eq.trans (ev_icge (pc := 23) k_89_23.1 rfl k_89_23.2) (z_ite ?_ ?_)
  · refine Eq.trans (ev_iload_n (pc := 26) k_89_26 rfl rfl) ?_
    refine Eq.trans (ev_iload_n (pc := 27) k_89_27 rfl rfl) ?_
    refine Eq.trans (ev_icne (pc := 28) k_89_28.1 rfl k_89_28.2) (z_ite ?_ ?_)
    · refine Eq.trans (ev_iconst (pc := 31) (v := 0) k_89_31 rfl (by decide)) ?_
      refine Eq.trans (ev_goto (pc := 32) k_89_32.1 rfl k_89_32.2) ?_
      exact ev_mk kd_89_50 rfl
    · refine Eq.trans (ev_aload_n (pc := 35) (x := 0) k_89_35 rfl rfl (by decide)) ?_
      refine Eq.trans (ev_getR (pc := 36) (b := 26) k_89_36 rfl zo_0.1 zg_0_5) ?_
      refine Eq.trans (ev_aload_n (pc := 39) (x := 0) k_89_39 rfl rfl (by decide)) ?_
      refine Eq.trans (ev_getT (pc := 40) k_89_40 rfl zo_0.1) (z_cot fun t2 ht2 => ?_)
      refine Eq.trans (ev_iload_n (pc := 43) k_89_43 rfl rfl) ?_
      refine Eq.trans (ev_iload_n (pc := 44) k_89_44 rfl rfl) ?_
      refine Eq.trans (ev_vi (pc := 45) (as := [.ref t2, .int v2, .int v3]) (rest := []) k_89_45 rfl zo_26 rfl rfl (Nat.le_of_ble_eq_true rfl) (Nat.le_of_ble_eq_true rfl)) (z_cbi fun x3 h3 => ?_)
      refine Eq.trans (ev_iload_n (pc := 48) k_89_48 rfl rfl) ?_
      refine Eq.trans (ev_iand (pc := 49) k_89_49 rfl) ?_
      exact ev_mk kd_89_50 rfl
  · refine Eq.trans (ev_iinc (pc := 102) (v := 1) (lv' := [some (.ref 0), some (.int v1), some (.int (v2 + 1)), some (.int v3), none, none]) k_89_102 rfl rfl (by decide) rfl) ?_
    refine Eq.trans (ev_goto (pc := 105) k_89_105.1 rfl k_89_105.2) ?_
    exact ev_mk kd_89_2 rfl

set_option maxRecDepth 100000 in
theorem E_X_sayFirstSafe_50 (sc : zSc) (d : Nat) (h : zHp) (v1 : Int32) (v2 : Int32) (v3 : Int32) (s0 : Int32) : zE sc (d + 1) 89 50 [some (.ref 0), some (.int v1), some (.int v2), some (.int v3), none, none] [.int s0] zGL h = (if s0 = 0 then zE sc (d + 1) 89 15 [some (.ref 0), some (.int v1), some (.int v2), some (.int (v3 + 1)), none, none] [] zGL h else (zBi (zRun sc d 76 [.ref 0] zGL h) zGL fun x1 h1 => (zOT (h1.2.2 0 8) fun t2 ht2 => (zBi (zRun sc d 90 [.int s0] zGL h1) zGL fun x3 h3 => (zBi (zRun sc d 77 [.ref 26, .ref t2, .int v2, .int v3, .int x3, .int (x1 &&& ((((1 : Int32) <<< (v2 &&& 31)) ||| ((1 : Int32) <<< (v3 &&& 31))) ^^^ ((-1) : Int32)))] zGL h3) zGL fun x4 h4 => some (some (.int 1), zGL, h4)))))) := by
  refine Eq.trans (ev_istore (pc := 50) (lv' := [some (.ref 0), some (.int v1), some (.int v2), some (.int v3), some (.int s0), none]) k_89_50 rfl (Nat.le_of_ble_eq_true rfl) rfl) ?_
  refine Eq.trans (ev_iload (pc := 52) k_89_52 rfl rfl) ?_
  refine Eq.trans (ev_ifeq (pc := 54) k_89_54.1 rfl k_89_54.2) (z_ite ?_ ?_)
  · refine Eq.trans (ev_iinc (pc := 96) (v := 1) (lv' := [some (.ref 0), some (.int v1), some (.int v2), some (.int (v3 + 1)), some (.int s0), none]) k_89_96 rfl rfl (by decide) rfl) ?_
    refine Eq.trans (ev_goto (pc := 99) k_89_99.1 rfl k_89_99.2) ?_
    exact ev_mk kd_89_15 rfl
  · refine Eq.trans (ev_aload_n (pc := 57) (x := 0) k_89_57 rfl rfl (by decide)) ?_
    refine Eq.trans (ev_vi (pc := 58) (as := []) (rest := []) k_89_58 rfl zo_0 rfl rfl (Nat.le_of_ble_eq_true rfl) (Nat.le_of_ble_eq_true rfl)) (z_cbi fun x1 h1 => ?_)
    refine Eq.trans (ev_iconst (pc := 61) (v := 1) k_89_61 rfl (by decide)) ?_
    refine Eq.trans (ev_iload_n (pc := 62) k_89_62 rfl rfl) ?_
    refine Eq.trans (ev_ishl (pc := 63) k_89_63 rfl) ?_
    refine Eq.trans (ev_iconst (pc := 64) (v := 1) k_89_64 rfl (by decide)) ?_
    refine Eq.trans (ev_iload_n (pc := 65) k_89_65 rfl rfl) ?_
    refine Eq.trans (ev_ishl (pc := 66) k_89_66 rfl) ?_
    refine Eq.trans (ev_ior (pc := 67) k_89_67 rfl) ?_
    refine Eq.trans (ev_iconst (pc := 68) (v := (-1)) k_89_68 rfl (by decide)) ?_
    refine Eq.trans (ev_ixor (pc := 69) k_89_69 rfl) ?_
    refine Eq.trans (ev_iand (pc := 70) k_89_70 rfl) ?_
    refine Eq.trans (ev_istore (pc := 71) (lv' := [some (.ref 0), some (.int v1), some (.int v2), some (.int v3), some (.int s0), some (.int (x1 &&& ((((1 : Int32) <<< (v2 &&& 31)) ||| ((1 : Int32) <<< (v3 &&& 31))) ^^^ ((-1) : Int32))))]) k_89_71 rfl (Nat.le_of_ble_eq_true rfl) rfl) ?_
    refine Eq.trans (ev_aload_n (pc := 73) (x := 0) k_89_73 rfl rfl (by decide)) ?_
    refine Eq.trans (ev_getR (pc := 74) (b := 26) k_89_74 rfl zo_0.1 zg_0_5) ?_
    refine Eq.trans (ev_aload_n (pc := 77) (x := 0) k_89_77 rfl rfl (by decide)) ?_
    refine Eq.trans (ev_getT (pc := 78) k_89_78 rfl zo_0.1) (z_cot fun t2 ht2 => ?_)
    refine Eq.trans (ev_iload_n (pc := 81) k_89_81 rfl rfl) ?_
    refine Eq.trans (ev_iload_n (pc := 82) k_89_82 rfl rfl) ?_
    refine Eq.trans (ev_iload (pc := 83) k_89_83 rfl rfl) ?_
    refine Eq.trans (ev_si (pc := 85) (as := [.int s0]) (rest := [.int v3, .int v2, .ref t2, .ref 26]) k_89_85 rfl rfl rfl (Nat.le_of_ble_eq_true rfl) (Nat.le_of_ble_eq_true rfl)) (z_cbi fun x3 h3 => ?_)
    refine Eq.trans (ev_iload (pc := 88) k_89_88 rfl rfl) ?_
    refine Eq.trans (ev_vi (pc := 90) (as := [.ref t2, .int v2, .int v3, .int x3, .int (x1 &&& ((((1 : Int32) <<< (v2 &&& 31)) ||| ((1 : Int32) <<< (v3 &&& 31))) ^^^ ((-1) : Int32)))]) (rest := []) k_89_90 rfl zo_26 rfl rfl (Nat.le_of_ble_eq_true rfl) (Nat.le_of_ble_eq_true rfl)) (z_cbi fun x4 h4 => ?_)
    refine Eq.trans (ev_pop (pc := 93) k_89_93 rfl rfl) ?_
    refine Eq.trans (ev_iconst (pc := 94) (v := 1) k_89_94 rfl (by decide)) ?_
    exact ev_ret_b1 k_89_95 rfl rt_89 (by decide)

set_option maxRecDepth 100000 in
theorem E_X_plan (sc : zSc) (d : Nat) (h : zHp) (v1 : Int32) (v2 : Int32) (v3 : Int32) : zRun sc (d + 1) 91 [.ref 0, .int v1, .int v2, .int v3] zGL h = (zBi (zRun sc d 61 [.ref 0, .int v1, .int v2] zGL h) zGL fun x1 h1 => (if x1 = 0 then some (some (.int (-1000000001)), zGL, h1) else (zOT (h1.2.2 0 8) fun t2 ht2 => (zBv (zRun sc d 92 [.ref 16, .ref t2, .ref 26, .int v1, .int v2] zGL h1) zGL fun h3 => (if v3 = ((-1) : Int32) then some (some (.int (h3.1 16 8)), zGL, h3) else (zBi (zRun sc d 98 [.ref 16, .int v3] zGL h3) zGL fun x4 h4 => some (some (.int x4), zGL, h4))))))) := by
  have he : zEnt 91 [.ref 0, .int v1, .int v2, .int v3] = [some (.ref 0), some (.int v1), some (.int v2), some (.int v3)] := by unfold zEnt; rw [ml_91]; rfl
  unfold zRun
  rw [he]
  refine Eq.trans (ev_aload_n (pc := 0) (x := 0) k_91_0 rfl rfl (by decide)) ?_
  refine Eq.trans (ev_iload_n (pc := 1) k_91_1 rfl rfl) ?_
  refine Eq.trans (ev_iload_n (pc := 2) k_91_2 rfl rfl) ?_
  refine Eq.trans (ev_vi (pc := 3) (as := [.int v1, .int v2]) (rest := []) k_91_3 rfl zo_0 rfl rfl (Nat.le_of_ble_eq_true rfl) (Nat.le_of_ble_eq_true rfl)) (z_cbi fun x1 h1 => ?_)
  refine Eq.trans (ev_ifne (pc := 6) k_91_6.1 rfl k_91_6.2) (z_ite ?_ ?_)
  · refine Eq.trans (ev_ldc (pc := 9) (v := (-1000000001)) k_91_9 rfl) ?_
    exact ev_ret_int k_91_11 rfl rt_91
  · refine Eq.trans (ev_aload_n (pc := 12) (x := 0) k_91_12 rfl rfl (by decide)) ?_
    refine Eq.trans (ev_getR (pc := 13) (b := 16) k_91_13 rfl zo_0.1 zg_0_2) ?_
    refine Eq.trans (ev_aload_n (pc := 16) (x := 0) k_91_16 rfl rfl (by decide)) ?_
    refine Eq.trans (ev_getT (pc := 17) k_91_17 rfl zo_0.1) (z_cot fun t2 ht2 => ?_)
    refine Eq.trans (ev_aload_n (pc := 20) (x := 0) k_91_20 rfl rfl (by decide)) ?_
    refine Eq.trans (ev_getR (pc := 21) (b := 26) k_91_21 rfl zo_0.1 zg_0_5) ?_
    refine Eq.trans (ev_iload_n (pc := 24) k_91_24 rfl rfl) ?_
    refine Eq.trans (ev_iload_n (pc := 25) k_91_25 rfl rfl) ?_
    refine Eq.trans (ev_vv (pc := 26) (as := [.ref t2, .ref 26, .int v1, .int v2]) (rest := []) k_91_26 rfl zo_16 rfl rfl (Nat.le_of_ble_eq_true rfl) (Nat.le_of_ble_eq_true rfl)) (z_cbv fun h3 => ?_)
    refine Eq.trans (ev_iload_n (pc := 29) k_91_29 rfl rfl) ?_
    refine Eq.trans (ev_iconst (pc := 30) (v := (-1)) k_91_30 rfl (by decide)) ?_
    refine Eq.trans (ev_icne (pc := 31) k_91_31.1 rfl k_91_31.2) (z_ite ?_ ?_)
    · refine Eq.trans (ev_aload_n (pc := 34) (x := 0) k_91_34 rfl rfl (by decide)) ?_
      refine Eq.trans (ev_getR (pc := 35) (b := 16) k_91_35 rfl zo_0.1 zg_0_2) ?_
      refine Eq.trans (ev_getI (pc := 38) k_91_38 rfl zo_16.1) ?_
      refine Eq.trans (ev_goto (pc := 41) k_91_41.1 rfl k_91_41.2) ?_
      refine Eq.trans (ev_mk (pc := 52) (lv' := [none, none, none, none]) kd_91_52 rfl) ?_
      exact ev_ret_int k_91_52 rfl rt_91
    · refine Eq.trans (ev_aload_n (pc := 44) (x := 0) k_91_44 rfl rfl (by decide)) ?_
      refine Eq.trans (ev_getR (pc := 45) (b := 16) k_91_45 rfl zo_0.1 zg_0_2) ?_
      refine Eq.trans (ev_iload_n (pc := 48) k_91_48 rfl rfl) ?_
      refine Eq.trans (ev_vi (pc := 49) (as := [.int v3]) (rest := []) k_91_49 rfl zo_16 rfl rfl (Nat.le_of_ble_eq_true rfl) (Nat.le_of_ble_eq_true rfl)) (z_cbi fun x4 h4 => ?_)
      refine Eq.trans (ev_mk (pc := 52) (lv' := [none, none, none, none]) kd_91_52 rfl) ?_
      exact ev_ret_int k_91_52 rfl rt_91

set_option maxRecDepth 100000 in
theorem E_X_hats (sc : zSc) (d : Nat) (h : zHp) (v1 : Int32) : zRun sc (d + 1) 99 [.ref 0, .int v1] zGL h = (if v1 < (1 : Int32) then some (some (.int (-1000000002)), zGL, h) else (if (6 : Int32) < v1 then some (some (.int (-1000000002)), zGL, h) else (zOT (h.2.2 0 8) fun t1 ht1 => (zBi (zRun sc d 100 [.ref 19, .ref t1, .int v1] zGL h) zGL fun x2 h2 => some (some (.int x2), zGL, h2))))) := by
  have he : zEnt 99 [.ref 0, .int v1] = [some (.ref 0), some (.int v1)] := by unfold zEnt; rw [ml_99]; rfl
  unfold zRun
  rw [he]
  refine Eq.trans (ev_iload_n (pc := 0) k_99_0 rfl rfl) ?_
  refine Eq.trans (ev_iconst (pc := 1) (v := 1) k_99_1 rfl (by decide)) ?_
  refine Eq.trans (ev_iclt (pc := 2) k_99_2.1 rfl k_99_2.2) (z_ite ?_ ?_)
  · refine Eq.trans (ev_mk (pc := 26) (lv' := [none, none]) kd_99_26 rfl) ?_
    refine Eq.trans (ev_ldc (pc := 26) (v := (-1000000002)) k_99_26 rfl) ?_
    exact ev_ret_int k_99_28 rfl rt_99
  · refine Eq.trans (ev_iload_n (pc := 5) k_99_5 rfl rfl) ?_
    refine Eq.trans (ev_bipush (pc := 6) (v := 6) k_99_6 rfl (by decide)) ?_
    refine Eq.trans (ev_icgt (pc := 8) k_99_8.1 rfl k_99_8.2) (z_ite ?_ ?_)
    · refine Eq.trans (ev_mk (pc := 26) (lv' := [none, none]) kd_99_26 rfl) ?_
      refine Eq.trans (ev_ldc (pc := 26) (v := (-1000000002)) k_99_26 rfl) ?_
      exact ev_ret_int k_99_28 rfl rt_99
    · refine Eq.trans (ev_aload_n (pc := 11) (x := 0) k_99_11 rfl rfl (by decide)) ?_
      refine Eq.trans (ev_getR (pc := 12) (b := 19) k_99_12 rfl zo_0.1 zg_0_3) ?_
      refine Eq.trans (ev_aload_n (pc := 15) (x := 0) k_99_15 rfl rfl (by decide)) ?_
      refine Eq.trans (ev_getT (pc := 16) k_99_16 rfl zo_0.1) (z_cot fun t1 ht1 => ?_)
      refine Eq.trans (ev_iload_n (pc := 19) k_99_19 rfl rfl) ?_
      refine Eq.trans (ev_vi (pc := 20) (as := [.ref t1, .int v1]) (rest := []) k_99_20 rfl zo_19 rfl rfl (Nat.le_of_ble_eq_true rfl) (Nat.le_of_ble_eq_true rfl)) (z_cbi fun x2 h2 => ?_)
      refine Eq.trans (ev_goto (pc := 23) k_99_23.1 rfl k_99_23.2) ?_
      refine Eq.trans (ev_mk (pc := 28) (lv' := [none, none]) kd_99_28 rfl) ?_
      exact ev_ret_int k_99_28 rfl rt_99

set_option maxRecDepth 100000 in
theorem E_X_common (sc : zSc) (d : Nat) (h : zHp) (v1 : Int32) (v2 : Int32) (v3 : Int32) : zRun sc (d + 1) 105 [.ref 0, .int v1, .int v2, .int v3] zGL h = (zBi (zRun sc d 61 [.ref 0, .int v1, .int v2] zGL h) zGL fun x1 h1 => (if x1 = 0 then some (some (.int (-1000000001)), zGL, h1) else (zBi (zRun sc d 61 [.ref 0, .int v1, .int v3] zGL h1) zGL fun x2 h2 => (if x2 = 0 then some (some (.int (-1000000001)), zGL, h2) else (zBi (zRun sc d 61 [.ref 0, .int v2, .int v3] zGL h2) zGL fun x3 h3 => (if x3 = 0 then some (some (.int (-1000000001)), zGL, h3) else (zOT (h3.2.2 0 8) fun t4 ht4 => (zBi (zRun sc d 65 [.ref 26, .ref t4, .int v1, .int v2] zGL h3) zGL fun x5 h5 => (zOT (h5.2.2 0 8) fun t6 ht6 => (zBi (zRun sc d 65 [.ref 26, .ref t6, .int v1, .int v3] zGL h5) zGL fun x7 h7 => some (some (.int (x5 &&& x7)), zGL, h7))))))))))) := by
  have he : zEnt 105 [.ref 0, .int v1, .int v2, .int v3] = [some (.ref 0), some (.int v1), some (.int v2), some (.int v3)] := by unfold zEnt; rw [ml_105]; rfl
  unfold zRun
  rw [he]
  refine Eq.trans (ev_aload_n (pc := 0) (x := 0) k_105_0 rfl rfl (by decide)) ?_
  refine Eq.trans (ev_iload_n (pc := 1) k_105_1 rfl rfl) ?_
  refine Eq.trans (ev_iload_n (pc := 2) k_105_2 rfl rfl) ?_
  refine Eq.trans (ev_vi (pc := 3) (as := [.int v1, .int v2]) (rest := []) k_105_3 rfl zo_0 rfl rfl (Nat.le_of_ble_eq_true rfl) (Nat.le_of_ble_eq_true rfl)) (z_cbi fun x1 h1 => ?_)
  refine Eq.trans (ev_ifeq (pc := 6) k_105_6.1 rfl k_105_6.2) (z_ite ?_ ?_)
  · refine Eq.trans (ev_mk (pc := 27) (lv' := [none, none, none, none]) kd_105_27 rfl) ?_
    refine Eq.trans (ev_ldc (pc := 27) (v := (-1000000001)) k_105_27 rfl) ?_
    exact ev_ret_int k_105_29 rfl rt_105
  · refine Eq.trans (ev_aload_n (pc := 9) (x := 0) k_105_9 rfl rfl (by decide)) ?_
    refine Eq.trans (ev_iload_n (pc := 10) k_105_10 rfl rfl) ?_
    refine Eq.trans (ev_iload_n (pc := 11) k_105_11 rfl rfl) ?_
    refine Eq.trans (ev_vi (pc := 12) (as := [.int v1, .int v3]) (rest := []) k_105_12 rfl zo_0 rfl rfl (Nat.le_of_ble_eq_true rfl) (Nat.le_of_ble_eq_true rfl)) (z_cbi fun x2 h2 => ?_)
    refine Eq.trans (ev_ifeq (pc := 15) k_105_15.1 rfl k_105_15.2) (z_ite ?_ ?_)
    · refine Eq.trans (ev_mk (pc := 27) (lv' := [none, none, none, none]) kd_105_27 rfl) ?_
      refine Eq.trans (ev_ldc (pc := 27) (v := (-1000000001)) k_105_27 rfl) ?_
      exact ev_ret_int k_105_29 rfl rt_105
    · refine Eq.trans (ev_aload_n (pc := 18) (x := 0) k_105_18 rfl rfl (by decide)) ?_
      refine Eq.trans (ev_iload_n (pc := 19) k_105_19 rfl rfl) ?_
      refine Eq.trans (ev_iload_n (pc := 20) k_105_20 rfl rfl) ?_
      refine Eq.trans (ev_vi (pc := 21) (as := [.int v2, .int v3]) (rest := []) k_105_21 rfl zo_0 rfl rfl (Nat.le_of_ble_eq_true rfl) (Nat.le_of_ble_eq_true rfl)) (z_cbi fun x3 h3 => ?_)
      refine Eq.trans (ev_ifne (pc := 24) k_105_24.1 rfl k_105_24.2) (z_ite ?_ ?_)
      · refine Eq.trans (ev_mk (pc := 27) (lv' := [none, none, none, none]) kd_105_27 rfl) ?_
        refine Eq.trans (ev_ldc (pc := 27) (v := (-1000000001)) k_105_27 rfl) ?_
        exact ev_ret_int k_105_29 rfl rt_105
      · refine Eq.trans (ev_aload_n (pc := 30) (x := 0) k_105_30 rfl rfl (by decide)) ?_
        refine Eq.trans (ev_getR (pc := 31) (b := 26) k_105_31 rfl zo_0.1 zg_0_5) ?_
        refine Eq.trans (ev_aload_n (pc := 34) (x := 0) k_105_34 rfl rfl (by decide)) ?_
        refine Eq.trans (ev_getT (pc := 35) k_105_35 rfl zo_0.1) (z_cot fun t4 ht4 => ?_)
        refine Eq.trans (ev_iload_n (pc := 38) k_105_38 rfl rfl) ?_
        refine Eq.trans (ev_iload_n (pc := 39) k_105_39 rfl rfl) ?_
        refine Eq.trans (ev_vi (pc := 40) (as := [.ref t4, .int v1, .int v2]) (rest := []) k_105_40 rfl zo_26 rfl rfl (Nat.le_of_ble_eq_true rfl) (Nat.le_of_ble_eq_true rfl)) (z_cbi fun x5 h5 => ?_)
        refine Eq.trans (ev_aload_n (pc := 43) (x := 0) k_105_43 rfl rfl (by decide)) ?_
        refine Eq.trans (ev_getR (pc := 44) (b := 26) k_105_44 rfl zo_0.1 zg_0_5) ?_
        refine Eq.trans (ev_aload_n (pc := 47) (x := 0) k_105_47 rfl rfl (by decide)) ?_
        refine Eq.trans (ev_getT (pc := 48) k_105_48 rfl zo_0.1) (z_cot fun t6 ht6 => ?_)
        refine Eq.trans (ev_iload_n (pc := 51) k_105_51 rfl rfl) ?_
        refine Eq.trans (ev_iload_n (pc := 52) k_105_52 rfl rfl) ?_
        refine Eq.trans (ev_vi (pc := 53) (as := [.ref t6, .int v1, .int v3]) (rest := [.int x5]) k_105_53 rfl zo_26 rfl rfl (Nat.le_of_ble_eq_true rfl) (Nat.le_of_ble_eq_true rfl)) (z_cbi fun x7 h7 => ?_)
        refine Eq.trans (ev_iand (pc := 56) k_105_56 rfl) ?_
        exact ev_ret_int k_105_57 rfl rt_105

set_option maxRecDepth 100000 in
theorem E_X_knew (sc : zSc) (d : Nat) (h : zHp) (v1 : Int32) (v2 : Int32) : zRun sc (d + 1) 106 [.ref 0, .int v1, .int v2] zGL h = (zBi (zRun sc d 55 [.ref 0, .int v1] zGL h) zGL fun x1 h1 => (if x1 = 0 then some (some (.int (-1000000001)), zGL, h1) else (zOT (h1.2.2 0 8) fun t2 ht2 => (zBj (zRun sc d 107 [.ref 26, .ref t2, .int v1] zGL h1) zGL fun x3 h3 => (zBi (zRun sc d 63 [.long x3, .int v2] zGL h3) zGL fun x4 h4 => some (some (.int x4), zGL, h4)))))) := by
  have he : zEnt 106 [.ref 0, .int v1, .int v2] = [some (.ref 0), some (.int v1), some (.int v2)] := by unfold zEnt; rw [ml_106]; rfl
  unfold zRun
  rw [he]
  refine Eq.trans (ev_aload_n (pc := 0) (x := 0) k_106_0 rfl rfl (by decide)) ?_
  refine Eq.trans (ev_iload_n (pc := 1) k_106_1 rfl rfl) ?_
  refine Eq.trans (ev_vi (pc := 2) (as := [.int v1]) (rest := []) k_106_2 rfl zo_0 rfl rfl (Nat.le_of_ble_eq_true rfl) (Nat.le_of_ble_eq_true rfl)) (z_cbi fun x1 h1 => ?_)
  refine Eq.trans (ev_ifeq (pc := 5) k_106_5.1 rfl k_106_5.2) (z_ite ?_ ?_)
  · refine Eq.trans (ev_ldc (pc := 27) (v := (-1000000001)) k_106_27 rfl) ?_
    refine Eq.trans (ev_mk (pc := 29) (lv' := [none, none, none]) kd_106_29 rfl) ?_
    exact ev_ret_int k_106_29 rfl rt_106
  · refine Eq.trans (ev_aload_n (pc := 8) (x := 0) k_106_8 rfl rfl (by decide)) ?_
    refine Eq.trans (ev_getR (pc := 9) (b := 26) k_106_9 rfl zo_0.1 zg_0_5) ?_
    refine Eq.trans (ev_aload_n (pc := 12) (x := 0) k_106_12 rfl rfl (by decide)) ?_
    refine Eq.trans (ev_getT (pc := 13) k_106_13 rfl zo_0.1) (z_cot fun t2 ht2 => ?_)
    refine Eq.trans (ev_iload_n (pc := 16) k_106_16 rfl rfl) ?_
    refine Eq.trans (ev_vj (pc := 17) (as := [.ref t2, .int v1]) (rest := []) k_106_17 rfl zo_26 rfl rfl (Nat.le_of_ble_eq_true rfl) (Nat.le_of_ble_eq_true rfl)) (z_cbj fun x3 h3 => ?_)
    refine Eq.trans (ev_iload_n (pc := 20) k_106_20 rfl rfl) ?_
    refine Eq.trans (ev_si (pc := 21) (as := [.long x3, .int v2]) (rest := []) k_106_21 rfl rfl rfl (Nat.le_of_ble_eq_true rfl) (Nat.le_of_ble_eq_true rfl)) (z_cbi fun x4 h4 => ?_)
    refine Eq.trans (ev_goto (pc := 24) k_106_24.1 rfl k_106_24.2) ?_
    refine Eq.trans (ev_mk (pc := 29) (lv' := [none, none, none]) kd_106_29 rfl) ?_
    exact ev_ret_int k_106_29 rfl rt_106

set_option maxRecDepth 100000 in
theorem E_X_bore (sc : zSc) (d : Nat) (h : zHp)  : zRun sc (d + 1) 109 [.ref 0] zGL h = zE sc (d + 1) 109 6 [some (.ref 0), some (.int (-1)), some (.int 0), some (.int 0), none] [] zGL h := by
  have he : zEnt 109 [.ref 0] = [some (.ref 0), none, none, none, none] := by unfold zEnt; rw [ml_109]; rfl
  unfold zRun
  rw [he]
  refine Eq.trans (ev_iconst (pc := 0) (v := (-1)) k_109_0 rfl (by decide)) ?_
  refine Eq.trans (ev_istore_n (pc := 1) (lv' := [some (.ref 0), some (.int (-1)), none, none, none]) k_109_1 rfl (Nat.le_of_ble_eq_true rfl) rfl) ?_
  refine Eq.trans (ev_iconst (pc := 2) (v := 0) k_109_2 rfl (by decide)) ?_
  refine Eq.trans (ev_istore_n (pc := 3) (lv' := [some (.ref 0), some (.int (-1)), some (.int 0), none, none]) k_109_3 rfl (Nat.le_of_ble_eq_true rfl) rfl) ?_
  refine Eq.trans (ev_iconst (pc := 4) (v := 0) k_109_4 rfl (by decide)) ?_
  refine Eq.trans (ev_istore_n (pc := 5) (lv' := [some (.ref 0), some (.int (-1)), some (.int 0), some (.int 0), none]) k_109_5 rfl (Nat.le_of_ble_eq_true rfl) rfl) ?_
  exact ev_mk kd_109_6 rfl

set_option maxRecDepth 100000 in
theorem E_X_bore_6 (sc : zSc) (d : Nat) (h : zHp) (v1 : Int32) (v2 : Int32) (v3 : Int32) : zE sc (d + 1) 109 6 [some (.ref 0), some (.int v1), some (.int v2), some (.int v3), none] [] zGL h = (zOT (h.2.2 0 8) fun t1 ht1 => (if v3 < (h.1 t1 1) then (zOT (h.2.2 0 8) fun t2 ht2 => (zBi (zRun sc d 110 [.ref 26, .ref t2, .int v3] zGL h) zGL fun x3 h3 => (if v1 = ((-1) : Int32) then zE sc (d + 1) 109 6 [some (.ref 0), some (.int v3), some (.int x3), some (.int (v3 + 1)), none] [] zGL h3 else (if x3 < v2 then zE sc (d + 1) 109 6 [some (.ref 0), some (.int v3), some (.int x3), some (.int (v3 + 1)), none] [] zGL h3 else zE sc (d + 1) 109 6 [some (.ref 0), some (.int v1), some (.int v2), some (.int (v3 + 1)), none] [] zGL h3)))) else some (some (.int v1), zGL, h))) := by
  refine Eq.trans (ev_iload_n (pc := 6) k_109_6 rfl rfl) ?_
  refine Eq.trans (ev_aload_n (pc := 7) (x := 0) k_109_7 rfl rfl (by decide)) ?_
  refine Eq.trans (ev_getT (pc := 8) k_109_8 rfl zo_0.1) (z_cot fun t1 ht1 => ?_)
  refine Eq.trans (ev_getI (pc := 11) k_109_11 rfl (zTw_6 ht1).1.1) ?_
  refine Eq.trans (ev_icge (pc := 14) k_109_14.1 rfl k_109_14.2) (z_ite ?_ ?_)
  · refine Eq.trans (ev_aload_n (pc := 17) (x := 0) k_109_17 rfl rfl (by decide)) ?_
    refine Eq.trans (ev_getR (pc := 18) (b := 26) k_109_18 rfl zo_0.1 zg_0_5) ?_
    refine Eq.trans (ev_aload_n (pc := 21) (x := 0) k_109_21 rfl rfl (by decide)) ?_
    refine Eq.trans (ev_getT (pc := 22) k_109_22 rfl zo_0.1) (z_cot fun t2 ht2 => ?_)
    refine Eq.trans (ev_iload_n (pc := 25) k_109_25 rfl rfl) ?_
    refine Eq.trans (ev_vi (pc := 26) (as := [.ref t2, .int v3]) (rest := []) k_109_26 rfl zo_26 rfl rfl (Nat.le_of_ble_eq_true rfl) (Nat.le_of_ble_eq_true rfl)) (z_cbi fun x3 h3 => ?_)
    refine Eq.trans (ev_istore (pc := 29) (lv' := [some (.ref 0), some (.int v1), some (.int v2), some (.int v3), some (.int x3)]) k_109_29 rfl (Nat.le_of_ble_eq_true rfl) rfl) ?_
    refine Eq.trans (ev_iload_n (pc := 31) k_109_31 rfl rfl) ?_
    refine Eq.trans (ev_iconst (pc := 32) (v := (-1)) k_109_32 rfl (by decide)) ?_
    refine Eq.trans (ev_iceq (pc := 33) k_109_33.1 rfl k_109_33.2) (z_ite ?_ ?_)
    · refine Eq.trans (ev_mk (pc := 42) (lv' := [some (.ref 0), none, none, some (.int v3), some (.int x3)]) kd_109_42 rfl) ?_
      refine Eq.trans (ev_iload_n (pc := 42) k_109_42 rfl rfl) ?_
      refine Eq.trans (ev_istore_n (pc := 43) (lv' := [some (.ref 0), some (.int v3), none, some (.int v3), some (.int x3)]) k_109_43 rfl (Nat.le_of_ble_eq_true rfl) rfl) ?_
      refine Eq.trans (ev_iload (pc := 44) k_109_44 rfl rfl) ?_
      refine Eq.trans (ev_istore_n (pc := 46) (lv' := [some (.ref 0), some (.int v3), some (.int x3), some (.int v3), some (.int x3)]) k_109_46 rfl (Nat.le_of_ble_eq_true rfl) rfl) ?_
      refine Eq.trans (ev_mk (pc := 47) (lv' := [some (.ref 0), some (.int v3), some (.int x3), some (.int v3), none]) kd_109_47 rfl) ?_
      refine Eq.trans (ev_iinc (pc := 47) (v := 1) (lv' := [some (.ref 0), some (.int v3), some (.int x3), some (.int (v3 + 1)), none]) k_109_47 rfl rfl (by decide) rfl) ?_
      refine Eq.trans (ev_goto (pc := 50) k_109_50.1 rfl k_109_50.2) ?_
      exact ev_mk kd_109_6 rfl
    · refine Eq.trans (ev_iload (pc := 36) k_109_36 rfl rfl) ?_
      refine Eq.trans (ev_iload_n (pc := 38) k_109_38 rfl rfl) ?_
      refine Eq.trans (ev_icge (pc := 39) k_109_39.1 rfl k_109_39.2) (z_ite ?_ ?_)
      · refine Eq.trans (ev_mk (pc := 42) (lv' := [some (.ref 0), none, none, some (.int v3), some (.int x3)]) kd_109_42 rfl) ?_
        refine Eq.trans (ev_iload_n (pc := 42) k_109_42 rfl rfl) ?_
        refine Eq.trans (ev_istore_n (pc := 43) (lv' := [some (.ref 0), some (.int v3), none, some (.int v3), some (.int x3)]) k_109_43 rfl (Nat.le_of_ble_eq_true rfl) rfl) ?_
        refine Eq.trans (ev_iload (pc := 44) k_109_44 rfl rfl) ?_
        refine Eq.trans (ev_istore_n (pc := 46) (lv' := [some (.ref 0), some (.int v3), some (.int x3), some (.int v3), some (.int x3)]) k_109_46 rfl (Nat.le_of_ble_eq_true rfl) rfl) ?_
        refine Eq.trans (ev_mk (pc := 47) (lv' := [some (.ref 0), some (.int v3), some (.int x3), some (.int v3), none]) kd_109_47 rfl) ?_
        refine Eq.trans (ev_iinc (pc := 47) (v := 1) (lv' := [some (.ref 0), some (.int v3), some (.int x3), some (.int (v3 + 1)), none]) k_109_47 rfl rfl (by decide) rfl) ?_
        refine Eq.trans (ev_goto (pc := 50) k_109_50.1 rfl k_109_50.2) ?_
        exact ev_mk kd_109_6 rfl
      · refine Eq.trans (ev_mk (pc := 47) (lv' := [some (.ref 0), some (.int v1), some (.int v2), some (.int v3), none]) kd_109_47 rfl) ?_
        refine Eq.trans (ev_iinc (pc := 47) (v := 1) (lv' := [some (.ref 0), some (.int v1), some (.int v2), some (.int (v3 + 1)), none]) k_109_47 rfl rfl (by decide) rfl) ?_
        refine Eq.trans (ev_goto (pc := 50) k_109_50.1 rfl k_109_50.2) ?_
        exact ev_mk kd_109_6 rfl
  · refine Eq.trans (ev_iload_n (pc := 53) k_109_53 rfl rfl) ?_
    exact ev_ret_int k_109_54 rfl rt_109

set_option maxRecDepth 100000 in
theorem E_X_log (sc : zSc) (d : Nat) (h : zHp) (v1 : Int32) (v2 : Int32) : zRun sc d 111 [.ref 0, .int v1, .int v2] zGL h = (if v2 < 0 then some (some (.int (-1000000002)), zGL, h) else (if v2 < (5 : Int32) then (if v1 < 0 then some (some (.int (-1)), zGL, h) else (if v1 < (h.1 26 5) then (if zin ((v1 * (5 : Int32)) + v2) 300 = true then some (some (.int (h.1 31 ((v1 * (5 : Int32)) + v2).toNatClampNeg)), zGL, h) else none) else some (some (.int (-1)), zGL, h))) else some (some (.int (-1000000002)), zGL, h))) := by
  have he : zEnt 111 [.ref 0, .int v1, .int v2] = [some (.ref 0), some (.int v1), some (.int v2)] := by unfold zEnt; rw [ml_111]; rfl
  unfold zRun
  rw [he]
  refine Eq.trans (ev_iload_n (pc := 0) k_111_0 rfl rfl) ?_
  refine Eq.trans (ev_iflt (pc := 1) k_111_1.1 rfl k_111_1.2) (z_ite ?_ ?_)
  · refine Eq.trans (ev_mk (pc := 9) (lv' := [none, none, none]) kd_111_9 rfl) ?_
    refine Eq.trans (ev_ldc (pc := 9) (v := (-1000000002)) k_111_9 rfl) ?_
    exact ev_ret_int k_111_11 rfl rt_111
  · refine Eq.trans (ev_iload_n (pc := 4) k_111_4 rfl rfl) ?_
    refine Eq.trans (ev_iconst (pc := 5) (v := 5) k_111_5 rfl (by decide)) ?_
    refine Eq.trans (ev_iclt (pc := 6) k_111_6.1 rfl k_111_6.2) (z_ite ?_ ?_)
    · refine Eq.trans (ev_iload_n (pc := 12) k_111_12 rfl rfl) ?_
      refine Eq.trans (ev_iflt (pc := 13) k_111_13.1 rfl k_111_13.2) (z_ite ?_ ?_)
      · refine Eq.trans (ev_mk (pc := 43) (lv' := [none, none, none]) kd_111_43 rfl) ?_
        refine Eq.trans (ev_iconst (pc := 43) (v := (-1)) k_111_43 rfl (by decide)) ?_
        exact ev_ret_int k_111_44 rfl rt_111
      · refine Eq.trans (ev_iload_n (pc := 16) k_111_16 rfl rfl) ?_
        refine Eq.trans (ev_aload_n (pc := 17) (x := 0) k_111_17 rfl rfl (by decide)) ?_
        refine Eq.trans (ev_getR (pc := 18) (b := 26) k_111_18 rfl zo_0.1 zg_0_5) ?_
        refine Eq.trans (ev_getI (pc := 21) k_111_21 rfl zo_26.1) ?_
        refine Eq.trans (ev_icge (pc := 24) k_111_24.1 rfl k_111_24.2) (z_ite ?_ ?_)
        · refine Eq.trans (ev_aload_n (pc := 27) (x := 0) k_111_27 rfl rfl (by decide)) ?_
          refine Eq.trans (ev_getR (pc := 28) (b := 26) k_111_28 rfl zo_0.1 zg_0_5) ?_
          refine Eq.trans (ev_getR (pc := 31) (b := 31) k_111_31 rfl zo_26.1 zg_26_4) ?_
          refine Eq.trans (ev_iload_n (pc := 34) k_111_34 rfl rfl) ?_
          refine Eq.trans (ev_iconst (pc := 35) (v := 5) k_111_35 rfl (by decide)) ?_
          refine Eq.trans (ev_imul (pc := 36) k_111_36 rfl) ?_
          refine Eq.trans (ev_iload_n (pc := 37) k_111_37 rfl rfl) ?_
          refine Eq.trans (ev_iadd (pc := 38) k_111_38 rfl) ?_
          refine Eq.trans (ev_iald_c (pc := 39) k_111_39 rfl za_31) (z_it1 ?_)
          refine Eq.trans (ev_goto (pc := 40) k_111_40.1 rfl k_111_40.2) ?_
          refine Eq.trans (ev_mk (pc := 44) (lv' := [none, none, none]) kd_111_44 rfl) ?_
          exact ev_ret_int k_111_44 rfl rt_111
        · refine Eq.trans (ev_mk (pc := 43) (lv' := [none, none, none]) kd_111_43 rfl) ?_
          refine Eq.trans (ev_iconst (pc := 43) (v := (-1)) k_111_43 rfl (by decide)) ?_
          exact ev_ret_int k_111_44 rfl rt_111
    · refine Eq.trans (ev_mk (pc := 9) (lv' := [none, none, none]) kd_111_9 rfl) ?_
      refine Eq.trans (ev_ldc (pc := 9) (v := (-1000000002)) k_111_9 rfl) ?_
      exact ev_ret_int k_111_11 rfl rt_111

set_option maxRecDepth 100000 in
theorem E_X_write (sc : zSc) (d : Nat) (h : zHp) (v1 : Int32) (v2 : Int32) (v3 : Int32) : zRun sc (d + 1) 112 [.ref 0, .int v1, .int v2, .int v3] zGL h = (zBi (zRun sc d 61 [.ref 0, .int v1, .int v2] zGL h) zGL fun x1 h1 => (if x1 = 0 then some (some (.int (-1000000001)), zGL, h1) else (zBi (zRun sc d 52 [.ref 0, .int v3] zGL h1) zGL fun x2 h2 => (if x2 = 0 then some (some (.int (-1000000001)), zGL, h2) else (zBi (zRun sc d 113 [.ref 21, .int v1, .int v2, .int v3] zGL h2) zGL fun x3 h3 => (if x3 = 0 then some (some (.int (-1000000004)), zGL, h3) else some (some (.int (h3.1 21 4)), zGL, h3))))))) := by
  have he : zEnt 112 [.ref 0, .int v1, .int v2, .int v3] = [some (.ref 0), some (.int v1), some (.int v2), some (.int v3)] := by unfold zEnt; rw [ml_112]; rfl
  unfold zRun
  rw [he]
  refine Eq.trans (ev_aload_n (pc := 0) (x := 0) k_112_0 rfl rfl (by decide)) ?_
  refine Eq.trans (ev_iload_n (pc := 1) k_112_1 rfl rfl) ?_
  refine Eq.trans (ev_iload_n (pc := 2) k_112_2 rfl rfl) ?_
  refine Eq.trans (ev_vi (pc := 3) (as := [.int v1, .int v2]) (rest := []) k_112_3 rfl zo_0 rfl rfl (Nat.le_of_ble_eq_true rfl) (Nat.le_of_ble_eq_true rfl)) (z_cbi fun x1 h1 => ?_)
  refine Eq.trans (ev_ifeq (pc := 6) k_112_6.1 rfl k_112_6.2) (z_ite ?_ ?_)
  · refine Eq.trans (ev_mk (pc := 17) (lv' := [none, none, none, none]) kd_112_17 rfl) ?_
    refine Eq.trans (ev_ldc (pc := 17) (v := (-1000000001)) k_112_17 rfl) ?_
    exact ev_ret_int k_112_19 rfl rt_112
  · refine Eq.trans (ev_aload_n (pc := 9) (x := 0) k_112_9 rfl rfl (by decide)) ?_
    refine Eq.trans (ev_iload_n (pc := 10) k_112_10 rfl rfl) ?_
    refine Eq.trans (ev_vi (pc := 11) (as := [.int v3]) (rest := []) k_112_11 rfl zo_0 rfl rfl (Nat.le_of_ble_eq_true rfl) (Nat.le_of_ble_eq_true rfl)) (z_cbi fun x2 h2 => ?_)
    refine Eq.trans (ev_ifne (pc := 14) k_112_14.1 rfl k_112_14.2) (z_ite ?_ ?_)
    · refine Eq.trans (ev_mk (pc := 17) (lv' := [none, none, none, none]) kd_112_17 rfl) ?_
      refine Eq.trans (ev_ldc (pc := 17) (v := (-1000000001)) k_112_17 rfl) ?_
      exact ev_ret_int k_112_19 rfl rt_112
    · refine Eq.trans (ev_aload_n (pc := 20) (x := 0) k_112_20 rfl rfl (by decide)) ?_
      refine Eq.trans (ev_getR (pc := 21) (b := 21) k_112_21 rfl zo_0.1 zg_0_4) ?_
      refine Eq.trans (ev_iload_n (pc := 24) k_112_24 rfl rfl) ?_
      refine Eq.trans (ev_iload_n (pc := 25) k_112_25 rfl rfl) ?_
      refine Eq.trans (ev_iload_n (pc := 26) k_112_26 rfl rfl) ?_
      refine Eq.trans (ev_vi (pc := 27) (as := [.int v1, .int v2, .int v3]) (rest := []) k_112_27 rfl zo_21 rfl rfl (Nat.le_of_ble_eq_true rfl) (Nat.le_of_ble_eq_true rfl)) (z_cbi fun x3 h3 => ?_)
      refine Eq.trans (ev_ifeq (pc := 30) k_112_30.1 rfl k_112_30.2) (z_ite ?_ ?_)
      · refine Eq.trans (ev_ldc (pc := 43) (v := (-1000000004)) k_112_43 rfl) ?_
        refine Eq.trans (ev_mk (pc := 45) (lv' := [none, none, none, none]) kd_112_45 rfl) ?_
        exact ev_ret_int k_112_45 rfl rt_112
      · refine Eq.trans (ev_aload_n (pc := 33) (x := 0) k_112_33 rfl rfl (by decide)) ?_
        refine Eq.trans (ev_getR (pc := 34) (b := 21) k_112_34 rfl zo_0.1 zg_0_4) ?_
        refine Eq.trans (ev_getI (pc := 37) k_112_37 rfl zo_21.1) ?_
        refine Eq.trans (ev_goto (pc := 40) k_112_40.1 rfl k_112_40.2) ?_
        refine Eq.trans (ev_mk (pc := 45) (lv' := [none, none, none, none]) kd_112_45 rfl) ?_
        exact ev_ret_int k_112_45 rfl rt_112

set_option maxRecDepth 100000 in
theorem E_X_tear (sc : zSc) (d : Nat) (h : zHp)  : zRun sc d 114 [.ref 0] zGL h = some (some (.int (h.1 21 4)), zGL, zPI h 21 4 0) := by
  have he : zEnt 114 [.ref 0] = [some (.ref 0), none] := by unfold zEnt; rw [ml_114]; rfl
  unfold zRun
  rw [he]
  refine Eq.trans (ev_aload_n (pc := 0) (x := 0) k_114_0 rfl rfl (by decide)) ?_
  refine Eq.trans (ev_getR (pc := 1) (b := 21) k_114_1 rfl zo_0.1 zg_0_4) ?_
  refine Eq.trans (ev_getI (pc := 4) k_114_4 rfl zo_21.1) ?_
  refine Eq.trans (ev_istore_n (pc := 7) (lv' := [some (.ref 0), some (.int (h.1 21 4))]) k_114_7 rfl (Nat.le_of_ble_eq_true rfl) rfl) ?_
  refine Eq.trans (ev_aload_n (pc := 8) (x := 0) k_114_8 rfl rfl (by decide)) ?_
  refine Eq.trans (ev_getR (pc := 9) (b := 21) k_114_9 rfl zo_0.1 zg_0_4) ?_
  refine Eq.trans (ev_iconst (pc := 12) (v := 0) k_114_12 rfl (by decide)) ?_
  refine Eq.trans (ev_putI (pc := 13) k_114_13 rfl zo_21.1) ?_
  refine Eq.trans (ev_iload_n (pc := 16) k_114_16 rfl rfl) ?_
  exact ev_ret_int k_114_17 rfl rt_114

set_option maxRecDepth 100000 in
theorem E_X_judge (sc : zSc) (d : Nat) (h : zHp)  : zRun sc (d + 1) 115 [.ref 0] zGL h = (zOT (h.2.2 0 8) fun t1 ht1 => (zBi (zRun sc d 116 [.ref 21, .ref t1, .ref 26] zGL h) zGL fun x2 h2 => some (some (.int x2), zGL, h2))) := by
  have he : zEnt 115 [.ref 0] = [some (.ref 0)] := by unfold zEnt; rw [ml_115]; rfl
  unfold zRun
  rw [he]
  refine Eq.trans (ev_aload_n (pc := 0) (x := 0) k_115_0 rfl rfl (by decide)) ?_
  refine Eq.trans (ev_getR (pc := 1) (b := 21) k_115_1 rfl zo_0.1 zg_0_4) ?_
  refine Eq.trans (ev_aload_n (pc := 4) (x := 0) k_115_4 rfl rfl (by decide)) ?_
  refine Eq.trans (ev_getT (pc := 5) k_115_5 rfl zo_0.1) (z_cot fun t1 ht1 => ?_)
  refine Eq.trans (ev_aload_n (pc := 8) (x := 0) k_115_8 rfl rfl (by decide)) ?_
  refine Eq.trans (ev_getR (pc := 9) (b := 26) k_115_9 rfl zo_0.1 zg_0_5) ?_
  refine Eq.trans (ev_vi (pc := 12) (as := [.ref t1, .ref 26]) (rest := []) k_115_12 rfl zo_21 rfl rfl (Nat.le_of_ble_eq_true rfl) (Nat.le_of_ble_eq_true rfl)) (z_cbi fun x2 h2 => ?_)
  exact ev_ret_int k_115_15 rfl rt_115

set_option maxRecDepth 100000 in
theorem E_X_drift (sc : zSc) (d : Nat) (h : zHp) (v1 : Int32) (v2 : Int32) : zRun sc (d + 1) 117 [.ref 0, .int v1, .int v2] zGL h = (if v1 < (1 : Int32) then some (some (.int (-1000000002)), zGL, h) else (if (99 : Int32) < v1 then some (some (.int (-1000000002)), zGL, h) else (if v2 < 0 then some (some (.int (-1000000002)), zGL, h) else (if (1000000 : Int32) < v2 then some (some (.int (-1000000002)), zGL, h) else (zOT (h.2.2 0 8) fun t1 ht1 => (if (h.1 t1 1) < (2 : Int32) then some (some (.int (-1000000003)), zGL, h) else zE sc (d + 1) 117 43 [some (.ref 0), some (.int v1), some (.int v2), some (.int 0), some (.int 0)] [] zGL h)))))) := by
  have he : zEnt 117 [.ref 0, .int v1, .int v2] = [some (.ref 0), some (.int v1), some (.int v2), none, none] := by unfold zEnt; rw [ml_117]; rfl
  unfold zRun
  rw [he]
  refine Eq.trans (ev_iload_n (pc := 0) k_117_0 rfl rfl) ?_
  refine Eq.trans (ev_iconst (pc := 1) (v := 1) k_117_1 rfl (by decide)) ?_
  refine Eq.trans (ev_iclt (pc := 2) k_117_2.1 rfl k_117_2.2) (z_ite ?_ ?_)
  · refine Eq.trans (ev_mk (pc := 21) (lv' := [none, none, none, none, none]) kd_117_21 rfl) ?_
    refine Eq.trans (ev_ldc (pc := 21) (v := (-1000000002)) k_117_21 rfl) ?_
    exact ev_ret_int k_117_23 rfl rt_117
  · refine Eq.trans (ev_iload_n (pc := 5) k_117_5 rfl rfl) ?_
    refine Eq.trans (ev_bipush (pc := 6) (v := 99) k_117_6 rfl (by decide)) ?_
    refine Eq.trans (ev_icgt (pc := 8) k_117_8.1 rfl k_117_8.2) (z_ite ?_ ?_)
    · refine Eq.trans (ev_mk (pc := 21) (lv' := [none, none, none, none, none]) kd_117_21 rfl) ?_
      refine Eq.trans (ev_ldc (pc := 21) (v := (-1000000002)) k_117_21 rfl) ?_
      exact ev_ret_int k_117_23 rfl rt_117
    · refine Eq.trans (ev_iload_n (pc := 11) k_117_11 rfl rfl) ?_
      refine Eq.trans (ev_iflt (pc := 12) k_117_12.1 rfl k_117_12.2) (z_ite ?_ ?_)
      · refine Eq.trans (ev_mk (pc := 21) (lv' := [none, none, none, none, none]) kd_117_21 rfl) ?_
        refine Eq.trans (ev_ldc (pc := 21) (v := (-1000000002)) k_117_21 rfl) ?_
        exact ev_ret_int k_117_23 rfl rt_117
      · refine Eq.trans (ev_iload_n (pc := 15) k_117_15 rfl rfl) ?_
        refine Eq.trans (ev_ldc (pc := 16) (v := 1000000) k_117_16 rfl) ?_
        refine Eq.trans (ev_icle (pc := 18) k_117_18.1 rfl k_117_18.2) (z_ite ?_ ?_)
        · refine Eq.trans (ev_mk (pc := 21) (lv' := [none, none, none, none, none]) kd_117_21 rfl) ?_
          refine Eq.trans (ev_ldc (pc := 21) (v := (-1000000002)) k_117_21 rfl) ?_
          exact ev_ret_int k_117_23 rfl rt_117
        · refine Eq.trans (ev_aload_n (pc := 24) (x := 0) k_117_24 rfl rfl (by decide)) ?_
          refine Eq.trans (ev_getT (pc := 25) k_117_25 rfl zo_0.1) (z_cot fun t1 ht1 => ?_)
          refine Eq.trans (ev_getI (pc := 28) k_117_28 rfl (zTw_6 ht1).1.1) ?_
          refine Eq.trans (ev_iconst (pc := 31) (v := 2) k_117_31 rfl (by decide)) ?_
          refine Eq.trans (ev_icge (pc := 32) k_117_32.1 rfl k_117_32.2) (z_ite ?_ ?_)
          · refine Eq.trans (ev_ldc (pc := 35) (v := (-1000000003)) k_117_35 rfl) ?_
            exact ev_ret_int k_117_37 rfl rt_117
          · refine Eq.trans (ev_iconst (pc := 38) (v := 0) k_117_38 rfl (by decide)) ?_
            refine Eq.trans (ev_istore_n (pc := 39) (lv' := [some (.ref 0), some (.int v1), some (.int v2), some (.int 0), none]) k_117_39 rfl (Nat.le_of_ble_eq_true rfl) rfl) ?_
            refine Eq.trans (ev_iconst (pc := 40) (v := 0) k_117_40 rfl (by decide)) ?_
            refine Eq.trans (ev_istore (pc := 41) (lv' := [some (.ref 0), some (.int v1), some (.int v2), some (.int 0), some (.int 0)]) k_117_41 rfl (Nat.le_of_ble_eq_true rfl) rfl) ?_
            exact ev_mk kd_117_43 rfl

set_option maxRecDepth 100000 in
theorem E_X_drift_43 (sc : zSc) (d : Nat) (h : zHp) (v1 : Int32) (v2 : Int32) (v3 : Int32) (v4 : Int32) : zE sc (d + 1) 117 43 [some (.ref 0), some (.int v1), some (.int v2), some (.int v3), some (.int v4)] [] zGL h = (if v4 < v1 then (zBi (zRun sc d 118 [.ref 0, .int v2] zGL h) zGL fun x1 h1 => zE sc (d + 1) 117 43 [some (.ref 0), some (.int v1), some (.int v2), some (.int (v3 + x1)), some (.int (v4 + 1))] [] zGL h1) else some (some (.int v3), zGL, h)) := by
  refine Eq.trans (ev_iload (pc := 43) k_117_43 rfl rfl) ?_
  refine Eq.trans (ev_iload_n (pc := 45) k_117_45 rfl rfl) ?_
  refine Eq.trans (ev_icge (pc := 46) k_117_46.1 rfl k_117_46.2) (z_ite ?_ ?_)
  · refine Eq.trans (ev_iload_n (pc := 49) k_117_49 rfl rfl) ?_
    refine Eq.trans (ev_aload_n (pc := 50) (x := 0) k_117_50 rfl rfl (by decide)) ?_
    refine Eq.trans (ev_iload_n (pc := 51) k_117_51 rfl rfl) ?_
    refine Eq.trans (ev_vi (pc := 52) (as := [.int v2]) (rest := [.int v3]) k_117_52 rfl zo_0 rfl rfl (Nat.le_of_ble_eq_true rfl) (Nat.le_of_ble_eq_true rfl)) (z_cbi fun x1 h1 => ?_)
    refine Eq.trans (ev_iadd (pc := 55) k_117_55 rfl) ?_
    refine Eq.trans (ev_istore_n (pc := 56) (lv' := [some (.ref 0), some (.int v1), some (.int v2), some (.int (v3 + x1)), some (.int v4)]) k_117_56 rfl (Nat.le_of_ble_eq_true rfl) rfl) ?_
    refine Eq.trans (ev_iinc (pc := 57) (v := 1) (lv' := [some (.ref 0), some (.int v1), some (.int v2), some (.int (v3 + x1)), some (.int (v4 + 1))]) k_117_57 rfl rfl (by decide) rfl) ?_
    refine Eq.trans (ev_goto (pc := 60) k_117_60.1 rfl k_117_60.2) ?_
    exact ev_mk kd_117_43 rfl
  · refine Eq.trans (ev_iload_n (pc := 63) k_117_63 rfl rfl) ?_
    exact ev_ret_int k_117_64 rfl rt_117

set_option maxRecDepth 100000 in
theorem E_X_driftOnce (sc : zSc) (d : Nat) (h : zHp) (v1 : Int32) : zRun sc (d + 1) 118 [.ref 0, .int v1] zGL h = (zOT (h.2.2 0 8) fun t1 ht1 => (zBi (zRun sc d 119 [.ref 26, .int (h.1 t1 1)] zGL h) zGL fun x2 h2 => (zOT (h2.2.2 0 8) fun t3 ht3 => (zBi (zRun sc d 119 [.ref 26, .int ((h2.1 t3 1) - (1 : Int32))] zGL h2) zGL fun x4 h4 => (if x4 < x2 then zE sc (d + 1) 118 40 [some (.ref 0), some (.int v1), some (.int x2), some (.int x4), none] [] zGL h4 else zE sc (d + 1) 118 40 [some (.ref 0), some (.int v1), some (.int x2), some (.int (x4 + 1)), none] [] zGL h4))))) := by
  have he : zEnt 118 [.ref 0, .int v1] = [some (.ref 0), some (.int v1), none, none, none] := by unfold zEnt; rw [ml_118]; rfl
  unfold zRun
  rw [he]
  refine Eq.trans (ev_aload_n (pc := 0) (x := 0) k_118_0 rfl rfl (by decide)) ?_
  refine Eq.trans (ev_getR (pc := 1) (b := 26) k_118_1 rfl zo_0.1 zg_0_5) ?_
  refine Eq.trans (ev_aload_n (pc := 4) (x := 0) k_118_4 rfl rfl (by decide)) ?_
  refine Eq.trans (ev_getT (pc := 5) k_118_5 rfl zo_0.1) (z_cot fun t1 ht1 => ?_)
  refine Eq.trans (ev_getI (pc := 8) k_118_8 rfl (zTw_6 ht1).1.1) ?_
  refine Eq.trans (ev_vi (pc := 11) (as := [.int (h.1 t1 1)]) (rest := []) k_118_11 rfl zo_26 rfl rfl (Nat.le_of_ble_eq_true rfl) (Nat.le_of_ble_eq_true rfl)) (z_cbi fun x2 h2 => ?_)
  refine Eq.trans (ev_istore_n (pc := 14) (lv' := [some (.ref 0), some (.int v1), some (.int x2), none, none]) k_118_14 rfl (Nat.le_of_ble_eq_true rfl) rfl) ?_
  refine Eq.trans (ev_aload_n (pc := 15) (x := 0) k_118_15 rfl rfl (by decide)) ?_
  refine Eq.trans (ev_getR (pc := 16) (b := 26) k_118_16 rfl zo_0.1 zg_0_5) ?_
  refine Eq.trans (ev_aload_n (pc := 19) (x := 0) k_118_19 rfl rfl (by decide)) ?_
  refine Eq.trans (ev_getT (pc := 20) k_118_20 rfl zo_0.1) (z_cot fun t3 ht3 => ?_)
  refine Eq.trans (ev_getI (pc := 23) k_118_23 rfl (zTw_6 ht3).1.1) ?_
  refine Eq.trans (ev_iconst (pc := 26) (v := 1) k_118_26 rfl (by decide)) ?_
  refine Eq.trans (ev_isub (pc := 27) k_118_27 rfl) ?_
  refine Eq.trans (ev_vi (pc := 28) (as := [.int ((h2.1 t3 1) - (1 : Int32))]) (rest := []) k_118_28 rfl zo_26 rfl rfl (Nat.le_of_ble_eq_true rfl) (Nat.le_of_ble_eq_true rfl)) (z_cbi fun x4 h4 => ?_)
  refine Eq.trans (ev_istore_n (pc := 31) (lv' := [some (.ref 0), some (.int v1), some (.int x2), some (.int x4), none]) k_118_31 rfl (Nat.le_of_ble_eq_true rfl) rfl) ?_
  refine Eq.trans (ev_iload_n (pc := 32) k_118_32 rfl rfl) ?_
  refine Eq.trans (ev_iload_n (pc := 33) k_118_33 rfl rfl) ?_
  refine Eq.trans (ev_iclt (pc := 34) k_118_34.1 rfl k_118_34.2) (z_ite ?_ ?_)
  · exact ev_mk kd_118_40 rfl
  · refine Eq.trans (ev_iinc (pc := 37) (v := 1) (lv' := [some (.ref 0), some (.int v1), some (.int x2), some (.int (x4 + 1)), none]) k_118_37 rfl rfl (by decide) rfl) ?_
    exact ev_mk kd_118_40 rfl

set_option maxRecDepth 100000 in
theorem E_X_driftOnce_40 (sc : zSc) (d : Nat) (h : zHp) (v1 : Int32) (v2 : Int32) (v3 : Int32) : zE sc (d + 1) 118 40 [some (.ref 0), some (.int v1), some (.int v2), some (.int v3), none] [] zGL h = (zOT (h.2.2 0 8) fun t1 ht1 => (zBi (zRun sc d 73 [.ref 26, .ref t1, .int v2, .int v3] zGL h) zGL fun x2 h2 => (if x2 = ((-1) : Int32) then zE sc (d + 1) 118 93 [some (.ref 0), none, some (.int v2), some (.int v3), none] [] zGL h2 else (zBi (zRun sc d 71 [.ref 26, .int v2, .int v3, .int x2] zGL h2) zGL fun x3 h3 => (if x3 < v1 then zE sc (d + 1) 118 93 [some (.ref 0), none, some (.int v2), some (.int v3), none] [] zGL h3 else (zOT (h3.2.2 0 8) fun t4 ht4 => (zBi (zRun sc d 77 [.ref 26, .ref t4, .int v2, .int v3, .int x2, .int 0] zGL h3) zGL fun x5 h5 => some (some (.int x5), zGL, h5)))))))) := by
  refine Eq.trans (ev_aload_n (pc := 40) (x := 0) k_118_40 rfl rfl (by decide)) ?_
  refine Eq.trans (ev_getR (pc := 41) (b := 26) k_118_41 rfl zo_0.1 zg_0_5) ?_
  refine Eq.trans (ev_aload_n (pc := 44) (x := 0) k_118_44 rfl rfl (by decide)) ?_
  refine Eq.trans (ev_getT (pc := 45) k_118_45 rfl zo_0.1) (z_cot fun t1 ht1 => ?_)
  refine Eq.trans (ev_iload_n (pc := 48) k_118_48 rfl rfl) ?_
  refine Eq.trans (ev_iload_n (pc := 49) k_118_49 rfl rfl) ?_
  refine Eq.trans (ev_vi (pc := 50) (as := [.ref t1, .int v2, .int v3]) (rest := []) k_118_50 rfl zo_26 rfl rfl (Nat.le_of_ble_eq_true rfl) (Nat.le_of_ble_eq_true rfl)) (z_cbi fun x2 h2 => ?_)
  refine Eq.trans (ev_istore (pc := 53) (lv' := [some (.ref 0), some (.int v1), some (.int v2), some (.int v3), some (.int x2)]) k_118_53 rfl (Nat.le_of_ble_eq_true rfl) rfl) ?_
  refine Eq.trans (ev_iload (pc := 55) k_118_55 rfl rfl) ?_
  refine Eq.trans (ev_iconst (pc := 57) (v := (-1)) k_118_57 rfl (by decide)) ?_
  refine Eq.trans (ev_iceq (pc := 58) k_118_58.1 rfl k_118_58.2) (z_ite ?_ ?_)
  · exact ev_mk kd_118_93 rfl
  · refine Eq.trans (ev_aload_n (pc := 61) (x := 0) k_118_61 rfl rfl (by decide)) ?_
    refine Eq.trans (ev_getR (pc := 62) (b := 26) k_118_62 rfl zo_0.1 zg_0_5) ?_
    refine Eq.trans (ev_iload_n (pc := 65) k_118_65 rfl rfl) ?_
    refine Eq.trans (ev_iload_n (pc := 66) k_118_66 rfl rfl) ?_
    refine Eq.trans (ev_iload (pc := 67) k_118_67 rfl rfl) ?_
    refine Eq.trans (ev_vi (pc := 69) (as := [.int v2, .int v3, .int x2]) (rest := []) k_118_69 rfl zo_26 rfl rfl (Nat.le_of_ble_eq_true rfl) (Nat.le_of_ble_eq_true rfl)) (z_cbi fun x3 h3 => ?_)
    refine Eq.trans (ev_iload_n (pc := 72) k_118_72 rfl rfl) ?_
    refine Eq.trans (ev_iclt (pc := 73) k_118_73.1 rfl k_118_73.2) (z_ite ?_ ?_)
    · exact ev_mk kd_118_93 rfl
    · refine Eq.trans (ev_aload_n (pc := 76) (x := 0) k_118_76 rfl rfl (by decide)) ?_
      refine Eq.trans (ev_getR (pc := 77) (b := 26) k_118_77 rfl zo_0.1 zg_0_5) ?_
      refine Eq.trans (ev_aload_n (pc := 80) (x := 0) k_118_80 rfl rfl (by decide)) ?_
      refine Eq.trans (ev_getT (pc := 81) k_118_81 rfl zo_0.1) (z_cot fun t4 ht4 => ?_)
      refine Eq.trans (ev_iload_n (pc := 84) k_118_84 rfl rfl) ?_
      refine Eq.trans (ev_iload_n (pc := 85) k_118_85 rfl rfl) ?_
      refine Eq.trans (ev_iload (pc := 86) k_118_86 rfl rfl) ?_
      refine Eq.trans (ev_iconst (pc := 88) (v := 0) k_118_88 rfl (by decide)) ?_
      refine Eq.trans (ev_vi (pc := 89) (as := [.ref t4, .int v2, .int v3, .int x2, .int 0]) (rest := []) k_118_89 rfl zo_26 rfl rfl (Nat.le_of_ble_eq_true rfl) (Nat.le_of_ble_eq_true rfl)) (z_cbi fun x5 h5 => ?_)
      exact ev_ret_int k_118_92 rfl rt_118

set_option maxRecDepth 100000 in
theorem E_X_driftOnce_93 (sc : zSc) (d : Nat) (h : zHp) (v2 : Int32) (v3 : Int32) : zE sc (d + 1) 118 93 [some (.ref 0), none, some (.int v2), some (.int v3), none] [] zGL h = (zOT (h.2.2 0 8) fun t1 ht1 => (zBi (zRun sc d 84 [.ref 26, .ref t1, .int v2, .int v3] zGL h) zGL fun x2 h2 => some (some (.int 0), zGL, h2))) := by
  refine Eq.trans (ev_aload_n (pc := 93) (x := 0) k_118_93 rfl rfl (by decide)) ?_
  refine Eq.trans (ev_getR (pc := 94) (b := 26) k_118_94 rfl zo_0.1 zg_0_5) ?_
  refine Eq.trans (ev_aload_n (pc := 97) (x := 0) k_118_97 rfl rfl (by decide)) ?_
  refine Eq.trans (ev_getT (pc := 98) k_118_98 rfl zo_0.1) (z_cot fun t1 ht1 => ?_)
  refine Eq.trans (ev_iload_n (pc := 101) k_118_101 rfl rfl) ?_
  refine Eq.trans (ev_iload_n (pc := 102) k_118_102 rfl rfl) ?_
  refine Eq.trans (ev_vi (pc := 103) (as := [.ref t1, .int v2, .int v3]) (rest := []) k_118_103 rfl zo_26 rfl rfl (Nat.le_of_ble_eq_true rfl) (Nat.le_of_ble_eq_true rfl)) (z_cbi fun x2 h2 => ?_)
  refine Eq.trans (ev_pop (pc := 106) k_118_106 rfl rfl) ?_
  refine Eq.trans (ev_iconst (pc := 107) (v := 0) k_118_107 rfl (by decide)) ?_
  exact ev_ret_int k_118_108 rfl rt_118

set_option maxRecDepth 100000 in
theorem E_X_seed (sc : zSc) (d : Nat) (h : zHp) (v1 : Int32) : zRun sc d 120 [.ref 0, .int v1] zGL h = (if v1 < 0 then some (some (.int (-1000000002)), zGL, h) else some (some (.int (h.1 26 6)), zGL, zPI h 26 6 v1)) := by
  have he : zEnt 120 [.ref 0, .int v1] = [some (.ref 0), some (.int v1), none] := by unfold zEnt; rw [ml_120]; rfl
  unfold zRun
  rw [he]
  refine Eq.trans (ev_iload_n (pc := 0) k_120_0 rfl rfl) ?_
  refine Eq.trans (ev_ifge (pc := 1) k_120_1.1 rfl k_120_1.2) (z_ite ?_ ?_)
  · refine Eq.trans (ev_ldc (pc := 4) (v := (-1000000002)) k_120_4 rfl) ?_
    exact ev_ret_int k_120_6 rfl rt_120
  · refine Eq.trans (ev_aload_n (pc := 7) (x := 0) k_120_7 rfl rfl (by decide)) ?_
    refine Eq.trans (ev_getR (pc := 8) (b := 26) k_120_8 rfl zo_0.1 zg_0_5) ?_
    refine Eq.trans (ev_getI (pc := 11) k_120_11 rfl zo_26.1) ?_
    refine Eq.trans (ev_istore_n (pc := 14) (lv' := [some (.ref 0), some (.int v1), some (.int (h.1 26 6))]) k_120_14 rfl (Nat.le_of_ble_eq_true rfl) rfl) ?_
    refine Eq.trans (ev_aload_n (pc := 15) (x := 0) k_120_15 rfl rfl (by decide)) ?_
    refine Eq.trans (ev_getR (pc := 16) (b := 26) k_120_16 rfl zo_0.1 zg_0_5) ?_
    refine Eq.trans (ev_iload_n (pc := 19) k_120_19 rfl rfl) ?_
    refine Eq.trans (ev_putI (pc := 20) k_120_20 rfl zo_26.1) ?_
    refine Eq.trans (ev_iload_n (pc := 23) k_120_23 rfl rfl) ?_
    exact ev_ret_int k_120_24 rfl rt_120

set_option maxRecDepth 100000 in
theorem E_X_keep (sc : zSc) (d : Nat) (h : zHp) (v1 : Int32) : zRun sc (d + 1) 121 [.ref 0, .int v1] zGL h = (zBi (zRun sc d 122 [.ref 0, .int v1] zGL h) zGL fun x1 h1 => (if x1 = 0 then some (some (.int (-1000000001)), zGL, h1) else (if zin v1 2 = true then zOK (h1.2.2 32 v1.toNatClampNeg) fun t2 ht2 => (zBv (zRun sc d 123 [.ref t2, .ref 26] zGL h1) zGL fun h3 => (if zin v1 2 = true then some (some (.int 1), zGL, zPI h3 45 v1.toNatClampNeg 1) else none)) else none))) := by
  have he : zEnt 121 [.ref 0, .int v1] = [some (.ref 0), some (.int v1)] := by unfold zEnt; rw [ml_121]; rfl
  unfold zRun
  rw [he]
  refine Eq.trans (ev_aload_n (pc := 0) (x := 0) k_121_0 rfl rfl (by decide)) ?_
  refine Eq.trans (ev_iload_n (pc := 1) k_121_1 rfl rfl) ?_
  refine Eq.trans (ev_vi (pc := 2) (as := [.int v1]) (rest := []) k_121_2 rfl zo_0 rfl rfl (Nat.le_of_ble_eq_true rfl) (Nat.le_of_ble_eq_true rfl)) (z_cbi fun x1 h1 => ?_)
  refine Eq.trans (ev_ifne (pc := 5) k_121_5.1 rfl k_121_5.2) (z_ite ?_ ?_)
  · refine Eq.trans (ev_ldc (pc := 8) (v := (-1000000001)) k_121_8 rfl) ?_
    exact ev_ret_int k_121_10 rfl rt_121
  · refine Eq.trans (ev_aload_n (pc := 11) (x := 0) k_121_11 rfl rfl (by decide)) ?_
    refine Eq.trans (ev_getR (pc := 12) (b := 32) k_121_12 rfl zo_0.1 zg_0_6) ?_
    refine Eq.trans (ev_iload_n (pc := 15) k_121_15 rfl rfl) ?_
    refine Eq.trans (ev_aald_c (pc := 16) k_121_16 rfl za_32) (z_it1 (z_cok fun t2 ht2 => ?_))
    refine Eq.trans (ev_aload_n (pc := 17) (x := 0) k_121_17 rfl rfl (by decide)) ?_
    refine Eq.trans (ev_getR (pc := 18) (b := 26) k_121_18 rfl zo_0.1 zg_0_5) ?_
    refine Eq.trans (ev_vv (pc := 21) (as := [.ref 26]) (rest := []) k_121_21 rfl (zTk_4 ht2).1 rfl rfl (Nat.le_of_ble_eq_true rfl) (Nat.le_of_ble_eq_true rfl)) (z_cbv fun h3 => ?_)
    refine Eq.trans (ev_aload_n (pc := 24) (x := 0) k_121_24 rfl rfl (by decide)) ?_
    refine Eq.trans (ev_getR (pc := 25) (b := 45) k_121_25 rfl zo_0.1 zg_0_7) ?_
    refine Eq.trans (ev_iload_n (pc := 28) k_121_28 rfl rfl) ?_
    refine Eq.trans (ev_iconst (pc := 29) (v := 1) k_121_29 rfl (by decide)) ?_
    refine Eq.trans (ev_bast_c (pc := 30) k_121_30 rfl za_45 (by decide)) (z_it1 ?_)
    refine Eq.trans (ev_iconst (pc := 31) (v := 1) k_121_31 rfl (by decide)) ?_
    exact ev_ret_int k_121_32 rfl rt_121

set_option maxRecDepth 100000 in
theorem E_X_isImage (sc : zSc) (d : Nat) (h : zHp) (v1 : Int32) : zRun sc d 122 [.ref 0, .int v1] zGL h = (if v1 < 0 then some (some (.int 0), zGL, h) else (if v1 < (2 : Int32) then some (some (.int 1), zGL, h) else some (some (.int 0), zGL, h))) := by
  have he : zEnt 122 [.ref 0, .int v1] = [some (.ref 0), some (.int v1)] := by unfold zEnt; rw [ml_122]; rfl
  unfold zRun
  rw [he]
  refine Eq.trans (ev_iload_n (pc := 0) k_122_0 rfl rfl) ?_
  refine Eq.trans (ev_iflt (pc := 1) k_122_1.1 rfl k_122_1.2) (z_ite ?_ ?_)
  · refine Eq.trans (ev_mk (pc := 13) (lv' := [none, none]) kd_122_13 rfl) ?_
    refine Eq.trans (ev_iconst (pc := 13) (v := 0) k_122_13 rfl (by decide)) ?_
    exact ev_ret_b1 k_122_14 rfl rt_122 (by decide)
  · refine Eq.trans (ev_iload_n (pc := 4) k_122_4 rfl rfl) ?_
    refine Eq.trans (ev_iconst (pc := 5) (v := 2) k_122_5 rfl (by decide)) ?_
    refine Eq.trans (ev_icge (pc := 6) k_122_6.1 rfl k_122_6.2) (z_ite ?_ ?_)
    · refine Eq.trans (ev_iconst (pc := 9) (v := 1) k_122_9 rfl (by decide)) ?_
      refine Eq.trans (ev_goto (pc := 10) k_122_10.1 rfl k_122_10.2) ?_
      refine Eq.trans (ev_mk (pc := 14) (lv' := [none, none]) kd_122_14 rfl) ?_
      exact ev_ret_b1 k_122_14 rfl rt_122 (by decide)
    · refine Eq.trans (ev_mk (pc := 13) (lv' := [none, none]) kd_122_13 rfl) ?_
      refine Eq.trans (ev_iconst (pc := 13) (v := 0) k_122_13 rfl (by decide)) ?_
      exact ev_ret_b1 k_122_14 rfl rt_122 (by decide)

set_option maxRecDepth 100000 in
theorem E_X_goBack (sc : zSc) (d : Nat) (h : zHp) (v1 : Int32) : zRun sc (d + 1) 124 [.ref 0, .int v1] zGL h = (zBi (zRun sc d 122 [.ref 0, .int v1] zGL h) zGL fun x1 h1 => (if x1 = 0 then some (some (.int (-1000000001)), zGL, h1) else (if zin v1 2 = true then (if (h1.1 45 v1.toNatClampNeg) = 0 then some (some (.int (-1000000003)), zGL, h1) else (if zin v1 2 = true then zOK (h1.2.2 32 v1.toNatClampNeg) fun t2 ht2 => (zBv (zRun sc d 123 [.ref 26, .ref t2] zGL h1) zGL fun h3 => some (some (.int 1), zGL, h3)) else none)) else none))) := by
  have he : zEnt 124 [.ref 0, .int v1] = [some (.ref 0), some (.int v1)] := by unfold zEnt; rw [ml_124]; rfl
  unfold zRun
  rw [he]
  refine Eq.trans (ev_aload_n (pc := 0) (x := 0) k_124_0 rfl rfl (by decide)) ?_
  refine Eq.trans (ev_iload_n (pc := 1) k_124_1 rfl rfl) ?_
  refine Eq.trans (ev_vi (pc := 2) (as := [.int v1]) (rest := []) k_124_2 rfl zo_0 rfl rfl (Nat.le_of_ble_eq_true rfl) (Nat.le_of_ble_eq_true rfl)) (z_cbi fun x1 h1 => ?_)
  refine Eq.trans (ev_ifne (pc := 5) k_124_5.1 rfl k_124_5.2) (z_ite ?_ ?_)
  · refine Eq.trans (ev_ldc (pc := 8) (v := (-1000000001)) k_124_8 rfl) ?_
    exact ev_ret_int k_124_10 rfl rt_124
  · refine Eq.trans (ev_aload_n (pc := 11) (x := 0) k_124_11 rfl rfl (by decide)) ?_
    refine Eq.trans (ev_getR (pc := 12) (b := 45) k_124_12 rfl zo_0.1 zg_0_7) ?_
    refine Eq.trans (ev_iload_n (pc := 15) k_124_15 rfl rfl) ?_
    refine Eq.trans (ev_bald_c (pc := 16) k_124_16 rfl za_45) (z_it1 ?_)
    refine Eq.trans (ev_ifne (pc := 17) k_124_17.1 rfl k_124_17.2) (z_ite ?_ ?_)
    · refine Eq.trans (ev_ldc (pc := 20) (v := (-1000000003)) k_124_20 rfl) ?_
      exact ev_ret_int k_124_22 rfl rt_124
    · refine Eq.trans (ev_aload_n (pc := 23) (x := 0) k_124_23 rfl rfl (by decide)) ?_
      refine Eq.trans (ev_getR (pc := 24) (b := 26) k_124_24 rfl zo_0.1 zg_0_5) ?_
      refine Eq.trans (ev_aload_n (pc := 27) (x := 0) k_124_27 rfl rfl (by decide)) ?_
      refine Eq.trans (ev_getR (pc := 28) (b := 32) k_124_28 rfl zo_0.1 zg_0_6) ?_
      refine Eq.trans (ev_iload_n (pc := 31) k_124_31 rfl rfl) ?_
      refine Eq.trans (ev_aald_c (pc := 32) k_124_32 rfl za_32) (z_it1 (z_cok fun t2 ht2 => ?_))
      refine Eq.trans (ev_vv (pc := 33) (as := [.ref t2]) (rest := []) k_124_33 rfl zo_26 rfl rfl (Nat.le_of_ble_eq_true rfl) (Nat.le_of_ble_eq_true rfl)) (z_cbv fun h3 => ?_)
      refine Eq.trans (ev_iconst (pc := 36) (v := 1) k_124_36 rfl (by decide)) ?_
      exact ev_ret_int k_124_37 rfl rt_124


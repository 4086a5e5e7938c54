set_option maxRecDepth 100000 in
theorem E_Pl_find (sc : zSc) (d : Nat) (h : zHp) (a1 : Nat) (q1 : zS6 zGL a1) (a2 : Nat) (q2 : zS4 zGL a2) (v3 : Int32) (v4 : Int32) : zRun sc (d + 1) 92 [.ref 16, .ref a1, .ref a2, .int v3, .int v4] zGL h = (if zin v3 5 = true then (if zin v4 5 = true then (zBi (zRun sc d 93 [.ref a1] zGL (zPI (zPI (zPI (zPR h 16 2 a1) 16 3 v3) 16 4 v4) 16 5 (((zPI (zPI (zPR h 16 2 a1) 16 3 v3) 16 4 v4).1 (a2 + 1) v3.toNatClampNeg) ||| ((zPI (zPI (zPR h 16 2 a1) 16 3 v3) 16 4 v4).1 (a2 + 1) v4.toNatClampNeg)))) zGL fun x1 h1 => zE sc (d + 1) 92 57 [some (.ref 16), none, some (.ref a2), some (.int v3), some (.int v4), some (.int 0)] [] zGL (zPI (zPI h1 16 6 (((zPI (zPI (zPI (zPR h 16 2 a1) 16 3 v3) 16 4 v4) 16 5 (((zPI (zPI (zPR h 16 2 a1) 16 3 v3) 16 4 v4).1 (a2 + 1) v3.toNatClampNeg) ||| ((zPI (zPI (zPR h 16 2 a1) 16 3 v3) 16 4 v4).1 (a2 + 1) v4.toNatClampNeg))).1 16 5) &&& (x1 ^^^ ((-1) : Int32)))) 16 8 (-1))) else none) else none) := by
  have he : zEnt 92 [.ref 16, .ref a1, .ref a2, .int v3, .int v4] = [some (.ref 16), some (.ref a1), some (.ref a2), some (.int v3), some (.int v4), none] := by unfold zEnt; rw [ml_92]; rfl
  unfold zRun
  rw [he]
  refine Eq.trans (ev_aload_n (pc := 0) (x := 16) k_92_0 rfl rfl (by decide)) ?_
  refine Eq.trans (ev_aload_n (pc := 1) (x := a1) k_92_1 rfl rfl (zIO_lt q1.1).2.2) ?_
  refine Eq.trans (ev_putT (pc := 2) k_92_2 rfl zo_16.1 (zIO_lt q1.1).2.1) ?_
  refine Eq.trans (ev_aload_n (pc := 5) (x := 16) k_92_5 rfl rfl (by decide)) ?_
  refine Eq.trans (ev_iload_n (pc := 6) k_92_6 rfl rfl) ?_
  refine Eq.trans (ev_putI (pc := 7) k_92_7 rfl zo_16.1) ?_
  refine Eq.trans (ev_aload_n (pc := 10) (x := 16) k_92_10 rfl rfl (by decide)) ?_
  refine Eq.trans (ev_iload (pc := 11) k_92_11 rfl rfl) ?_
  refine Eq.trans (ev_putI (pc := 13) k_92_13 rfl zo_16.1) ?_
  refine Eq.trans (ev_aload_n (pc := 16) (x := 16) k_92_16 rfl rfl (by decide)) ?_
  refine Eq.trans (ev_aload_n (pc := 17) (x := a2) k_92_17 rfl rfl (zIO_lt q2.1).2.2) ?_
  refine Eq.trans (ev_getR (pc := 18) (b := a2 + 1) k_92_18 rfl q2.1.1 q2.2.1) ?_
  refine Eq.trans (ev_iload_n (pc := 21) k_92_21 rfl rfl) ?_
  refine Eq.trans (ev_iald_c (pc := 22) k_92_22 rfl q2.2.2.2.2.2.2.1) (z_it1 ?_)
  refine Eq.trans (ev_aload_n (pc := 23) (x := a2) k_92_23 rfl rfl (zIO_lt q2.1).2.2) ?_
  refine Eq.trans (ev_getR (pc := 24) (b := a2 + 1) k_92_24 rfl q2.1.1 q2.2.1) ?_
  refine Eq.trans (ev_iload (pc := 27) k_92_27 rfl rfl) ?_
  refine Eq.trans (ev_iald_c (pc := 29) k_92_29 rfl q2.2.2.2.2.2.2.1) (z_it1 ?_)
  refine Eq.trans (ev_ior (pc := 30) k_92_30 rfl) ?_
  refine Eq.trans (ev_putI (pc := 31) k_92_31 rfl zo_16.1) ?_
  refine Eq.trans (ev_aload_n (pc := 34) (x := 16) k_92_34 rfl rfl (by decide)) ?_
  refine Eq.trans (ev_aload_n (pc := 35) (x := 16) k_92_35 rfl rfl (by decide)) ?_
  refine Eq.trans (ev_getI (pc := 36) k_92_36 rfl zo_16.1) ?_
  refine Eq.trans (ev_aload_n (pc := 39) (x := a1) k_92_39 rfl rfl (zIO_lt q1.1).2.2) ?_
  refine Eq.trans (ev_vi (pc := 40) (as := []) (rest := [.int ((zPI (zPI (zPI (zPR h 16 2 a1) 16 3 v3) 16 4 v4) 16 5 (((zPI (zPI (zPR h 16 2 a1) 16 3 v3) 16 4 v4).1 (a2 + 1) v3.toNatClampNeg) ||| ((zPI (zPI (zPR h 16 2 a1) 16 3 v3) 16 4 v4).1 (a2 + 1) v4.toNatClampNeg))).1 16 5), .ref 16]) k_92_40 rfl q1.1 rfl rfl (Nat.le_of_ble_eq_true rfl) (Nat.le_of_ble_eq_true rfl)) (z_cbi fun x1 h1 => ?_)
  refine Eq.trans (ev_iconst (pc := 43) (v := (-1)) k_92_43 rfl (by decide)) ?_
  refine Eq.trans (ev_ixor (pc := 44) k_92_44 rfl) ?_
  refine Eq.trans (ev_iand (pc := 45) k_92_45 rfl) ?_
  refine Eq.trans (ev_putI (pc := 46) k_92_46 rfl zo_16.1) ?_
  refine Eq.trans (ev_aload_n (pc := 49) (x := 16) k_92_49 rfl rfl (by decide)) ?_
  refine Eq.trans (ev_iconst (pc := 50) (v := (-1)) k_92_50 rfl (by decide)) ?_
  refine Eq.trans (ev_putI (pc := 51) k_92_51 rfl zo_16.1) ?_
  refine Eq.trans (ev_iconst (pc := 54) (v := 0) k_92_54 rfl (by decide)) ?_
  refine Eq.trans (ev_istore (pc := 55) (lv' := [some (.ref 16), some (.ref a1), some (.ref a2), some (.int v3), some (.int v4), some (.int 0)]) k_92_55 rfl (Nat.le_of_ble_eq_true rfl) rfl) ?_
  exact ev_mk kd_92_57 rfl

set_option maxRecDepth 100000 in
theorem E_Pl_find_57 (sc : zSc) (d : Nat) (h : zHp) (a2 : Nat) (q2 : zS4 zGL a2) (v3 : Int32) (v4 : Int32) (v5 : Int32) : zE sc (d + 1) 92 57 [some (.ref 16), none, some (.ref a2), some (.int v3), some (.int v4), some (.int v5)] [] zGL h = (if (6 : Int32) < v5 then some (none, zGL, h) else (if (h.1 16 8) = ((-1) : Int32) then (if zin v3 5 = true then (if zin v4 5 = true then (zBj (zRun sc d 62 [.ref a2, .int v3, .int v4] zGL (zPI h 16 7 v5)) zGL fun x1 h1 => (zBj (zRun sc d 62 [.ref a2, .int v4, .int v3] zGL h1) zGL fun x2 h2 => (zBi (zRun sc d 94 [.ref 16, .int 0, .int ((zPI h 16 7 v5).1 (a2 + 1) v3.toNatClampNeg), .int ((zPI h 16 7 v5).1 (a2 + 1) v4.toNatClampNeg), .long x1, .long x2] zGL h2) zGL fun x3 h3 => (if x3 = 0 then zE sc (d + 1) 92 57 [some (.ref 16), none, some (.ref a2), some (.int v3), some (.int v4), some (.int (v5 + 1))] [] zGL h3 else zE sc (d + 1) 92 57 [some (.ref 16), none, some (.ref a2), some (.int v3), some (.int v4), some (.int (v5 + 1))] [] zGL (zPI h3 16 8 v5))))) else none) else none) else some (none, zGL, h))) := by
  refine Eq.trans (ev_iload (pc := 57) k_92_57 rfl rfl) ?_
  refine Eq.trans (ev_bipush (pc := 59) (v := 6) k_92_59 rfl (by decide)) ?_
  refine Eq.trans (ev_icgt (pc := 61) k_92_61.1 rfl k_92_61.2) (z_ite ?_ ?_)
  · refine Eq.trans (ev_mk (pc := 125) (lv' := [none, none, none, none, none, none]) kd_92_125 rfl) ?_
    exact ev_ret_void k_92_125 rfl rt_92
  · refine Eq.trans (ev_aload_n (pc := 64) (x := 16) k_92_64 rfl rfl (by decide)) ?_
    refine Eq.trans (ev_getI (pc := 65) k_92_65 rfl zo_16.1) ?_
    refine Eq.trans (ev_iconst (pc := 68) (v := (-1)) k_92_68 rfl (by decide)) ?_
    refine Eq.trans (ev_icne (pc := 69) k_92_69.1 rfl k_92_69.2) (z_ite ?_ ?_)
    · refine Eq.trans (ev_aload_n (pc := 72) (x := 16) k_92_72 rfl rfl (by decide)) ?_
      refine Eq.trans (ev_iload (pc := 73) k_92_73 rfl rfl) ?_
      refine Eq.trans (ev_putI (pc := 75) k_92_75 rfl zo_16.1) ?_
      refine Eq.trans (ev_aload_n (pc := 78) (x := 16) k_92_78 rfl rfl (by decide)) ?_
      refine Eq.trans (ev_iconst (pc := 79) (v := 0) k_92_79 rfl (by decide)) ?_
      refine Eq.trans (ev_aload_n (pc := 80) (x := a2) k_92_80 rfl rfl (zIO_lt q2.1).2.2) ?_
      refine Eq.trans (ev_getR (pc := 81) (b := a2 + 1) k_92_81 rfl q2.1.1 q2.2.1) ?_
      refine Eq.trans (ev_iload_n (pc := 84) k_92_84 rfl rfl) ?_
      refine Eq.trans (ev_iald_c (pc := 85) k_92_85 rfl q2.2.2.2.2.2.2.1) (z_it1 ?_)
      refine Eq.trans (ev_aload_n (pc := 86) (x := a2) k_92_86 rfl rfl (zIO_lt q2.1).2.2) ?_
      refine Eq.trans (ev_getR (pc := 87) (b := a2 + 1) k_92_87 rfl q2.1.1 q2.2.1) ?_
      refine Eq.trans (ev_iload (pc := 90) k_92_90 rfl rfl) ?_
      refine Eq.trans (ev_iald_c (pc := 92) k_92_92 rfl q2.2.2.2.2.2.2.1) (z_it1 ?_)
      refine Eq.trans (ev_aload_n (pc := 93) (x := a2) k_92_93 rfl rfl (zIO_lt q2.1).2.2) ?_
      refine Eq.trans (ev_iload_n (pc := 94) k_92_94 rfl rfl) ?_
      refine Eq.trans (ev_iload (pc := 95) k_92_95 rfl rfl) ?_
      refine Eq.trans (ev_vj (pc := 97) (as := [.int v3, .int v4]) (rest := [.int ((zPI h 16 7 v5).1 (a2 + 1) v4.toNatClampNeg), .int ((zPI h 16 7 v5).1 (a2 + 1) v3.toNatClampNeg), .int 0, .ref 16]) k_92_97 rfl q2.1 rfl rfl (Nat.le_of_ble_eq_true rfl) (Nat.le_of_ble_eq_true rfl)) (z_cbj fun x1 h1 => ?_)
      refine Eq.trans (ev_aload_n (pc := 100) (x := a2) k_92_100 rfl rfl (zIO_lt q2.1).2.2) ?_
      refine Eq.trans (ev_iload (pc := 101) k_92_101 rfl rfl) ?_
      refine Eq.trans (ev_iload_n (pc := 103) k_92_103 rfl rfl) ?_
      refine Eq.trans (ev_vj (pc := 104) (as := [.int v4, .int v3]) (rest := [.long x1, .int ((zPI h 16 7 v5).1 (a2 + 1) v4.toNatClampNeg), .int ((zPI h 16 7 v5).1 (a2 + 1) v3.toNatClampNeg), .int 0, .ref 16]) k_92_104 rfl q2.1 rfl rfl (Nat.le_of_ble_eq_true rfl) (Nat.le_of_ble_eq_true rfl)) (z_cbj fun x2 h2 => ?_)
      refine Eq.trans (ev_vi (pc := 107) (as := [.int 0, .int ((zPI h 16 7 v5).1 (a2 + 1) v3.toNatClampNeg), .int ((zPI h 16 7 v5).1 (a2 + 1) v4.toNatClampNeg), .long x1, .long x2]) (rest := []) k_92_107 rfl zo_16 rfl rfl (Nat.le_of_ble_eq_true rfl) (Nat.le_of_ble_eq_true rfl)) (z_cbi fun x3 h3 => ?_)
      refine Eq.trans (ev_ifeq (pc := 110) k_92_110.1 rfl k_92_110.2) (z_ite ?_ ?_)
      · refine Eq.trans (ev_iinc (pc := 119) (v := 1) (lv' := [some (.ref 16), none, some (.ref a2), some (.int v3), some (.int v4), some (.int (v5 + 1))]) k_92_119 rfl rfl (by decide) rfl) ?_
        refine Eq.trans (ev_goto (pc := 122) k_92_122.1 rfl k_92_122.2) ?_
        exact ev_mk kd_92_57 rfl
      · refine Eq.trans (ev_aload_n (pc := 113) (x := 16) k_92_113 rfl rfl (by decide)) ?_
        refine Eq.trans (ev_iload (pc := 114) k_92_114 rfl rfl) ?_
        refine Eq.trans (ev_putI (pc := 116) k_92_116 rfl zo_16.1) ?_
        refine Eq.trans (ev_iinc (pc := 119) (v := 1) (lv' := [some (.ref 16), none, some (.ref a2), some (.int v3), some (.int v4), some (.int (v5 + 1))]) k_92_119 rfl rfl (by decide) rfl) ?_
        refine Eq.trans (ev_goto (pc := 122) k_92_122.1 rfl k_92_122.2) ?_
        exact ev_mk kd_92_57 rfl
    · refine Eq.trans (ev_mk (pc := 125) (lv' := [none, none, none, none, none, none]) kd_92_125 rfl) ?_
      exact ev_ret_void k_92_125 rfl rt_92

set_option maxRecDepth 100000 in
theorem E_Pl_search (sc : zSc) (d : Nat) (h : zHp) (v1 : Int32) (v2 : Int32) (v3 : Int32) (w4 : Int64) (w6 : Int64) : zRun sc (d + 1) 94 [.ref 16, .int v1, .int v2, .int v3, .long w4, .long w6] zGL h = (if v1 < (h.1 16 7) then (if v1 < (6 : Int32) then (zBi (zRun sc d 95 [.ref 16, .int v2, .int v3] zGL h) zGL fun x1 h1 => (if (h1.1 16 7) < (v1 + x1) then some (some (.int 0), zGL, h1) else (zBi (zRun sc d 97 [.ref 16, .int v1, .int 1, .int v2, .int v3, .long w4, .long w6] zGL h1) zGL fun x2 h2 => (if x2 = 0 then (zBi (zRun sc d 97 [.ref 16, .int v1, .int 0, .int v3, .int v2, .long w6, .long w4] zGL h2) zGL fun x3 h3 => (if x3 = 0 then some (some (.int 0), zGL, h3) else some (some (.int 1), zGL, h3))) else some (some (.int 1), zGL, h2))))) else zE sc (d + 1) 94 14 [some (.ref 16), none, some (.int v2), some (.int v3), none, none, none, none] [] zGL h) else zE sc (d + 1) 94 14 [some (.ref 16), none, some (.int v2), some (.int v3), none, none, none, none] [] zGL h) := by
  have he : zEnt 94 [.ref 16, .int v1, .int v2, .int v3, .long w4, .long w6] = [some (.ref 16), some (.int v1), some (.int v2), some (.int v3), some (.long w4), none, some (.long w6), none] := by unfold zEnt; rw [ml_94]; rfl
  unfold zRun
  rw [he]
  refine Eq.trans (ev_iload_n (pc := 0) k_94_0 rfl rfl) ?_
  refine Eq.trans (ev_aload_n (pc := 1) (x := 16) k_94_1 rfl rfl (by decide)) ?_
  refine Eq.trans (ev_getI (pc := 2) k_94_2 rfl zo_16.1) ?_
  refine Eq.trans (ev_icge (pc := 5) k_94_5.1 rfl k_94_5.2) (z_ite ?_ ?_)
  · refine Eq.trans (ev_iload_n (pc := 8) k_94_8 rfl rfl) ?_
    refine Eq.trans (ev_bipush (pc := 9) (v := 6) k_94_9 rfl (by decide)) ?_
    refine Eq.trans (ev_iclt (pc := 11) k_94_11.1 rfl k_94_11.2) (z_ite ?_ ?_)
    · refine Eq.trans (ev_iload_n (pc := 35) k_94_35 rfl rfl) ?_
      refine Eq.trans (ev_aload_n (pc := 36) (x := 16) k_94_36 rfl rfl (by decide)) ?_
      refine Eq.trans (ev_iload_n (pc := 37) k_94_37 rfl rfl) ?_
      refine Eq.trans (ev_iload_n (pc := 38) k_94_38 rfl rfl) ?_
      refine Eq.trans (ev_vi (pc := 39) (as := [.int v2, .int v3]) (rest := [.int v1]) k_94_39 rfl zo_16 rfl rfl (Nat.le_of_ble_eq_true rfl) (Nat.le_of_ble_eq_true rfl)) (z_cbi fun x1 h1 => ?_)
      refine Eq.trans (ev_iadd (pc := 42) k_94_42 rfl) ?_
      refine Eq.trans (ev_aload_n (pc := 43) (x := 16) k_94_43 rfl rfl (by decide)) ?_
      refine Eq.trans (ev_getI (pc := 44) k_94_44 rfl zo_16.1) ?_
      refine Eq.trans (ev_icle (pc := 47) k_94_47.1 rfl k_94_47.2) (z_ite ?_ ?_)
      · refine Eq.trans (ev_iconst (pc := 50) (v := 0) k_94_50 rfl (by decide)) ?_
        exact ev_ret_b1 k_94_51 rfl rt_94 (by decide)
      · refine Eq.trans (ev_aload_n (pc := 52) (x := 16) k_94_52 rfl rfl (by decide)) ?_
        refine Eq.trans (ev_iload_n (pc := 53) k_94_53 rfl rfl) ?_
        refine Eq.trans (ev_iconst (pc := 54) (v := 1) k_94_54 rfl (by decide)) ?_
        refine Eq.trans (ev_iload_n (pc := 55) k_94_55 rfl rfl) ?_
        refine Eq.trans (ev_iload_n (pc := 56) k_94_56 rfl rfl) ?_
        refine Eq.trans (ev_lload (pc := 57) k_94_57 rfl rfl) ?_
        refine Eq.trans (ev_lload (pc := 59) k_94_59 rfl rfl) ?_
        refine Eq.trans (ev_vi (pc := 61) (as := [.int v1, .int 1, .int v2, .int v3, .long w4, .long w6]) (rest := []) k_94_61 rfl zo_16 rfl rfl (Nat.le_of_ble_eq_true rfl) (Nat.le_of_ble_eq_true rfl)) (z_cbi fun x2 h2 => ?_)
        refine Eq.trans (ev_ifne (pc := 64) k_94_64.1 rfl k_94_64.2) (z_ite ?_ ?_)
        · refine Eq.trans (ev_aload_n (pc := 67) (x := 16) k_94_67 rfl rfl (by decide)) ?_
          refine Eq.trans (ev_iload_n (pc := 68) k_94_68 rfl rfl) ?_
          refine Eq.trans (ev_iconst (pc := 69) (v := 0) k_94_69 rfl (by decide)) ?_
          refine Eq.trans (ev_iload_n (pc := 70) k_94_70 rfl rfl) ?_
          refine Eq.trans (ev_iload_n (pc := 71) k_94_71 rfl rfl) ?_
          refine Eq.trans (ev_lload (pc := 72) k_94_72 rfl rfl) ?_
          refine Eq.trans (ev_lload (pc := 74) k_94_74 rfl rfl) ?_
          refine Eq.trans (ev_vi (pc := 76) (as := [.int v1, .int 0, .int v3, .int v2, .long w6, .long w4]) (rest := []) k_94_76 rfl zo_16 rfl rfl (Nat.le_of_ble_eq_true rfl) (Nat.le_of_ble_eq_true rfl)) (z_cbi fun x3 h3 => ?_)
          refine Eq.trans (ev_ifeq (pc := 79) k_94_79.1 rfl k_94_79.2) (z_ite ?_ ?_)
          · refine Eq.trans (ev_iconst (pc := 86) (v := 0) k_94_86 rfl (by decide)) ?_
            refine Eq.trans (ev_mk (pc := 87) (lv' := [none, none, none, none, none, none, none, none]) kd_94_87 rfl) ?_
            exact ev_ret_b1 k_94_87 rfl rt_94 (by decide)
          · refine Eq.trans (ev_mk (pc := 82) (lv' := [none, none, none, none, none, none, none, none]) kd_94_82 rfl) ?_
            refine Eq.trans (ev_iconst (pc := 82) (v := 1) k_94_82 rfl (by decide)) ?_
            refine Eq.trans (ev_goto (pc := 83) k_94_83.1 rfl k_94_83.2) ?_
            exact ev_ret_b1 k_94_87 rfl rt_94 (by decide)
        · refine Eq.trans (ev_mk (pc := 82) (lv' := [none, none, none, none, none, none, none, none]) kd_94_82 rfl) ?_
          refine Eq.trans (ev_iconst (pc := 82) (v := 1) k_94_82 rfl (by decide)) ?_
          refine Eq.trans (ev_goto (pc := 83) k_94_83.1 rfl k_94_83.2) ?_
          exact ev_ret_b1 k_94_87 rfl rt_94 (by decide)
    · exact ev_mk kd_94_14 rfl
  · exact ev_mk kd_94_14 rfl

set_option maxRecDepth 100000 in
theorem E_Pl_search_14 (sc : zSc) (d : Nat) (h : zHp) (v2 : Int32) (v3 : Int32) : zE sc (d + 1) 94 14 [some (.ref 16), none, some (.int v2), some (.int v3), none, none, none, none] [] zGL h = (if ((v2 &&& v3) &&& (h.1 16 5)) = (h.1 16 5) then some (some (.int 1), zGL, h) else some (some (.int 0), zGL, h)) := by
  refine Eq.trans (ev_iload_n (pc := 14) k_94_14 rfl rfl) ?_
  refine Eq.trans (ev_iload_n (pc := 15) k_94_15 rfl rfl) ?_
  refine Eq.trans (ev_iand (pc := 16) k_94_16 rfl) ?_
  refine Eq.trans (ev_aload_n (pc := 17) (x := 16) k_94_17 rfl rfl (by decide)) ?_
  refine Eq.trans (ev_getI (pc := 18) k_94_18 rfl zo_16.1) ?_
  refine Eq.trans (ev_iand (pc := 21) k_94_21 rfl) ?_
  refine Eq.trans (ev_aload_n (pc := 22) (x := 16) k_94_22 rfl rfl (by decide)) ?_
  refine Eq.trans (ev_getI (pc := 23) k_94_23 rfl zo_16.1) ?_
  refine Eq.trans (ev_icne (pc := 26) k_94_26.1 rfl k_94_26.2) (z_ite ?_ ?_)
  · refine Eq.trans (ev_iconst (pc := 29) (v := 1) k_94_29 rfl (by decide)) ?_
    refine Eq.trans (ev_goto (pc := 30) k_94_30.1 rfl k_94_30.2) ?_
    refine Eq.trans (ev_mk (pc := 34) (lv' := [none, none, none, none, none, none, none, none]) kd_94_34 rfl) ?_
    exact ev_ret_b1 k_94_34 rfl rt_94 (by decide)
  · refine Eq.trans (ev_iconst (pc := 33) (v := 0) k_94_33 rfl (by decide)) ?_
    refine Eq.trans (ev_mk (pc := 34) (lv' := [none, none, none, none, none, none, none, none]) kd_94_34 rfl) ?_
    exact ev_ret_b1 k_94_34 rfl rt_94 (by decide)

set_option maxRecDepth 100000 in
theorem E_Pl_fewestToCome (sc : zSc) (d : Nat) (h : zHp) (v1 : Int32) (v2 : Int32) : zRun sc (d + 1) 95 [.ref 16, .int v1, .int v2] zGL h = (zBi (zRun sc d 96 [.int ((h.1 16 6) &&& (v1 ^^^ ((-1) : Int32)))] zGL h) zGL fun x1 h1 => (zBi (zRun sc d 96 [.int ((h1.1 16 6) &&& (v2 ^^^ ((-1) : Int32)))] zGL h1) zGL fun x2 h2 => some (some (.int (x1 + x2)), zGL, h2))) := by
  have he : zEnt 95 [.ref 16, .int v1, .int v2] = [some (.ref 16), some (.int v1), some (.int v2)] := by unfold zEnt; rw [ml_95]; rfl
  unfold zRun
  rw [he]
  refine Eq.trans (ev_aload_n (pc := 0) (x := 16) k_95_0 rfl rfl (by decide)) ?_
  refine Eq.trans (ev_getI (pc := 1) k_95_1 rfl zo_16.1) ?_
  refine Eq.trans (ev_iload_n (pc := 4) k_95_4 rfl rfl) ?_
  refine Eq.trans (ev_iconst (pc := 5) (v := (-1)) k_95_5 rfl (by decide)) ?_
  refine Eq.trans (ev_ixor (pc := 6) k_95_6 rfl) ?_
  refine Eq.trans (ev_iand (pc := 7) k_95_7 rfl) ?_
  refine Eq.trans (ev_si (pc := 8) (as := [.int ((h.1 16 6) &&& (v1 ^^^ ((-1) : Int32)))]) (rest := []) k_95_8 rfl rfl rfl (Nat.le_of_ble_eq_true rfl) (Nat.le_of_ble_eq_true rfl)) (z_cbi fun x1 h1 => ?_)
  refine Eq.trans (ev_aload_n (pc := 11) (x := 16) k_95_11 rfl rfl (by decide)) ?_
  refine Eq.trans (ev_getI (pc := 12) k_95_12 rfl zo_16.1) ?_
  refine Eq.trans (ev_iload_n (pc := 15) k_95_15 rfl rfl) ?_
  refine Eq.trans (ev_iconst (pc := 16) (v := (-1)) k_95_16 rfl (by decide)) ?_
  refine Eq.trans (ev_ixor (pc := 17) k_95_17 rfl) ?_
  refine Eq.trans (ev_iand (pc := 18) k_95_18 rfl) ?_
  refine Eq.trans (ev_si (pc := 19) (as := [.int ((h1.1 16 6) &&& (v2 ^^^ ((-1) : Int32)))]) (rest := [.int x1]) k_95_19 rfl rfl rfl (Nat.le_of_ble_eq_true rfl) (Nat.le_of_ble_eq_true rfl)) (z_cbi fun x2 h2 => ?_)
  refine Eq.trans (ev_iadd (pc := 22) k_95_22 rfl) ?_
  exact ev_ret_int k_95_23 rfl rt_95

set_option maxRecDepth 100000 in
theorem E_Pl_searchFrom (sc : zSc) (d : Nat) (h : zHp) (v1 : Int32) (v2 : Int32) (v3 : Int32) (v4 : Int32) (w5 : Int64) (w7 : Int64) : zRun sc (d + 1) 97 [.ref 16, .int v1, .int v2, .int v3, .int v4, .long w5, .long w7] zGL h = (zOT (h.2.2 16 2) fun t1 ht1 => (zBi (zRun sc d 57 [.long w5, .int (h.1 t1 0)] zGL h) zGL fun x2 h2 => zE sc (d + 1) 97 19 [some (.ref 16), some (.int v1), some (.int v2), some (.int v3), some (.int v4), some (.long w5), none, some (.long w7), none, some (.int (v3 &&& x2)), some (.int 0), none, none, none, none, none, none] [] zGL h2)) := by
  have he : zEnt 97 [.ref 16, .int v1, .int v2, .int v3, .int v4, .long w5, .long w7] = [some (.ref 16), some (.int v1), some (.int v2), some (.int v3), some (.int v4), some (.long w5), none, some (.long w7), none, none, none, none, none, none, none, none, none] := by unfold zEnt; rw [ml_97]; rfl
  unfold zRun
  rw [he]
  refine Eq.trans (ev_iload_n (pc := 0) k_97_0 rfl rfl) ?_
  refine Eq.trans (ev_lload (pc := 1) k_97_1 rfl rfl) ?_
  refine Eq.trans (ev_aload_n (pc := 3) (x := 16) k_97_3 rfl rfl (by decide)) ?_
  refine Eq.trans (ev_getT (pc := 4) k_97_4 rfl zo_16.1) (z_cot fun t1 ht1 => ?_)
  refine Eq.trans (ev_getI (pc := 7) k_97_7 rfl (zTw_6 ht1).1.1) ?_
  refine Eq.trans (ev_si (pc := 10) (as := [.long w5, .int (h.1 t1 0)]) (rest := [.int v3]) k_97_10 rfl rfl rfl (Nat.le_of_ble_eq_true rfl) (Nat.le_of_ble_eq_true rfl)) (z_cbi fun x2 h2 => ?_)
  refine Eq.trans (ev_iand (pc := 13) k_97_13 rfl) ?_
  refine Eq.trans (ev_istore (pc := 14) (lv' := [some (.ref 16), some (.int v1), some (.int v2), some (.int v3), some (.int v4), some (.long w5), none, some (.long w7), none, some (.int (v3 &&& x2)), none, none, none, none, none, none, none]) k_97_14 rfl (Nat.le_of_ble_eq_true rfl) rfl) ?_
  refine Eq.trans (ev_iconst (pc := 16) (v := 0) k_97_16 rfl (by decide)) ?_
  refine Eq.trans (ev_istore (pc := 17) (lv' := [some (.ref 16), some (.int v1), some (.int v2), some (.int v3), some (.int v4), some (.long w5), none, some (.long w7), none, some (.int (v3 &&& x2)), some (.int 0), none, none, none, none, none, none]) k_97_17 rfl (Nat.le_of_ble_eq_true rfl) rfl) ?_
  exact ev_mk kd_97_19 rfl

set_option maxRecDepth 100000 in
theorem E_Pl_searchFrom_19 (sc : zSc) (d : Nat) (h : zHp) (v1 : Int32) (v2 : Int32) (v3 : Int32) (v4 : Int32) (w5 : Int64) (w7 : Int64) (v9 : Int32) (v10 : Int32) : zE sc (d + 1) 97 19 [some (.ref 16), some (.int v1), some (.int v2), some (.int v3), some (.int v4), some (.long w5), none, some (.long w7), none, some (.int v9), some (.int v10), none, none, none, none, none, none] [] zGL h = (zOT (h.2.2 16 2) fun t1 ht1 => (if v10 < (h.1 t1 0) then (zBi (zRun sc d 11 [.int v9, .int v10] zGL h) zGL fun x2 h2 => (if x2 = 0 then zE sc (d + 1) 97 19 [some (.ref 16), some (.int v1), some (.int v2), some (.int v3), some (.int v4), some (.long w5), none, some (.long w7), none, some (.int v9), some (.int (v10 + 1)), none, none, none, none, none, none] [] zGL h2 else (if v2 = 0 then zE sc (d + 1) 97 64 [some (.ref 16), some (.int v1), some (.int v2), some (.int v3), some (.int v4), some (.long w5), none, some (.long w7), none, some (.int v9), some (.int v10), none, none, none, none, none, none] [.int (h2.1 16 4), .int v1, .ref 17] zGL h2 else zE sc (d + 1) 97 64 [some (.ref 16), some (.int v1), some (.int v2), some (.int v3), some (.int v4), some (.long w5), none, some (.long w7), none, some (.int v9), some (.int v10), none, none, none, none, none, none] [.int (h2.1 16 3), .int v1, .ref 17] zGL h2))) else some (some (.int 0), zGL, h))) := by
  refine Eq.trans (ev_iload (pc := 19) k_97_19 rfl rfl) ?_
  refine Eq.trans (ev_aload_n (pc := 21) (x := 16) k_97_21 rfl rfl (by decide)) ?_
  refine Eq.trans (ev_getT (pc := 22) k_97_22 rfl zo_16.1) (z_cot fun t1 ht1 => ?_)
  refine Eq.trans (ev_getI (pc := 25) k_97_25 rfl (zTw_6 ht1).1.1) ?_
  refine Eq.trans (ev_icge (pc := 28) k_97_28.1 rfl k_97_28.2) (z_ite ?_ ?_)
  · refine Eq.trans (ev_iload (pc := 31) k_97_31 rfl rfl) ?_
    refine Eq.trans (ev_iload (pc := 33) k_97_33 rfl rfl) ?_
    refine Eq.trans (ev_si (pc := 35) (as := [.int v9, .int v10]) (rest := []) k_97_35 rfl rfl rfl (Nat.le_of_ble_eq_true rfl) (Nat.le_of_ble_eq_true rfl)) (z_cbi fun x2 h2 => ?_)
    refine Eq.trans (ev_ifne (pc := 38) k_97_38.1 rfl k_97_38.2) (z_ite ?_ ?_)
    · refine Eq.trans (ev_goto (pc := 41) k_97_41.1 rfl k_97_41.2) ?_
      refine Eq.trans (ev_iinc (pc := 162) (v := 1) (lv' := [some (.ref 16), some (.int v1), some (.int v2), some (.int v3), some (.int v4), some (.long w5), none, some (.long w7), none, some (.int v9), some (.int (v10 + 1)), none, none, none, none, none, none]) k_97_162 rfl rfl (by decide) rfl) ?_
      refine Eq.trans (ev_goto (pc := 165) k_97_165.1 rfl k_97_165.2) ?_
      exact ev_mk kd_97_19 rfl
    · refine Eq.trans (ev_aload_n (pc := 44) (x := 16) k_97_44 rfl rfl (by decide)) ?_
      refine Eq.trans (ev_getR (pc := 45) (b := 17) k_97_45 rfl zo_16.1 zg_16_0) ?_
      refine Eq.trans (ev_iload_n (pc := 48) k_97_48 rfl rfl) ?_
      refine Eq.trans (ev_iload_n (pc := 49) k_97_49 rfl rfl) ?_
      refine Eq.trans (ev_ifeq (pc := 50) k_97_50.1 rfl k_97_50.2) (z_ite ?_ ?_)
      · refine Eq.trans (ev_aload_n (pc := 60) (x := 16) k_97_60 rfl rfl (by decide)) ?_
        refine Eq.trans (ev_getI (pc := 61) k_97_61 rfl zo_16.1) ?_
        exact ev_mk kd_97_64 rfl
      · refine Eq.trans (ev_aload_n (pc := 53) (x := 16) k_97_53 rfl rfl (by decide)) ?_
        refine Eq.trans (ev_getI (pc := 54) k_97_54 rfl zo_16.1) ?_
        refine Eq.trans (ev_goto (pc := 57) k_97_57.1 rfl k_97_57.2) ?_
        exact ev_mk kd_97_64 rfl
  · refine Eq.trans (ev_iconst (pc := 168) (v := 0) k_97_168 rfl (by decide)) ?_
    exact ev_ret_b1 k_97_169 rfl rt_97 (by decide)

set_option maxRecDepth 100000 in
theorem E_Pl_searchFrom_64 (sc : zSc) (d : Nat) (h : zHp) (v1 : Int32) (v2 : Int32) (v3 : Int32) (v4 : Int32) (w5 : Int64) (w7 : Int64) (v9 : Int32) (v10 : Int32) (s0 : Int32) (s1 : Int32) : zE sc (d + 1) 97 64 [some (.ref 16), some (.int v1), some (.int v2), some (.int v3), some (.int v4), some (.long w5), none, some (.long w7), none, some (.int v9), some (.int v10), none, none, none, none, none, none] [.int s0, .int s1, .ref 17] zGL h = (if zin s1 6 = true then (if zin v1 6 = true then (zOT ((zPI (zPI h 17 s1.toNatClampNeg s0) 18 v1.toNatClampNeg v10).2.2 16 2) fun t1 ht1 => (zBi (zRun sc d 18 [.ref t1, .int (v4 ||| ((1 : Int32) <<< (v10 &&& 31)))] zGL (zPI (zPI h 17 s1.toNatClampNeg s0) 18 v1.toNatClampNeg v10)) zGL fun x2 h2 => (zOT (h2.2.2 16 2) fun t3 ht3 => (zBi (zRun sc d 11 [.int v4, .int v10] zGL h2) zGL fun x4 h4 => (zBj (zRun sc d 79 [.ref t3, .long w5, .int v10, .int x4] zGL h4) zGL fun x5 h5 => (zBj (zRun sc d 12 [.long w7, .int v10] zGL h5) zGL fun x6 h6 => (if v2 = 0 then (zBi (zRun sc d 94 [.ref 16, .int (v1 + (1 : Int32)), .int x2, .int v3, .long x6, .long x5] zGL h6) zGL fun x7 h7 => zE sc (d + 1) 97 153 [some (.ref 16), some (.int v1), some (.int v2), some (.int v3), some (.int v4), some (.long w5), none, some (.long w7), none, some (.int v9), some (.int v10), none, none, none, none, none, none] [.int x7] zGL h7) else (zBi (zRun sc d 94 [.ref 16, .int (v1 + (1 : Int32)), .int v3, .int x2, .long x5, .long x6] zGL h6) zGL fun x8 h8 => zE sc (d + 1) 97 153 [some (.ref 16), some (.int v1), some (.int v2), some (.int v3), some (.int v4), some (.long w5), none, some (.long w7), none, some (.int v9), some (.int v10), none, none, none, none, none, none] [.int x8] zGL h8)))))))) else none) else none) := by
  refine Eq.trans (ev_iast_c (pc := 64) k_97_64 rfl za_17) (z_it1 ?_)
  refine Eq.trans (ev_aload_n (pc := 65) (x := 16) k_97_65 rfl rfl (by decide)) ?_
  refine Eq.trans (ev_getR (pc := 66) (b := 18) k_97_66 rfl zo_16.1 zg_16_1) ?_
  refine Eq.trans (ev_iload_n (pc := 69) k_97_69 rfl rfl) ?_
  refine Eq.trans (ev_iload (pc := 70) k_97_70 rfl rfl) ?_
  refine Eq.trans (ev_iast_c (pc := 72) k_97_72 rfl za_18) (z_it1 ?_)
  refine Eq.trans (ev_aload_n (pc := 73) (x := 16) k_97_73 rfl rfl (by decide)) ?_
  refine Eq.trans (ev_getT (pc := 74) k_97_74 rfl zo_16.1) (z_cot fun t1 ht1 => ?_)
  refine Eq.trans (ev_iload (pc := 77) k_97_77 rfl rfl) ?_
  refine Eq.trans (ev_iconst (pc := 79) (v := 1) k_97_79 rfl (by decide)) ?_
  refine Eq.trans (ev_iload (pc := 80) k_97_80 rfl rfl) ?_
  refine Eq.trans (ev_ishl (pc := 82) k_97_82 rfl) ?_
  refine Eq.trans (ev_ior (pc := 83) k_97_83 rfl) ?_
  refine Eq.trans (ev_vi (pc := 84) (as := [.int (v4 ||| ((1 : Int32) <<< (v10 &&& 31)))]) (rest := []) k_97_84 rfl (zTw_6 ht1).1 rfl rfl (Nat.le_of_ble_eq_true rfl) (Nat.le_of_ble_eq_true rfl)) (z_cbi fun x2 h2 => ?_)
  refine Eq.trans (ev_istore (pc := 87) (lv' := [some (.ref 16), some (.int v1), some (.int v2), some (.int v3), some (.int v4), some (.long w5), none, some (.long w7), none, some (.int v9), some (.int v10), some (.int x2), none, none, none, none, none]) k_97_87 rfl (Nat.le_of_ble_eq_true rfl) rfl) ?_
  refine Eq.trans (ev_aload_n (pc := 89) (x := 16) k_97_89 rfl rfl (by decide)) ?_
  refine Eq.trans (ev_getT (pc := 90) k_97_90 rfl zo_16.1) (z_cot fun t3 ht3 => ?_)
  refine Eq.trans (ev_lload (pc := 93) k_97_93 rfl rfl) ?_
  refine Eq.trans (ev_iload (pc := 95) k_97_95 rfl rfl) ?_
  refine Eq.trans (ev_iload (pc := 97) k_97_97 rfl rfl) ?_
  refine Eq.trans (ev_iload (pc := 99) k_97_99 rfl rfl) ?_
  refine Eq.trans (ev_si (pc := 101) (as := [.int v4, .int v10]) (rest := [.int v10, .long w5, .ref t3]) k_97_101 rfl rfl rfl (Nat.le_of_ble_eq_true rfl) (Nat.le_of_ble_eq_true rfl)) (z_cbi fun x4 h4 => ?_)
  refine Eq.trans (ev_vj (pc := 104) (as := [.long w5, .int v10, .int x4]) (rest := []) k_97_104 rfl (zTw_6 ht3).1 rfl rfl (Nat.le_of_ble_eq_true rfl) (Nat.le_of_ble_eq_true rfl)) (z_cbj fun x5 h5 => ?_)
  refine Eq.trans (ev_lstore (pc := 107) (lv' := [some (.ref 16), some (.int v1), some (.int v2), some (.int v3), some (.int v4), some (.long w5), none, some (.long w7), none, some (.int v9), some (.int v10), some (.int x2), some (.long x5), none, none, none, none]) k_97_107 rfl (Nat.le_of_ble_eq_true rfl) rfl) ?_
  refine Eq.trans (ev_lload (pc := 109) k_97_109 rfl rfl) ?_
  refine Eq.trans (ev_iload (pc := 111) k_97_111 rfl rfl) ?_
  refine Eq.trans (ev_sj (pc := 113) (as := [.long w7, .int v10]) (rest := []) k_97_113 rfl rfl rfl (Nat.le_of_ble_eq_true rfl) (Nat.le_of_ble_eq_true rfl)) (z_cbj fun x6 h6 => ?_)
  refine Eq.trans (ev_lstore (pc := 116) (lv' := [some (.ref 16), some (.int v1), some (.int v2), some (.int v3), some (.int v4), some (.long w5), none, some (.long w7), none, some (.int v9), some (.int v10), some (.int x2), some (.long x5), none, some (.long x6), none, none]) k_97_116 rfl (Nat.le_of_ble_eq_true rfl) rfl) ?_
  refine Eq.trans (ev_iload_n (pc := 118) k_97_118 rfl rfl) ?_
  refine Eq.trans (ev_ifeq (pc := 119) k_97_119.1 rfl k_97_119.2) (z_ite ?_ ?_)
  · refine Eq.trans (ev_aload_n (pc := 139) (x := 16) k_97_139 rfl rfl (by decide)) ?_
    refine Eq.trans (ev_iload_n (pc := 140) k_97_140 rfl rfl) ?_
    refine Eq.trans (ev_iconst (pc := 141) (v := 1) k_97_141 rfl (by decide)) ?_
    refine Eq.trans (ev_iadd (pc := 142) k_97_142 rfl) ?_
    refine Eq.trans (ev_iload (pc := 143) k_97_143 rfl rfl) ?_
    refine Eq.trans (ev_iload_n (pc := 145) k_97_145 rfl rfl) ?_
    refine Eq.trans (ev_lload (pc := 146) k_97_146 rfl rfl) ?_
    refine Eq.trans (ev_lload (pc := 148) k_97_148 rfl rfl) ?_
    refine Eq.trans (ev_vi (pc := 150) (as := [.int (v1 + (1 : Int32)), .int x2, .int v3, .long x6, .long x5]) (rest := []) k_97_150 rfl zo_16 rfl rfl (Nat.le_of_ble_eq_true rfl) (Nat.le_of_ble_eq_true rfl)) (z_cbi fun x7 h7 => ?_)
    exact ev_mk kd_97_153 rfl
  · refine Eq.trans (ev_aload_n (pc := 122) (x := 16) k_97_122 rfl rfl (by decide)) ?_
    refine Eq.trans (ev_iload_n (pc := 123) k_97_123 rfl rfl) ?_
    refine Eq.trans (ev_iconst (pc := 124) (v := 1) k_97_124 rfl (by decide)) ?_
    refine Eq.trans (ev_iadd (pc := 125) k_97_125 rfl) ?_
    refine Eq.trans (ev_iload_n (pc := 126) k_97_126 rfl rfl) ?_
    refine Eq.trans (ev_iload (pc := 127) k_97_127 rfl rfl) ?_
    refine Eq.trans (ev_lload (pc := 129) k_97_129 rfl rfl) ?_
    refine Eq.trans (ev_lload (pc := 131) k_97_131 rfl rfl) ?_
    refine Eq.trans (ev_vi (pc := 133) (as := [.int (v1 + (1 : Int32)), .int v3, .int x2, .long x5, .long x6]) (rest := []) k_97_133 rfl zo_16 rfl rfl (Nat.le_of_ble_eq_true rfl) (Nat.le_of_ble_eq_true rfl)) (z_cbi fun x8 h8 => ?_)
    refine Eq.trans (ev_goto (pc := 136) k_97_136.1 rfl k_97_136.2) ?_
    exact ev_mk kd_97_153 rfl

set_option maxRecDepth 100000 in
theorem E_Pl_searchFrom_153 (sc : zSc) (d : Nat) (h : zHp) (v1 : Int32) (v2 : Int32) (v3 : Int32) (v4 : Int32) (w5 : Int64) (w7 : Int64) (v9 : Int32) (v10 : Int32) (s0 : Int32) : zE sc (d + 1) 97 153 [some (.ref 16), some (.int v1), some (.int v2), some (.int v3), some (.int v4), some (.long w5), none, some (.long w7), none, some (.int v9), some (.int v10), none, none, none, none, none, none] [.int s0] zGL h = (if s0 = 0 then zE sc (d + 1) 97 19 [some (.ref 16), some (.int v1), some (.int v2), some (.int v3), some (.int v4), some (.long w5), none, some (.long w7), none, some (.int v9), some (.int (v10 + 1)), none, none, none, none, none, none] [] zGL h else some (some (.int 1), zGL, h)) := by
  refine Eq.trans (ev_istore (pc := 153) (lv' := [some (.ref 16), some (.int v1), some (.int v2), some (.int v3), some (.int v4), some (.long w5), none, some (.long w7), none, some (.int v9), some (.int v10), none, none, none, none, none, some (.int s0)]) k_97_153 rfl (Nat.le_of_ble_eq_true rfl) rfl) ?_
  refine Eq.trans (ev_iload (pc := 155) k_97_155 rfl rfl) ?_
  refine Eq.trans (ev_ifeq (pc := 157) k_97_157.1 rfl k_97_157.2) (z_ite ?_ ?_)
  · refine Eq.trans (ev_mk (pc := 162) (lv' := [some (.ref 16), some (.int v1), some (.int v2), some (.int v3), some (.int v4), some (.long w5), none, some (.long w7), none, some (.int v9), some (.int v10), none, none, none, none, none, none]) kd_97_162 rfl) ?_
    refine Eq.trans (ev_iinc (pc := 162) (v := 1) (lv' := [some (.ref 16), some (.int v1), some (.int v2), some (.int v3), some (.int v4), some (.long w5), none, some (.long w7), none, some (.int v9), some (.int (v10 + 1)), none, none, none, none, none, none]) k_97_162 rfl rfl (by decide) rfl) ?_
    refine Eq.trans (ev_goto (pc := 165) k_97_165.1 rfl k_97_165.2) ?_
    exact ev_mk kd_97_19 rfl
  · refine Eq.trans (ev_iconst (pc := 160) (v := 1) k_97_160 rfl (by decide)) ?_
    exact ev_ret_b1 k_97_161 rfl rt_97 (by decide)

set_option maxRecDepth 100000 in
theorem E_Pl_part (sc : zSc) (d : Nat) (h : zHp) (v1 : Int32) : zRun sc d 98 [.ref 16, .int v1] zGL h = (if v1 < 0 then some (some (.int (-1)), zGL, h) else (if (v1 / (2 : Int32)) < (h.1 16 8) then (if (v1 / (2 : Int32)) < (6 : Int32) then (if (v1 - v1 / (2 : Int32) * (2 : Int32)) = 0 then (if zin (v1 / (2 : Int32)) 6 = true then some (some (.int (h.1 17 (v1 / (2 : Int32)).toNatClampNeg)), zGL, h) else none) else (if zin (v1 / (2 : Int32)) 6 = true then some (some (.int (h.1 18 (v1 / (2 : Int32)).toNatClampNeg)), zGL, h) else none)) else some (some (.int (-1)), zGL, h)) else some (some (.int (-1)), zGL, h))) := by
  have he : zEnt 98 [.ref 16, .int v1] = [some (.ref 16), some (.int v1)] := by unfold zEnt; rw [ml_98]; rfl
  unfold zRun
  rw [he]
  refine Eq.trans (ev_iload_n (pc := 0) k_98_0 rfl rfl) ?_
  refine Eq.trans (ev_iflt (pc := 1) k_98_1.1 rfl k_98_1.2) (z_ite ?_ ?_)
  · refine Eq.trans (ev_mk (pc := 22) (lv' := [none, none]) kd_98_22 rfl) ?_
    refine Eq.trans (ev_iconst (pc := 22) (v := (-1)) k_98_22 rfl (by decide)) ?_
    exact ev_ret_int k_98_23 rfl rt_98
  · refine Eq.trans (ev_iload_n (pc := 4) k_98_4 rfl rfl) ?_
    refine Eq.trans (ev_iconst (pc := 5) (v := 2) k_98_5 rfl (by decide)) ?_
    refine Eq.trans (ev_idiv (pc := 6) k_98_6 rfl (by decide)) ?_
    refine Eq.trans (ev_aload_n (pc := 7) (x := 16) k_98_7 rfl rfl (by decide)) ?_
    refine Eq.trans (ev_getI (pc := 8) k_98_8 rfl zo_16.1) ?_
    refine Eq.trans (ev_icge (pc := 11) k_98_11.1 rfl k_98_11.2) (z_ite ?_ ?_)
    · refine Eq.trans (ev_iload_n (pc := 14) k_98_14 rfl rfl) ?_
      refine Eq.trans (ev_iconst (pc := 15) (v := 2) k_98_15 rfl (by decide)) ?_
      refine Eq.trans (ev_idiv (pc := 16) k_98_16 rfl (by decide)) ?_
      refine Eq.trans (ev_bipush (pc := 17) (v := 6) k_98_17 rfl (by decide)) ?_
      refine Eq.trans (ev_iclt (pc := 19) k_98_19.1 rfl k_98_19.2) (z_ite ?_ ?_)
      · refine Eq.trans (ev_iload_n (pc := 24) k_98_24 rfl rfl) ?_
        refine Eq.trans (ev_iconst (pc := 25) (v := 2) k_98_25 rfl (by decide)) ?_
        refine Eq.trans (ev_irem (pc := 26) k_98_26 rfl (by decide)) ?_
        refine Eq.trans (ev_ifne (pc := 27) k_98_27.1 rfl k_98_27.2) (z_ite ?_ ?_)
        · refine Eq.trans (ev_aload_n (pc := 30) (x := 16) k_98_30 rfl rfl (by decide)) ?_
          refine Eq.trans (ev_getR (pc := 31) (b := 17) k_98_31 rfl zo_16.1 zg_16_0) ?_
          refine Eq.trans (ev_iload_n (pc := 34) k_98_34 rfl rfl) ?_
          refine Eq.trans (ev_iconst (pc := 35) (v := 2) k_98_35 rfl (by decide)) ?_
          refine Eq.trans (ev_idiv (pc := 36) k_98_36 rfl (by decide)) ?_
          refine Eq.trans (ev_iald_c (pc := 37) k_98_37 rfl za_17) (z_it1 ?_)
          refine Eq.trans (ev_goto (pc := 38) k_98_38.1 rfl k_98_38.2) ?_
          refine Eq.trans (ev_mk (pc := 49) (lv' := [none, none]) kd_98_49 rfl) ?_
          exact ev_ret_int k_98_49 rfl rt_98
        · refine Eq.trans (ev_aload_n (pc := 41) (x := 16) k_98_41 rfl rfl (by decide)) ?_
          refine Eq.trans (ev_getR (pc := 42) (b := 18) k_98_42 rfl zo_16.1 zg_16_1) ?_
          refine Eq.trans (ev_iload_n (pc := 45) k_98_45 rfl rfl) ?_
          refine Eq.trans (ev_iconst (pc := 46) (v := 2) k_98_46 rfl (by decide)) ?_
          refine Eq.trans (ev_idiv (pc := 47) k_98_47 rfl (by decide)) ?_
          refine Eq.trans (ev_iald_c (pc := 48) k_98_48 rfl za_18) (z_it1 ?_)
          refine Eq.trans (ev_mk (pc := 49) (lv' := [none, none]) kd_98_49 rfl) ?_
          exact ev_ret_int k_98_49 rfl rt_98
      · refine Eq.trans (ev_mk (pc := 22) (lv' := [none, none]) kd_98_22 rfl) ?_
        refine Eq.trans (ev_iconst (pc := 22) (v := (-1)) k_98_22 rfl (by decide)) ?_
        exact ev_ret_int k_98_23 rfl rt_98
    · refine Eq.trans (ev_mk (pc := 22) (lv' := [none, none]) kd_98_22 rfl) ?_
      refine Eq.trans (ev_iconst (pc := 22) (v := (-1)) k_98_22 rfl (by decide)) ?_
      exact ev_ret_int k_98_23 rfl rt_98

set_option maxRecDepth 100000 in
theorem E_Rd_read (sc : zSc) (d : Nat) (h : zHp) (a1 : Nat) (q1 : zS6 zGL a1) : zRun sc (d + 1) 23 [.ref 15, .ref a1] zGL h = (zOT ((zPR h 15 1 a1).2.2 15 1) fun t1 ht1 => (zBv (zRun sc d 8 [.ref t1] zGL (zPR h 15 1 a1)) zGL fun h2 => (zBv (zRun sc d 24 [.ref 15] zGL (zPI (zPI (zPI (zPI h2 15 2 0) 15 7 0) 15 8 (-1)) 15 5 0)) zGL fun h3 => zE sc (d + 1) 23 38 [some (.ref 15), none, some (.int 0)] [] zGL h3))) := by
  have he : zEnt 23 [.ref 15, .ref a1] = [some (.ref 15), some (.ref a1), none] := by unfold zEnt; rw [ml_23]; rfl
  unfold zRun
  rw [he]
  refine Eq.trans (ev_aload_n (pc := 0) (x := 15) k_23_0 rfl rfl (by decide)) ?_
  refine Eq.trans (ev_aload_n (pc := 1) (x := a1) k_23_1 rfl rfl (zIO_lt q1.1).2.2) ?_
  refine Eq.trans (ev_putT (pc := 2) k_23_2 rfl zo_15.1 (zIO_lt q1.1).2.1) ?_
  refine Eq.trans (ev_aload_n (pc := 5) (x := 15) k_23_5 rfl rfl (by decide)) ?_
  refine Eq.trans (ev_getT (pc := 6) k_23_6 rfl zo_15.1) (z_cot fun t1 ht1 => ?_)
  refine Eq.trans (ev_vv (pc := 9) (as := []) (rest := []) k_23_9 rfl (zTw_6 ht1).1 rfl rfl (Nat.le_of_ble_eq_true rfl) (Nat.le_of_ble_eq_true rfl)) (z_cbv fun h2 => ?_)
  refine Eq.trans (ev_aload_n (pc := 12) (x := 15) k_23_12 rfl rfl (by decide)) ?_
  refine Eq.trans (ev_iconst (pc := 13) (v := 0) k_23_13 rfl (by decide)) ?_
  refine Eq.trans (ev_putZ (pc := 14) k_23_14 rfl zo_15.1 (by decide)) ?_
  refine Eq.trans (ev_aload_n (pc := 17) (x := 15) k_23_17 rfl rfl (by decide)) ?_
  refine Eq.trans (ev_iconst (pc := 18) (v := 0) k_23_18 rfl (by decide)) ?_
  refine Eq.trans (ev_putI (pc := 19) k_23_19 rfl zo_15.1) ?_
  refine Eq.trans (ev_aload_n (pc := 22) (x := 15) k_23_22 rfl rfl (by decide)) ?_
  refine Eq.trans (ev_iconst (pc := 23) (v := (-1)) k_23_23 rfl (by decide)) ?_
  refine Eq.trans (ev_putI (pc := 24) k_23_24 rfl zo_15.1) ?_
  refine Eq.trans (ev_aload_n (pc := 27) (x := 15) k_23_27 rfl rfl (by decide)) ?_
  refine Eq.trans (ev_iconst (pc := 28) (v := 0) k_23_28 rfl (by decide)) ?_
  refine Eq.trans (ev_putI (pc := 29) k_23_29 rfl zo_15.1) ?_
  refine Eq.trans (ev_aload_n (pc := 32) (x := 15) k_23_32 rfl rfl (by decide)) ?_
  refine Eq.trans (ev_vv (pc := 33) (as := []) (rest := []) k_23_33 rfl zo_15 rfl rfl (Nat.le_of_ble_eq_true rfl) (Nat.le_of_ble_eq_true rfl)) (z_cbv fun h3 => ?_)
  refine Eq.trans (ev_iconst (pc := 36) (v := 0) k_23_36 rfl (by decide)) ?_
  refine Eq.trans (ev_istore_n (pc := 37) (lv' := [some (.ref 15), some (.ref a1), some (.int 0)]) k_23_37 rfl (Nat.le_of_ble_eq_true rfl) rfl) ?_
  exact ev_mk kd_23_38 rfl

set_option maxRecDepth 100000 in
theorem E_Rd_read_38 (sc : zSc) (d : Nat) (h : zHp) (v2 : Int32) : zE sc (d + 1) 23 38 [some (.ref 15), none, some (.int v2)] [] zGL h = (if v2 < (400 : Int32) then (if (h.1 15 3) = 0 then some (some (.int (h.1 15 7)), zGL, h) else (if (h.1 15 7) = 0 then (zBv (zRun sc d 28 [.ref 15] zGL h) zGL fun h1 => zE sc (d + 1) 23 38 [some (.ref 15), none, some (.int (v2 + 1))] [] zGL h1) else some (some (.int (h.1 15 7)), zGL, h))) else some (some (.int (h.1 15 7)), zGL, h)) := by
  refine Eq.trans (ev_iload_n (pc := 38) k_23_38 rfl rfl) ?_
  refine Eq.trans (ev_sipush (pc := 39) (v := 400) k_23_39 rfl (by decide)) ?_
  refine Eq.trans (ev_icge (pc := 42) k_23_42.1 rfl k_23_42.2) (z_ite ?_ ?_)
  · refine Eq.trans (ev_aload_n (pc := 45) (x := 15) k_23_45 rfl rfl (by decide)) ?_
    refine Eq.trans (ev_getI (pc := 46) k_23_46 rfl zo_15.1) ?_
    refine Eq.trans (ev_ifeq (pc := 49) k_23_49.1 rfl k_23_49.2) (z_ite ?_ ?_)
    · refine Eq.trans (ev_mk (pc := 69) (lv' := [some (.ref 15), none, none]) kd_23_69 rfl) ?_
      refine Eq.trans (ev_aload_n (pc := 69) (x := 15) k_23_69 rfl rfl (by decide)) ?_
      refine Eq.trans (ev_getI (pc := 70) k_23_70 rfl zo_15.1) ?_
      exact ev_ret_int k_23_73 rfl rt_23
    · refine Eq.trans (ev_aload_n (pc := 52) (x := 15) k_23_52 rfl rfl (by decide)) ?_
      refine Eq.trans (ev_getI (pc := 53) k_23_53 rfl zo_15.1) ?_
      refine Eq.trans (ev_ifne (pc := 56) k_23_56.1 rfl k_23_56.2) (z_ite ?_ ?_)
      · refine Eq.trans (ev_aload_n (pc := 59) (x := 15) k_23_59 rfl rfl (by decide)) ?_
        refine Eq.trans (ev_vv (pc := 60) (as := []) (rest := []) k_23_60 rfl zo_15 rfl rfl (Nat.le_of_ble_eq_true rfl) (Nat.le_of_ble_eq_true rfl)) (z_cbv fun h1 => ?_)
        refine Eq.trans (ev_iinc (pc := 63) (v := 1) (lv' := [some (.ref 15), none, some (.int (v2 + 1))]) k_23_63 rfl rfl (by decide) rfl) ?_
        refine Eq.trans (ev_goto (pc := 66) k_23_66.1 rfl k_23_66.2) ?_
        exact ev_mk kd_23_38 rfl
      · refine Eq.trans (ev_mk (pc := 69) (lv' := [some (.ref 15), none, none]) kd_23_69 rfl) ?_
        refine Eq.trans (ev_aload_n (pc := 69) (x := 15) k_23_69 rfl rfl (by decide)) ?_
        refine Eq.trans (ev_getI (pc := 70) k_23_70 rfl zo_15.1) ?_
        exact ev_ret_int k_23_73 rfl rt_23
  · refine Eq.trans (ev_mk (pc := 69) (lv' := [some (.ref 15), none, none]) kd_23_69 rfl) ?_
    refine Eq.trans (ev_aload_n (pc := 69) (x := 15) k_23_69 rfl rfl (by decide)) ?_
    refine Eq.trans (ev_getI (pc := 70) k_23_70 rfl zo_15.1) ?_
    exact ev_ret_int k_23_73 rfl rt_23

set_option maxRecDepth 100000 in
theorem E_Rd_step (sc : zSc) (d : Nat) (h : zHp)  : zRun sc (d + 1) 24 [.ref 15] zGL h = (if (h.1 15 7) = 0 then zE sc (d + 1) 24 16 [some (.ref 15)] [] zGL (zPI h 15 4 (h.1 15 5)) else some (none, zGL, h)) := by
  have he : zEnt 24 [.ref 15] = [some (.ref 15)] := by unfold zEnt; rw [ml_24]; rfl
  unfold zRun
  rw [he]
  refine Eq.trans (ev_aload_n (pc := 0) (x := 15) k_24_0 rfl rfl (by decide)) ?_
  refine Eq.trans (ev_getI (pc := 1) k_24_1 rfl zo_15.1) ?_
  refine Eq.trans (ev_ifeq (pc := 4) k_24_4.1 rfl k_24_4.2) (z_ite ?_ ?_)
  · refine Eq.trans (ev_aload_n (pc := 8) (x := 15) k_24_8 rfl rfl (by decide)) ?_
    refine Eq.trans (ev_aload_n (pc := 9) (x := 15) k_24_9 rfl rfl (by decide)) ?_
    refine Eq.trans (ev_getI (pc := 10) k_24_10 rfl zo_15.1) ?_
    refine Eq.trans (ev_putI (pc := 13) k_24_13 rfl zo_15.1) ?_
    exact ev_mk kd_24_16 rfl
  · exact ev_ret_void k_24_7 rfl rt_24

set_option maxRecDepth 100000 in
theorem E_Rd_step_16 (sc : zSc) (d : Nat) (h : zHp)  : zE sc (d + 1) 24 16 [some (.ref 15)] [] zGL h = (if (h.1 15 4) < (h.1 1 1) then (zBi (zRun sc d 25 [.ref 15, .int (h.1 15 4)] zGL h) zGL fun x1 h1 => (if x1 = (32 : Int32) then zE sc (d + 1) 24 16 [some (.ref 15)] [] zGL (zPI h1 15 4 ((h1.1 15 4) + (1 : Int32))) else zE sc (d + 1) 24 56 [some (.ref 15)] [] zGL h1)) else zE sc (d + 1) 24 56 [some (.ref 15)] [] zGL h) := by
  refine Eq.trans (ev_aload_n (pc := 16) (x := 15) k_24_16 rfl rfl (by decide)) ?_
  refine Eq.trans (ev_getI (pc := 17) k_24_17 rfl zo_15.1) ?_
  refine Eq.trans (ev_aload_n (pc := 20) (x := 15) k_24_20 rfl rfl (by decide)) ?_
  refine Eq.trans (ev_getR (pc := 21) (b := 1) k_24_21 rfl zo_15.1 zg_15_0) ?_
  refine Eq.trans (ev_getI (pc := 24) k_24_24 rfl zo_1.1) ?_
  refine Eq.trans (ev_icge (pc := 27) k_24_27.1 rfl k_24_27.2) (z_ite ?_ ?_)
  · refine Eq.trans (ev_aload_n (pc := 30) (x := 15) k_24_30 rfl rfl (by decide)) ?_
    refine Eq.trans (ev_aload_n (pc := 31) (x := 15) k_24_31 rfl rfl (by decide)) ?_
    refine Eq.trans (ev_getI (pc := 32) k_24_32 rfl zo_15.1) ?_
    refine Eq.trans (ev_vi (pc := 35) (as := [.int (h.1 15 4)]) (rest := []) k_24_35 rfl zo_15 rfl rfl (Nat.le_of_ble_eq_true rfl) (Nat.le_of_ble_eq_true rfl)) (z_cbi fun x1 h1 => ?_)
    refine Eq.trans (ev_bipush (pc := 38) (v := 32) k_24_38 rfl (by decide)) ?_
    refine Eq.trans (ev_icne (pc := 40) k_24_40.1 rfl k_24_40.2) (z_ite ?_ ?_)
    · refine Eq.trans (ev_aload_n (pc := 43) (x := 15) k_24_43 rfl rfl (by decide)) ?_
      refine Eq.trans (ev_dup (pc := 44) k_24_44 rfl rfl) ?_
      refine Eq.trans (ev_getI (pc := 45) k_24_45 rfl zo_15.1) ?_
      refine Eq.trans (ev_iconst (pc := 48) (v := 1) k_24_48 rfl (by decide)) ?_
      refine Eq.trans (ev_iadd (pc := 49) k_24_49 rfl) ?_
      refine Eq.trans (ev_putI (pc := 50) k_24_50 rfl zo_15.1) ?_
      refine Eq.trans (ev_goto (pc := 53) k_24_53.1 rfl k_24_53.2) ?_
      exact ev_mk kd_24_16 rfl
    · exact ev_mk kd_24_56 rfl
  · exact ev_mk kd_24_56 rfl

set_option maxRecDepth 100000 in
theorem E_Rd_step_56 (sc : zSc) (d : Nat) (h : zHp)  : zE sc (d + 1) 24 56 [some (.ref 15)] [] zGL h = (zBi (zRun sc d 26 [.ref 15, .int (h.1 15 4)] zGL h) zGL fun x1 h1 => (if ((zPI h1 15 3 x1).1 15 3) = 0 then zE sc (d + 1) 24 92 [some (.ref 15)] [] zGL (zPI (zPI h1 15 3 x1) 15 5 ((zPI h1 15 3 x1).1 15 4)) else zE sc (d + 1) 24 92 [some (.ref 15)] [] zGL (zPI (zPI h1 15 3 x1) 15 5 (((zPI h1 15 3 x1).1 15 4) + (1 : Int32))))) := by
  refine Eq.trans (ev_aload_n (pc := 56) (x := 15) k_24_56 rfl rfl (by decide)) ?_
  refine Eq.trans (ev_aload_n (pc := 57) (x := 15) k_24_57 rfl rfl (by decide)) ?_
  refine Eq.trans (ev_aload_n (pc := 58) (x := 15) k_24_58 rfl rfl (by decide)) ?_
  refine Eq.trans (ev_getI (pc := 59) k_24_59 rfl zo_15.1) ?_
  refine Eq.trans (ev_vi (pc := 62) (as := [.int (h.1 15 4)]) (rest := [.ref 15]) k_24_62 rfl zo_15 rfl rfl (Nat.le_of_ble_eq_true rfl) (Nat.le_of_ble_eq_true rfl)) (z_cbi fun x1 h1 => ?_)
  refine Eq.trans (ev_putI (pc := 65) k_24_65 rfl zo_15.1) ?_
  refine Eq.trans (ev_aload_n (pc := 68) (x := 15) k_24_68 rfl rfl (by decide)) ?_
  refine Eq.trans (ev_aload_n (pc := 69) (x := 15) k_24_69 rfl rfl (by decide)) ?_
  refine Eq.trans (ev_getI (pc := 70) k_24_70 rfl zo_15.1) ?_
  refine Eq.trans (ev_ifne (pc := 73) k_24_73.1 rfl k_24_73.2) (z_ite ?_ ?_)
  · refine Eq.trans (ev_aload_n (pc := 76) (x := 15) k_24_76 rfl rfl (by decide)) ?_
    refine Eq.trans (ev_getI (pc := 77) k_24_77 rfl zo_15.1) ?_
    refine Eq.trans (ev_goto (pc := 80) k_24_80.1 rfl k_24_80.2) ?_
    refine Eq.trans (ev_putI (pc := 89) k_24_89 rfl zo_15.1) ?_
    exact ev_mk kd_24_92 rfl
  · refine Eq.trans (ev_aload_n (pc := 83) (x := 15) k_24_83 rfl rfl (by decide)) ?_
    refine Eq.trans (ev_getI (pc := 84) k_24_84 rfl zo_15.1) ?_
    refine Eq.trans (ev_iconst (pc := 87) (v := 1) k_24_87 rfl (by decide)) ?_
    refine Eq.trans (ev_iadd (pc := 88) k_24_88 rfl) ?_
    refine Eq.trans (ev_putI (pc := 89) k_24_89 rfl zo_15.1) ?_
    exact ev_mk kd_24_92 rfl

set_option maxRecDepth 100000 in
theorem E_Rd_step_92 (sc : zSc) (d : Nat) (h : zHp)  : zE sc (d + 1) 24 92 [some (.ref 15)] [] zGL h = (if (h.1 15 3) = (3 : Int32) then zE sc (d + 1) 24 142 [some (.ref 15)] [] zGL h else (if (h.1 15 5) < (h.1 1 1) then (zBi (zRun sc d 26 [.ref 15, .int (h.1 15 5)] zGL h) zGL fun x1 h1 => (if x1 = (h1.1 15 3) then zE sc (d + 1) 24 92 [some (.ref 15)] [] zGL (zPI h1 15 5 ((h1.1 15 5) + (1 : Int32))) else zE sc (d + 1) 24 142 [some (.ref 15)] [] zGL h1)) else zE sc (d + 1) 24 142 [some (.ref 15)] [] zGL h)) := by
  refine Eq.trans (ev_aload_n (pc := 92) (x := 15) k_24_92 rfl rfl (by decide)) ?_
  refine Eq.trans (ev_getI (pc := 93) k_24_93 rfl zo_15.1) ?_
  refine Eq.trans (ev_iconst (pc := 96) (v := 3) k_24_96 rfl (by decide)) ?_
  refine Eq.trans (ev_iceq (pc := 97) k_24_97.1 rfl k_24_97.2) (z_ite ?_ ?_)
  · exact ev_mk kd_24_142 rfl
  · refine Eq.trans (ev_aload_n (pc := 100) (x := 15) k_24_100 rfl rfl (by decide)) ?_
    refine Eq.trans (ev_getI (pc := 101) k_24_101 rfl zo_15.1) ?_
    refine Eq.trans (ev_aload_n (pc := 104) (x := 15) k_24_104 rfl rfl (by decide)) ?_
    refine Eq.trans (ev_getR (pc := 105) (b := 1) k_24_105 rfl zo_15.1 zg_15_0) ?_
    refine Eq.trans (ev_getI (pc := 108) k_24_108 rfl zo_1.1) ?_
    refine Eq.trans (ev_icge (pc := 111) k_24_111.1 rfl k_24_111.2) (z_ite ?_ ?_)
    · refine Eq.trans (ev_aload_n (pc := 114) (x := 15) k_24_114 rfl rfl (by decide)) ?_
      refine Eq.trans (ev_aload_n (pc := 115) (x := 15) k_24_115 rfl rfl (by decide)) ?_
      refine Eq.trans (ev_getI (pc := 116) k_24_116 rfl zo_15.1) ?_
      refine Eq.trans (ev_vi (pc := 119) (as := [.int (h.1 15 5)]) (rest := []) k_24_119 rfl zo_15 rfl rfl (Nat.le_of_ble_eq_true rfl) (Nat.le_of_ble_eq_true rfl)) (z_cbi fun x1 h1 => ?_)
      refine Eq.trans (ev_aload_n (pc := 122) (x := 15) k_24_122 rfl rfl (by decide)) ?_
      refine Eq.trans (ev_getI (pc := 123) k_24_123 rfl zo_15.1) ?_
      refine Eq.trans (ev_icne (pc := 126) k_24_126.1 rfl k_24_126.2) (z_ite ?_ ?_)
      · refine Eq.trans (ev_aload_n (pc := 129) (x := 15) k_24_129 rfl rfl (by decide)) ?_
        refine Eq.trans (ev_dup (pc := 130) k_24_130 rfl rfl) ?_
        refine Eq.trans (ev_getI (pc := 131) k_24_131 rfl zo_15.1) ?_
        refine Eq.trans (ev_iconst (pc := 134) (v := 1) k_24_134 rfl (by decide)) ?_
        refine Eq.trans (ev_iadd (pc := 135) k_24_135 rfl) ?_
        refine Eq.trans (ev_putI (pc := 136) k_24_136 rfl zo_15.1) ?_
        refine Eq.trans (ev_goto (pc := 139) k_24_139.1 rfl k_24_139.2) ?_
        exact ev_mk kd_24_92 rfl
      · exact ev_mk kd_24_142 rfl
    · exact ev_mk kd_24_142 rfl

set_option maxRecDepth 100000 in
theorem E_Rd_step_142 (sc : zSc) (d : Nat) (h : zHp)  : zE sc (d + 1) 24 142 [some (.ref 15)] [] zGL h = (if (h.1 15 3) = (2 : Int32) then (zBi (zRun sc d 27 [.ref 15] zGL h) zGL fun x1 h1 => some (none, zGL, zPI h1 15 6 x1)) else some (none, zGL, zPI h 15 6 0)) := by
  refine Eq.trans (ev_aload_n (pc := 142) (x := 15) k_24_142 rfl rfl (by decide)) ?_
  refine Eq.trans (ev_aload_n (pc := 143) (x := 15) k_24_143 rfl rfl (by decide)) ?_
  refine Eq.trans (ev_getI (pc := 144) k_24_144 rfl zo_15.1) ?_
  refine Eq.trans (ev_iconst (pc := 147) (v := 2) k_24_147 rfl (by decide)) ?_
  refine Eq.trans (ev_icne (pc := 148) k_24_148.1 rfl k_24_148.2) (z_ite ?_ ?_)
  · refine Eq.trans (ev_aload_n (pc := 151) (x := 15) k_24_151 rfl rfl (by decide)) ?_
    refine Eq.trans (ev_vi (pc := 152) (as := []) (rest := [.ref 15]) k_24_152 rfl zo_15 rfl rfl (Nat.le_of_ble_eq_true rfl) (Nat.le_of_ble_eq_true rfl)) (z_cbi fun x1 h1 => ?_)
    refine Eq.trans (ev_goto (pc := 155) k_24_155.1 rfl k_24_155.2) ?_
    refine Eq.trans (ev_mk (pc := 159) (lv' := [none]) kd_24_159 rfl) ?_
    refine Eq.trans (ev_putI (pc := 159) k_24_159 rfl zo_15.1) ?_
    exact ev_ret_void k_24_162 rfl rt_24
  · refine Eq.trans (ev_iconst (pc := 158) (v := 0) k_24_158 rfl (by decide)) ?_
    refine Eq.trans (ev_mk (pc := 159) (lv' := [none]) kd_24_159 rfl) ?_
    refine Eq.trans (ev_putI (pc := 159) k_24_159 rfl zo_15.1) ?_
    exact ev_ret_void k_24_162 rfl rt_24

set_option maxRecDepth 100000 in
theorem E_Rd_byteAt (sc : zSc) (d : Nat) (h : zHp) (v1 : Int32) : zRun sc d 25 [.ref 15, .int v1] zGL h = (if v1 < 0 then some (some (.int 0), zGL, h) else (if v1 < (h.1 1 1) then (if zin v1 400 = true then some (some (.int (h.1 2 v1.toNatClampNeg)), zGL, h) else none) else some (some (.int 0), zGL, h))) := by
  have he : zEnt 25 [.ref 15, .int v1] = [some (.ref 15), some (.int v1)] := by unfold zEnt; rw [ml_25]; rfl
  unfold zRun
  rw [he]
  refine Eq.trans (ev_iload_n (pc := 0) k_25_0 rfl rfl) ?_
  refine Eq.trans (ev_iflt (pc := 1) k_25_1.1 rfl k_25_1.2) (z_ite ?_ ?_)
  · refine Eq.trans (ev_mk (pc := 27) (lv' := [none, none]) kd_25_27 rfl) ?_
    refine Eq.trans (ev_iconst (pc := 27) (v := 0) k_25_27 rfl (by decide)) ?_
    exact ev_ret_int k_25_28 rfl rt_25
  · refine Eq.trans (ev_iload_n (pc := 4) k_25_4 rfl rfl) ?_
    refine Eq.trans (ev_aload_n (pc := 5) (x := 15) k_25_5 rfl rfl (by decide)) ?_
    refine Eq.trans (ev_getR (pc := 6) (b := 1) k_25_6 rfl zo_15.1 zg_15_0) ?_
    refine Eq.trans (ev_getI (pc := 9) k_25_9 rfl zo_1.1) ?_
    refine Eq.trans (ev_icge (pc := 12) k_25_12.1 rfl k_25_12.2) (z_ite ?_ ?_)
    · refine Eq.trans (ev_aload_n (pc := 15) (x := 15) k_25_15 rfl rfl (by decide)) ?_
      refine Eq.trans (ev_getR (pc := 16) (b := 1) k_25_16 rfl zo_15.1 zg_15_0) ?_
      refine Eq.trans (ev_getR (pc := 19) (b := 2) k_25_19 rfl zo_1.1 zg_1_0) ?_
      refine Eq.trans (ev_iload_n (pc := 22) k_25_22 rfl rfl) ?_
      refine Eq.trans (ev_iald_c (pc := 23) k_25_23 rfl za_2) (z_it1 ?_)
      refine Eq.trans (ev_goto (pc := 24) k_25_24.1 rfl k_25_24.2) ?_
      refine Eq.trans (ev_mk (pc := 28) (lv' := [none, none]) kd_25_28 rfl) ?_
      exact ev_ret_int k_25_28 rfl rt_25
    · refine Eq.trans (ev_mk (pc := 27) (lv' := [none, none]) kd_25_27 rfl) ?_
      refine Eq.trans (ev_iconst (pc := 27) (v := 0) k_25_27 rfl (by decide)) ?_
      exact ev_ret_int k_25_28 rfl rt_25

set_option maxRecDepth 100000 in
theorem E_Rd_kindAt (sc : zSc) (d : Nat) (h : zHp) (v1 : Int32) : zRun sc d 26 [.ref 15, .int v1] zGL h = (if v1 < 0 then some (some (.int 0), zGL, h) else (if v1 < (h.1 1 1) then (if zin v1 400 = true then (if (h.1 2 v1.toNatClampNeg) < (97 : Int32) then zE sc d 26 41 [none, none, some (.int (h.1 2 v1.toNatClampNeg))] [] zGL h else (if (122 : Int32) < (h.1 2 v1.toNatClampNeg) then zE sc d 26 41 [none, none, some (.int (h.1 2 v1.toNatClampNeg))] [] zGL h else some (some (.int 1), zGL, h))) else none) else some (some (.int 0), zGL, h))) := by
  have he : zEnt 26 [.ref 15, .int v1] = [some (.ref 15), some (.int v1), none] := by unfold zEnt; rw [ml_26]; rfl
  unfold zRun
  rw [he]
  refine Eq.trans (ev_iload_n (pc := 0) k_26_0 rfl rfl) ?_
  refine Eq.trans (ev_iflt (pc := 1) k_26_1.1 rfl k_26_1.2) (z_ite ?_ ?_)
  · refine Eq.trans (ev_mk (pc := 15) (lv' := [none, none, none]) kd_26_15 rfl) ?_
    refine Eq.trans (ev_iconst (pc := 15) (v := 0) k_26_15 rfl (by decide)) ?_
    exact ev_ret_int k_26_16 rfl rt_26
  · refine Eq.trans (ev_iload_n (pc := 4) k_26_4 rfl rfl) ?_
    refine Eq.trans (ev_aload_n (pc := 5) (x := 15) k_26_5 rfl rfl (by decide)) ?_
    refine Eq.trans (ev_getR (pc := 6) (b := 1) k_26_6 rfl zo_15.1 zg_15_0) ?_
    refine Eq.trans (ev_getI (pc := 9) k_26_9 rfl zo_1.1) ?_
    refine Eq.trans (ev_iclt (pc := 12) k_26_12.1 rfl k_26_12.2) (z_ite ?_ ?_)
    · refine Eq.trans (ev_aload_n (pc := 17) (x := 15) k_26_17 rfl rfl (by decide)) ?_
      refine Eq.trans (ev_getR (pc := 18) (b := 1) k_26_18 rfl zo_15.1 zg_15_0) ?_
      refine Eq.trans (ev_getR (pc := 21) (b := 2) k_26_21 rfl zo_1.1 zg_1_0) ?_
      refine Eq.trans (ev_iload_n (pc := 24) k_26_24 rfl rfl) ?_
      refine Eq.trans (ev_iald_c (pc := 25) k_26_25 rfl za_2) (z_it1 ?_)
      refine Eq.trans (ev_istore_n (pc := 26) (lv' := [some (.ref 15), some (.int v1), some (.int (h.1 2 v1.toNatClampNeg))]) k_26_26 rfl (Nat.le_of_ble_eq_true rfl) rfl) ?_
      refine Eq.trans (ev_iload_n (pc := 27) k_26_27 rfl rfl) ?_
      refine Eq.trans (ev_bipush (pc := 28) (v := 97) k_26_28 rfl (by decide)) ?_
      refine Eq.trans (ev_iclt (pc := 30) k_26_30.1 rfl k_26_30.2) (z_ite ?_ ?_)
      · exact ev_mk kd_26_41 rfl
      · refine Eq.trans (ev_iload_n (pc := 33) k_26_33 rfl rfl) ?_
        refine Eq.trans (ev_bipush (pc := 34) (v := 122) k_26_34 rfl (by decide)) ?_
        refine Eq.trans (ev_icgt (pc := 36) k_26_36.1 rfl k_26_36.2) (z_ite ?_ ?_)
        · exact ev_mk kd_26_41 rfl
        · refine Eq.trans (ev_iconst (pc := 39) (v := 1) k_26_39 rfl (by decide)) ?_
          exact ev_ret_int k_26_40 rfl rt_26
    · refine Eq.trans (ev_mk (pc := 15) (lv' := [none, none, none]) kd_26_15 rfl) ?_
      refine Eq.trans (ev_iconst (pc := 15) (v := 0) k_26_15 rfl (by decide)) ?_
      exact ev_ret_int k_26_16 rfl rt_26

set_option maxRecDepth 100000 in
theorem E_Rd_kindAt_41 (sc : zSc) (d : Nat) (h : zHp) (v2 : Int32) : zE sc d 26 41 [none, none, some (.int v2)] [] zGL h = (if v2 < (48 : Int32) then some (some (.int 3), zGL, h) else (if (57 : Int32) < v2 then some (some (.int 3), zGL, h) else some (some (.int 2), zGL, h))) := by
  refine Eq.trans (ev_iload_n (pc := 41) k_26_41 rfl rfl) ?_
  refine Eq.trans (ev_bipush (pc := 42) (v := 48) k_26_42 rfl (by decide)) ?_
  refine Eq.trans (ev_iclt (pc := 44) k_26_44.1 rfl k_26_44.2) (z_ite ?_ ?_)
  · refine Eq.trans (ev_mk (pc := 57) (lv' := [none, none, none]) kd_26_57 rfl) ?_
    refine Eq.trans (ev_iconst (pc := 57) (v := 3) k_26_57 rfl (by decide)) ?_
    exact ev_ret_int k_26_58 rfl rt_26
  · refine Eq.trans (ev_iload_n (pc := 47) k_26_47 rfl rfl) ?_
    refine Eq.trans (ev_bipush (pc := 48) (v := 57) k_26_48 rfl (by decide)) ?_
    refine Eq.trans (ev_icgt (pc := 50) k_26_50.1 rfl k_26_50.2) (z_ite ?_ ?_)
    · refine Eq.trans (ev_mk (pc := 57) (lv' := [none, none, none]) kd_26_57 rfl) ?_
      refine Eq.trans (ev_iconst (pc := 57) (v := 3) k_26_57 rfl (by decide)) ?_
      exact ev_ret_int k_26_58 rfl rt_26
    · refine Eq.trans (ev_iconst (pc := 53) (v := 2) k_26_53 rfl (by decide)) ?_
      refine Eq.trans (ev_goto (pc := 54) k_26_54.1 rfl k_26_54.2) ?_
      refine Eq.trans (ev_mk (pc := 58) (lv' := [none, none, none]) kd_26_58 rfl) ?_
      exact ev_ret_int k_26_58 rfl rt_26

set_option maxRecDepth 100000 in
theorem E_Rd_valueOfToken (sc : zSc) (d : Nat) (h : zHp)  : zRun sc d 27 [.ref 15] zGL h = zE sc d 27 7 [some (.ref 15), some (.int 0), some (.int (h.1 15 4))] [] zGL h := by
  have he : zEnt 27 [.ref 15] = [some (.ref 15), none, none] := by unfold zEnt; rw [ml_27]; rfl
  unfold zRun
  rw [he]
  refine Eq.trans (ev_iconst (pc := 0) (v := 0) k_27_0 rfl (by decide)) ?_
  refine Eq.trans (ev_istore_n (pc := 1) (lv' := [some (.ref 15), some (.int 0), none]) k_27_1 rfl (Nat.le_of_ble_eq_true rfl) rfl) ?_
  refine Eq.trans (ev_aload_n (pc := 2) (x := 15) k_27_2 rfl rfl (by decide)) ?_
  refine Eq.trans (ev_getI (pc := 3) k_27_3 rfl zo_15.1) ?_
  refine Eq.trans (ev_istore_n (pc := 6) (lv' := [some (.ref 15), some (.int 0), some (.int (h.1 15 4))]) k_27_6 rfl (Nat.le_of_ble_eq_true rfl) rfl) ?_
  exact ev_mk kd_27_7 rfl

set_option maxRecDepth 100000 in
theorem E_Rd_valueOfToken_7 (sc : zSc) (d : Nat) (h : zHp) (v1 : Int32) (v2 : Int32) : zE sc d 27 7 [some (.ref 15), some (.int v1), some (.int v2)] [] zGL h = (if v2 < (h.1 15 5) then (if v2 < (h.1 1 1) then (if v2 < ((h.1 15 4) + (3 : Int32)) then (if zin v2 400 = true then zE sc d 27 7 [some (.ref 15), some (.int (((v1 * (10 : Int32)) + (h.1 2 v2.toNatClampNeg)) - (48 : Int32))), some (.int (v2 + 1))] [] zGL h else none) else some (some (.int v1), zGL, h)) else some (some (.int v1), zGL, h)) else some (some (.int v1), zGL, h)) := by
  refine Eq.trans (ev_iload_n (pc := 7) k_27_7 rfl rfl) ?_
  refine Eq.trans (ev_aload_n (pc := 8) (x := 15) k_27_8 rfl rfl (by decide)) ?_
  refine Eq.trans (ev_getI (pc := 9) k_27_9 rfl zo_15.1) ?_
  refine Eq.trans (ev_icge (pc := 12) k_27_12.1 rfl k_27_12.2) (z_ite ?_ ?_)
  · refine Eq.trans (ev_iload_n (pc := 15) k_27_15 rfl rfl) ?_
    refine Eq.trans (ev_aload_n (pc := 16) (x := 15) k_27_16 rfl rfl (by decide)) ?_
    refine Eq.trans (ev_getR (pc := 17) (b := 1) k_27_17 rfl zo_15.1 zg_15_0) ?_
    refine Eq.trans (ev_getI (pc := 20) k_27_20 rfl zo_1.1) ?_
    refine Eq.trans (ev_icge (pc := 23) k_27_23.1 rfl k_27_23.2) (z_ite ?_ ?_)
    · refine Eq.trans (ev_iload_n (pc := 26) k_27_26 rfl rfl) ?_
      refine Eq.trans (ev_aload_n (pc := 27) (x := 15) k_27_27 rfl rfl (by decide)) ?_
      refine Eq.trans (ev_getI (pc := 28) k_27_28 rfl zo_15.1) ?_
      refine Eq.trans (ev_iconst (pc := 31) (v := 3) k_27_31 rfl (by decide)) ?_
      refine Eq.trans (ev_iadd (pc := 32) k_27_32 rfl) ?_
      refine Eq.trans (ev_icge (pc := 33) k_27_33.1 rfl k_27_33.2) (z_ite ?_ ?_)
      · refine Eq.trans (ev_iload_n (pc := 36) k_27_36 rfl rfl) ?_
        refine Eq.trans (ev_bipush (pc := 37) (v := 10) k_27_37 rfl (by decide)) ?_
        refine Eq.trans (ev_imul (pc := 39) k_27_39 rfl) ?_
        refine Eq.trans (ev_aload_n (pc := 40) (x := 15) k_27_40 rfl rfl (by decide)) ?_
        refine Eq.trans (ev_getR (pc := 41) (b := 1) k_27_41 rfl zo_15.1 zg_15_0) ?_
        refine Eq.trans (ev_getR (pc := 44) (b := 2) k_27_44 rfl zo_1.1 zg_1_0) ?_
        refine Eq.trans (ev_iload_n (pc := 47) k_27_47 rfl rfl) ?_
        refine Eq.trans (ev_iald_c (pc := 48) k_27_48 rfl za_2) (z_it1 ?_)
        refine Eq.trans (ev_iadd (pc := 49) k_27_49 rfl) ?_
        refine Eq.trans (ev_bipush (pc := 50) (v := 48) k_27_50 rfl (by decide)) ?_
        refine Eq.trans (ev_isub (pc := 52) k_27_52 rfl) ?_
        refine Eq.trans (ev_istore_n (pc := 53) (lv' := [some (.ref 15), some (.int (((v1 * (10 : Int32)) + (h.1 2 v2.toNatClampNeg)) - (48 : Int32))), some (.int v2)]) k_27_53 rfl (Nat.le_of_ble_eq_true rfl) rfl) ?_
        refine Eq.trans (ev_iinc (pc := 54) (v := 1) (lv' := [some (.ref 15), some (.int (((v1 * (10 : Int32)) + (h.1 2 v2.toNatClampNeg)) - (48 : Int32))), some (.int (v2 + 1))]) k_27_54 rfl rfl (by decide) rfl) ?_
        refine Eq.trans (ev_goto (pc := 57) k_27_57.1 rfl k_27_57.2) ?_
        exact ev_mk kd_27_7 rfl
      · refine Eq.trans (ev_mk (pc := 60) (lv' := [none, some (.int v1), none]) kd_27_60 rfl) ?_
        refine Eq.trans (ev_iload_n (pc := 60) k_27_60 rfl rfl) ?_
        exact ev_ret_int k_27_61 rfl rt_27
    · refine Eq.trans (ev_mk (pc := 60) (lv' := [none, some (.int v1), none]) kd_27_60 rfl) ?_
      refine Eq.trans (ev_iload_n (pc := 60) k_27_60 rfl rfl) ?_
      exact ev_ret_int k_27_61 rfl rt_27
  · refine Eq.trans (ev_mk (pc := 60) (lv' := [none, some (.int v1), none]) kd_27_60 rfl) ?_
    refine Eq.trans (ev_iload_n (pc := 60) k_27_60 rfl rfl) ?_
    exact ev_ret_int k_27_61 rfl rt_27

set_option maxRecDepth 100000 in
theorem E_Rd_readClause (sc : zSc) (d : Nat) (h : zHp)  : zRun sc (d + 1) 28 [.ref 15] zGL h = (zBi (zRun sc d 29 [.ref 15, .ref 1000] zGL h) zGL fun x1 h1 => (if x1 = 0 then (zBi (zRun sc d 29 [.ref 15, .ref 1001] zGL h1) zGL fun x2 h2 => (if x2 = 0 then (zBi (zRun sc d 29 [.ref 15, .ref 1003] zGL h2) zGL fun x3 h3 => (if x3 = 0 then (zBv (zRun sc d 38 [.ref 15, .int 1] zGL h3) zGL fun h4 => some (none, zGL, h4)) else (zBv (zRun sc d 46 [.ref 15] zGL h3) zGL fun h5 => some (none, zGL, h5)))) else (zBv (zRun sc d 43 [.ref 15] zGL h2) zGL fun h6 => some (none, zGL, h6)))) else (zBv (zRun sc d 37 [.ref 15] zGL h1) zGL fun h7 => some (none, zGL, h7)))) := by
  have he : zEnt 28 [.ref 15] = [some (.ref 15)] := by unfold zEnt; rw [ml_28]; rfl
  unfold zRun
  rw [he]
  refine Eq.trans (ev_aload_n (pc := 0) (x := 15) k_28_0 rfl rfl (by decide)) ?_
  refine Eq.trans (ev_ldcS (pc := 1) k_28_1 rfl) ?_
  refine Eq.trans (ev_vi (pc := 3) (as := [.ref 1000]) (rest := []) k_28_3 rfl zo_15 rfl rfl (Nat.le_of_ble_eq_true rfl) (Nat.le_of_ble_eq_true rfl)) (z_cbi fun x1 h1 => ?_)
  refine Eq.trans (ev_ifeq (pc := 6) k_28_6.1 rfl k_28_6.2) (z_ite ?_ ?_)
  · refine Eq.trans (ev_aload_n (pc := 16) (x := 15) k_28_16 rfl rfl (by decide)) ?_
    refine Eq.trans (ev_ldcS (pc := 17) k_28_17 rfl) ?_
    refine Eq.trans (ev_vi (pc := 19) (as := [.ref 1001]) (rest := []) k_28_19 rfl zo_15 rfl rfl (Nat.le_of_ble_eq_true rfl) (Nat.le_of_ble_eq_true rfl)) (z_cbi fun x2 h2 => ?_)
    refine Eq.trans (ev_ifeq (pc := 22) k_28_22.1 rfl k_28_22.2) (z_ite ?_ ?_)
    · refine Eq.trans (ev_aload_n (pc := 32) (x := 15) k_28_32 rfl rfl (by decide)) ?_
      refine Eq.trans (ev_ldcS (pc := 33) k_28_33 rfl) ?_
      refine Eq.trans (ev_vi (pc := 35) (as := [.ref 1003]) (rest := []) k_28_35 rfl zo_15 rfl rfl (Nat.le_of_ble_eq_true rfl) (Nat.le_of_ble_eq_true rfl)) (z_cbi fun x3 h3 => ?_)
      refine Eq.trans (ev_ifeq (pc := 38) k_28_38.1 rfl k_28_38.2) (z_ite ?_ ?_)
      · refine Eq.trans (ev_aload_n (pc := 48) (x := 15) k_28_48 rfl rfl (by decide)) ?_
        refine Eq.trans (ev_iconst (pc := 49) (v := 1) k_28_49 rfl (by decide)) ?_
        refine Eq.trans (ev_vv (pc := 50) (as := [.int 1]) (rest := []) k_28_50 rfl zo_15 rfl rfl (Nat.le_of_ble_eq_true rfl) (Nat.le_of_ble_eq_true rfl)) (z_cbv fun h4 => ?_)
        refine Eq.trans (ev_mk (pc := 53) (lv' := [none]) kd_28_53 rfl) ?_
        exact ev_ret_void k_28_53 rfl rt_28
      · refine Eq.trans (ev_aload_n (pc := 41) (x := 15) k_28_41 rfl rfl (by decide)) ?_
        refine Eq.trans (ev_vv (pc := 42) (as := []) (rest := []) k_28_42 rfl zo_15 rfl rfl (Nat.le_of_ble_eq_true rfl) (Nat.le_of_ble_eq_true rfl)) (z_cbv fun h5 => ?_)
        refine Eq.trans (ev_goto (pc := 45) k_28_45.1 rfl k_28_45.2) ?_
        refine Eq.trans (ev_mk (pc := 53) (lv' := [none]) kd_28_53 rfl) ?_
        exact ev_ret_void k_28_53 rfl rt_28
    · refine Eq.trans (ev_aload_n (pc := 25) (x := 15) k_28_25 rfl rfl (by decide)) ?_
      refine Eq.trans (ev_vv (pc := 26) (as := []) (rest := []) k_28_26 rfl zo_15 rfl rfl (Nat.le_of_ble_eq_true rfl) (Nat.le_of_ble_eq_true rfl)) (z_cbv fun h6 => ?_)
      refine Eq.trans (ev_goto (pc := 29) k_28_29.1 rfl k_28_29.2) ?_
      refine Eq.trans (ev_mk (pc := 53) (lv' := [none]) kd_28_53 rfl) ?_
      exact ev_ret_void k_28_53 rfl rt_28
  · refine Eq.trans (ev_aload_n (pc := 9) (x := 15) k_28_9 rfl rfl (by decide)) ?_
    refine Eq.trans (ev_vv (pc := 10) (as := []) (rest := []) k_28_10 rfl zo_15 rfl rfl (Nat.le_of_ble_eq_true rfl) (Nat.le_of_ble_eq_true rfl)) (z_cbv fun h7 => ?_)
    refine Eq.trans (ev_goto (pc := 13) k_28_13.1 rfl k_28_13.2) ?_
    refine Eq.trans (ev_mk (pc := 53) (lv' := [none]) kd_28_53 rfl) ?_
    exact ev_ret_void k_28_53 rfl rt_28

set_option maxRecDepth 100000 in
theorem E_Rd_isWord (sc : zSc) (d : Nat) (h : zHp) (a1 : Nat) (q1 : 1000 ≤ a1 ∧ a1 < 1005) : zRun sc (d + 1) 29 [.ref 15, .ref a1] zGL h = (if (h.1 15 3) = (1 : Int32) then (zBi (zRun sc d 30 [.ref a1] zGL h) zGL fun x1 h1 => (if ((h.1 15 5) - (h.1 15 4)) = x1 then zE sc (d + 1) 29 28 [some (.ref 15), some (.ref a1), some (.int 0)] [] zGL h1 else some (some (.int 0), zGL, h1))) else some (some (.int 0), zGL, h)) := by
  have he : zEnt 29 [.ref 15, .ref a1] = [some (.ref 15), some (.ref a1), none] := by unfold zEnt; rw [ml_29]; rfl
  unfold zRun
  rw [he]
  refine Eq.trans (ev_aload_n (pc := 0) (x := 15) k_29_0 rfl rfl (by decide)) ?_
  refine Eq.trans (ev_getI (pc := 1) k_29_1 rfl zo_15.1) ?_
  refine Eq.trans (ev_iconst (pc := 4) (v := 1) k_29_4 rfl (by decide)) ?_
  refine Eq.trans (ev_icne (pc := 5) k_29_5.1 rfl k_29_5.2) (z_ite ?_ ?_)
  · refine Eq.trans (ev_aload_n (pc := 8) (x := 15) k_29_8 rfl rfl (by decide)) ?_
    refine Eq.trans (ev_getI (pc := 9) k_29_9 rfl zo_15.1) ?_
    refine Eq.trans (ev_aload_n (pc := 12) (x := 15) k_29_12 rfl rfl (by decide)) ?_
    refine Eq.trans (ev_getI (pc := 13) k_29_13 rfl zo_15.1) ?_
    refine Eq.trans (ev_isub (pc := 16) k_29_16 rfl) ?_
    refine Eq.trans (ev_aload_n (pc := 17) (x := a1) k_29_17 rfl rfl (z_n5 q1)) ?_
    refine Eq.trans (ev_vs (pc := 18) (as := []) (rest := [.int ((h.1 15 5) - (h.1 15 4))]) k_29_18 rfl q1 rfl rfl (Nat.le_of_ble_eq_true rfl) (Nat.le_of_ble_eq_true rfl)) (z_cbi fun x1 h1 => ?_)
    refine Eq.trans (ev_iceq (pc := 21) k_29_21.1 rfl k_29_21.2) (z_ite ?_ ?_)
    · refine Eq.trans (ev_iconst (pc := 26) (v := 0) k_29_26 rfl (by decide)) ?_
      refine Eq.trans (ev_istore_n (pc := 27) (lv' := [some (.ref 15), some (.ref a1), some (.int 0)]) k_29_27 rfl (Nat.le_of_ble_eq_true rfl) rfl) ?_
      exact ev_mk kd_29_28 rfl
    · refine Eq.trans (ev_mk (pc := 24) (lv' := [none, none, none]) kd_29_24 rfl) ?_
      refine Eq.trans (ev_iconst (pc := 24) (v := 0) k_29_24 rfl (by decide)) ?_
      exact ev_ret_b1 k_29_25 rfl rt_29 (by decide)
  · refine Eq.trans (ev_mk (pc := 24) (lv' := [none, none, none]) kd_29_24 rfl) ?_
    refine Eq.trans (ev_iconst (pc := 24) (v := 0) k_29_24 rfl (by decide)) ?_
    exact ev_ret_b1 k_29_25 rfl rt_29 (by decide)

set_option maxRecDepth 100000 in
theorem E_Rd_isWord_28 (sc : zSc) (d : Nat) (h : zHp) (a1 : Nat) (q1 : 1000 ≤ a1 ∧ a1 < 1005) (v2 : Int32) : zE sc (d + 1) 29 28 [some (.ref 15), some (.ref a1), some (.int v2)] [] zGL h = (zBi (zRun sc d 30 [.ref a1] zGL h) zGL fun x1 h1 => (if v2 < x1 then (zBi (zRun sc d 25 [.ref 15, .int ((h1.1 15 4) + v2)] zGL h1) zGL fun x2 h2 => (zBi (zRun sc d 32 [.ref a1, .int v2] zGL h2) zGL fun x3 h3 => (if x2 = x3 then zE sc (d + 1) 29 28 [some (.ref 15), some (.ref a1), some (.int (v2 + 1))] [] zGL h3 else some (some (.int 0), zGL, h3)))) else some (some (.int 1), zGL, h1))) := by
  refine Eq.trans (ev_iload_n (pc := 28) k_29_28 rfl rfl) ?_
  refine Eq.trans (ev_aload_n (pc := 29) (x := a1) k_29_29 rfl rfl (z_n5 q1)) ?_
  refine Eq.trans (ev_vs (pc := 30) (as := []) (rest := [.int v2]) k_29_30 rfl q1 rfl rfl (Nat.le_of_ble_eq_true rfl) (Nat.le_of_ble_eq_true rfl)) (z_cbi fun x1 h1 => ?_)
  refine Eq.trans (ev_icge (pc := 33) k_29_33.1 rfl k_29_33.2) (z_ite ?_ ?_)
  · refine Eq.trans (ev_aload_n (pc := 36) (x := 15) k_29_36 rfl rfl (by decide)) ?_
    refine Eq.trans (ev_aload_n (pc := 37) (x := 15) k_29_37 rfl rfl (by decide)) ?_
    refine Eq.trans (ev_getI (pc := 38) k_29_38 rfl zo_15.1) ?_
    refine Eq.trans (ev_iload_n (pc := 41) k_29_41 rfl rfl) ?_
    refine Eq.trans (ev_iadd (pc := 42) k_29_42 rfl) ?_
    refine Eq.trans (ev_vi (pc := 43) (as := [.int ((h1.1 15 4) + v2)]) (rest := []) k_29_43 rfl zo_15 rfl rfl (Nat.le_of_ble_eq_true rfl) (Nat.le_of_ble_eq_true rfl)) (z_cbi fun x2 h2 => ?_)
    refine Eq.trans (ev_aload_n (pc := 46) (x := a1) k_29_46 rfl rfl (z_n5 q1)) ?_
    refine Eq.trans (ev_iload_n (pc := 47) k_29_47 rfl rfl) ?_
    refine Eq.trans (ev_vs (pc := 48) (as := [.int v2]) (rest := [.int x2]) k_29_48 rfl q1 rfl rfl (Nat.le_of_ble_eq_true rfl) (Nat.le_of_ble_eq_true rfl)) (z_cbi fun x3 h3 => ?_)
    refine Eq.trans (ev_iceq (pc := 51) k_29_51.1 rfl k_29_51.2) (z_ite ?_ ?_)
    · refine Eq.trans (ev_iinc (pc := 56) (v := 1) (lv' := [some (.ref 15), some (.ref a1), some (.int (v2 + 1))]) k_29_56 rfl rfl (by decide) rfl) ?_
      refine Eq.trans (ev_goto (pc := 59) k_29_59.1 rfl k_29_59.2) ?_
      exact ev_mk kd_29_28 rfl
    · refine Eq.trans (ev_iconst (pc := 54) (v := 0) k_29_54 rfl (by decide)) ?_
      exact ev_ret_b1 k_29_55 rfl rt_29 (by decide)
  · refine Eq.trans (ev_iconst (pc := 62) (v := 1) k_29_62 rfl (by decide)) ?_
    exact ev_ret_b1 k_29_63 rfl rt_29 (by decide)

set_option maxRecDepth 100000 in
theorem E_Rd_readHats (sc : zSc) (d : Nat) (h : zHp)  : zRun sc (d + 1) 37 [.ref 15] zGL h = (if (h.1 15 2) = 0 then (zBv (zRun sc d 24 [.ref 15] zGL (zPI h 15 2 1)) zGL fun h1 => (zBi (zRun sc d 40 [.ref 15, .int 2, .int 99] zGL h1) zGL fun x2 h2 => (zBv (zRun sc d 41 [.ref 15] zGL h2) zGL fun h3 => (if (h3.1 15 7) = 0 then (zOT (h3.2.2 15 1) fun t4 ht4 => some (none, zGL, zPI h3 t4 2 x2)) else some (none, zGL, h3))))) else (zBv (zRun sc d 38 [.ref 15, .int 3] zGL h) zGL fun h5 => some (none, zGL, h5))) := by
  have he : zEnt 37 [.ref 15] = [some (.ref 15), none] := by unfold zEnt; rw [ml_37]; rfl
  unfold zRun
  rw [he]
  refine Eq.trans (ev_aload_n (pc := 0) (x := 15) k_37_0 rfl rfl (by decide)) ?_
  refine Eq.trans (ev_getZ (pc := 1) k_37_1 rfl zo_15.1) ?_
  refine Eq.trans (ev_ifeq (pc := 4) k_37_4.1 rfl k_37_4.2) (z_ite ?_ ?_)
  · refine Eq.trans (ev_aload_n (pc := 13) (x := 15) k_37_13 rfl rfl (by decide)) ?_
    refine Eq.trans (ev_iconst (pc := 14) (v := 1) k_37_14 rfl (by decide)) ?_
    refine Eq.trans (ev_putZ (pc := 15) k_37_15 rfl zo_15.1 (by decide)) ?_
    refine Eq.trans (ev_aload_n (pc := 18) (x := 15) k_37_18 rfl rfl (by decide)) ?_
    refine Eq.trans (ev_vv (pc := 19) (as := []) (rest := []) k_37_19 rfl zo_15 rfl rfl (Nat.le_of_ble_eq_true rfl) (Nat.le_of_ble_eq_true rfl)) (z_cbv fun h1 => ?_)
    refine Eq.trans (ev_aload_n (pc := 22) (x := 15) k_37_22 rfl rfl (by decide)) ?_
    refine Eq.trans (ev_iconst (pc := 23) (v := 2) k_37_23 rfl (by decide)) ?_
    refine Eq.trans (ev_bipush (pc := 24) (v := 99) k_37_24 rfl (by decide)) ?_
    refine Eq.trans (ev_vi (pc := 26) (as := [.int 2, .int 99]) (rest := []) k_37_26 rfl zo_15 rfl rfl (Nat.le_of_ble_eq_true rfl) (Nat.le_of_ble_eq_true rfl)) (z_cbi fun x2 h2 => ?_)
    refine Eq.trans (ev_istore_n (pc := 29) (lv' := [some (.ref 15), some (.int x2)]) k_37_29 rfl (Nat.le_of_ble_eq_true rfl) rfl) ?_
    refine Eq.trans (ev_aload_n (pc := 30) (x := 15) k_37_30 rfl rfl (by decide)) ?_
    refine Eq.trans (ev_vv (pc := 31) (as := []) (rest := []) k_37_31 rfl zo_15 rfl rfl (Nat.le_of_ble_eq_true rfl) (Nat.le_of_ble_eq_true rfl)) (z_cbv fun h3 => ?_)
    refine Eq.trans (ev_aload_n (pc := 34) (x := 15) k_37_34 rfl rfl (by decide)) ?_
    refine Eq.trans (ev_getI (pc := 35) k_37_35 rfl zo_15.1) ?_
    refine Eq.trans (ev_ifne (pc := 38) k_37_38.1 rfl k_37_38.2) (z_ite ?_ ?_)
    · refine Eq.trans (ev_aload_n (pc := 41) (x := 15) k_37_41 rfl rfl (by decide)) ?_
      refine Eq.trans (ev_getT (pc := 42) k_37_42 rfl zo_15.1) (z_cot fun t4 ht4 => ?_)
      refine Eq.trans (ev_iload_n (pc := 45) k_37_45 rfl rfl) ?_
      refine Eq.trans (ev_putI (pc := 46) k_37_46 rfl (zTw_6 ht4).1.1) ?_
      refine Eq.trans (ev_mk (pc := 49) (lv' := [none, none]) kd_37_49 rfl) ?_
      exact ev_ret_void k_37_49 rfl rt_37
    · refine Eq.trans (ev_mk (pc := 49) (lv' := [none, none]) kd_37_49 rfl) ?_
      exact ev_ret_void k_37_49 rfl rt_37
  · refine Eq.trans (ev_aload_n (pc := 7) (x := 15) k_37_7 rfl rfl (by decide)) ?_
    refine Eq.trans (ev_iconst (pc := 8) (v := 3) k_37_8 rfl (by decide)) ?_
    refine Eq.trans (ev_vv (pc := 9) (as := [.int 3]) (rest := []) k_37_9 rfl zo_15 rfl rfl (Nat.le_of_ble_eq_true rfl) (Nat.le_of_ble_eq_true rfl)) (z_cbv fun h5 => ?_)
    exact ev_ret_void k_37_12 rfl rt_37

set_option maxRecDepth 100000 in
theorem E_Rd_fail (sc : zSc) (d : Nat) (h : zHp) (v1 : Int32) : zRun sc (d + 1) 38 [.ref 15, .int v1] zGL h = (zBv (zRun sc d 39 [.ref 15, .int v1, .int (h.1 15 4)] zGL h) zGL fun h1 => some (none, zGL, h1)) := by
  have he : zEnt 38 [.ref 15, .int v1] = [some (.ref 15), some (.int v1)] := by unfold zEnt; rw [ml_38]; rfl
  unfold zRun
  rw [he]
  refine Eq.trans (ev_aload_n (pc := 0) (x := 15) k_38_0 rfl rfl (by decide)) ?_
  refine Eq.trans (ev_iload_n (pc := 1) k_38_1 rfl rfl) ?_
  refine Eq.trans (ev_aload_n (pc := 2) (x := 15) k_38_2 rfl rfl (by decide)) ?_
  refine Eq.trans (ev_getI (pc := 3) k_38_3 rfl zo_15.1) ?_
  refine Eq.trans (ev_vv (pc := 6) (as := [.int v1, .int (h.1 15 4)]) (rest := []) k_38_6 rfl zo_15 rfl rfl (Nat.le_of_ble_eq_true rfl) (Nat.le_of_ble_eq_true rfl)) (z_cbv fun h1 => ?_)
  exact ev_ret_void k_38_9 rfl rt_38

set_option maxRecDepth 100000 in
theorem E_Rd_failAt (sc : zSc) (d : Nat) (h : zHp) (v1 : Int32) (v2 : Int32) : zRun sc d 39 [.ref 15, .int v1, .int v2] zGL h = (if (h.1 15 7) = 0 then some (none, zGL, zPI (zPI h 15 7 v1) 15 8 v2) else some (none, zGL, h)) := by
  have he : zEnt 39 [.ref 15, .int v1, .int v2] = [some (.ref 15), some (.int v1), some (.int v2)] := by unfold zEnt; rw [ml_39]; rfl
  unfold zRun
  rw [he]
  refine Eq.trans (ev_aload_n (pc := 0) (x := 15) k_39_0 rfl rfl (by decide)) ?_
  refine Eq.trans (ev_getI (pc := 1) k_39_1 rfl zo_15.1) ?_
  refine Eq.trans (ev_ifne (pc := 4) k_39_4.1 rfl k_39_4.2) (z_ite ?_ ?_)
  · refine Eq.trans (ev_aload_n (pc := 7) (x := 15) k_39_7 rfl rfl (by decide)) ?_
    refine Eq.trans (ev_iload_n (pc := 8) k_39_8 rfl rfl) ?_
    refine Eq.trans (ev_putI (pc := 9) k_39_9 rfl zo_15.1) ?_
    refine Eq.trans (ev_aload_n (pc := 12) (x := 15) k_39_12 rfl rfl (by decide)) ?_
    refine Eq.trans (ev_iload_n (pc := 13) k_39_13 rfl rfl) ?_
    refine Eq.trans (ev_putI (pc := 14) k_39_14 rfl zo_15.1) ?_
    refine Eq.trans (ev_mk (pc := 17) (lv' := [none, none, none]) kd_39_17 rfl) ?_
    exact ev_ret_void k_39_17 rfl rt_39
  · refine Eq.trans (ev_mk (pc := 17) (lv' := [none, none, none]) kd_39_17 rfl) ?_
    exact ev_ret_void k_39_17 rfl rt_39

set_option maxRecDepth 100000 in
theorem E_Rd_readNumber (sc : zSc) (d : Nat) (h : zHp) (v1 : Int32) (v2 : Int32) : zRun sc (d + 1) 40 [.ref 15, .int v1, .int v2] zGL h = (if (h.1 15 3) = (2 : Int32) then (if (3 : Int32) < ((h.1 15 5) - (h.1 15 4)) then zE sc (d + 1) 40 44 [some (.ref 15), none, none, some (.int (h.1 15 6))] [] zGL h else (if (h.1 15 6) < v1 then zE sc (d + 1) 40 44 [some (.ref 15), none, none, some (.int (h.1 15 6))] [] zGL h else (if v2 < (h.1 15 6) then zE sc (d + 1) 40 44 [some (.ref 15), none, none, some (.int (h.1 15 6))] [] zGL h else (zBv (zRun sc d 24 [.ref 15] zGL h) zGL fun h1 => some (some (.int (h.1 15 6)), zGL, h1))))) else (zBv (zRun sc d 38 [.ref 15, .int 1] zGL h) zGL fun h2 => (zBv (zRun sc d 24 [.ref 15] zGL h2) zGL fun h3 => some (some (.int (h.1 15 6)), zGL, h3)))) := by
  have he : zEnt 40 [.ref 15, .int v1, .int v2] = [some (.ref 15), some (.int v1), some (.int v2), none] := by unfold zEnt; rw [ml_40]; rfl
  unfold zRun
  rw [he]
  refine Eq.trans (ev_aload_n (pc := 0) (x := 15) k_40_0 rfl rfl (by decide)) ?_
  refine Eq.trans (ev_getI (pc := 1) k_40_1 rfl zo_15.1) ?_
  refine Eq.trans (ev_istore_n (pc := 4) (lv' := [some (.ref 15), some (.int v1), some (.int v2), some (.int (h.1 15 6))]) k_40_4 rfl (Nat.le_of_ble_eq_true rfl) rfl) ?_
  refine Eq.trans (ev_aload_n (pc := 5) (x := 15) k_40_5 rfl rfl (by decide)) ?_
  refine Eq.trans (ev_getI (pc := 6) k_40_6 rfl zo_15.1) ?_
  refine Eq.trans (ev_iconst (pc := 9) (v := 2) k_40_9 rfl (by decide)) ?_
  refine Eq.trans (ev_iceq (pc := 10) k_40_10.1 rfl k_40_10.2) (z_ite ?_ ?_)
  · refine Eq.trans (ev_aload_n (pc := 21) (x := 15) k_40_21 rfl rfl (by decide)) ?_
    refine Eq.trans (ev_getI (pc := 22) k_40_22 rfl zo_15.1) ?_
    refine Eq.trans (ev_aload_n (pc := 25) (x := 15) k_40_25 rfl rfl (by decide)) ?_
    refine Eq.trans (ev_getI (pc := 26) k_40_26 rfl zo_15.1) ?_
    refine Eq.trans (ev_isub (pc := 29) k_40_29 rfl) ?_
    refine Eq.trans (ev_iconst (pc := 30) (v := 3) k_40_30 rfl (by decide)) ?_
    refine Eq.trans (ev_icgt (pc := 31) k_40_31.1 rfl k_40_31.2) (z_ite ?_ ?_)
    · exact ev_mk kd_40_44 rfl
    · refine Eq.trans (ev_iload_n (pc := 34) k_40_34 rfl rfl) ?_
      refine Eq.trans (ev_iload_n (pc := 35) k_40_35 rfl rfl) ?_
      refine Eq.trans (ev_iclt (pc := 36) k_40_36.1 rfl k_40_36.2) (z_ite ?_ ?_)
      · exact ev_mk kd_40_44 rfl
      · refine Eq.trans (ev_iload_n (pc := 39) k_40_39 rfl rfl) ?_
        refine Eq.trans (ev_iload_n (pc := 40) k_40_40 rfl rfl) ?_
        refine Eq.trans (ev_icle (pc := 41) k_40_41.1 rfl k_40_41.2) (z_ite ?_ ?_)
        · exact ev_mk kd_40_44 rfl
        · refine Eq.trans (ev_mk (pc := 49) (lv' := [some (.ref 15), none, none, some (.int (h.1 15 6))]) kd_40_49 rfl) ?_
          refine Eq.trans (ev_aload_n (pc := 49) (x := 15) k_40_49 rfl rfl (by decide)) ?_
          refine Eq.trans (ev_vv (pc := 50) (as := []) (rest := []) k_40_50 rfl zo_15 rfl rfl (Nat.le_of_ble_eq_true rfl) (Nat.le_of_ble_eq_true rfl)) (z_cbv fun h1 => ?_)
          refine Eq.trans (ev_iload_n (pc := 53) k_40_53 rfl rfl) ?_
          exact ev_ret_int k_40_54 rfl rt_40
  · refine Eq.trans (ev_aload_n (pc := 13) (x := 15) k_40_13 rfl rfl (by decide)) ?_
    refine Eq.trans (ev_iconst (pc := 14) (v := 1) k_40_14 rfl (by decide)) ?_
    refine Eq.trans (ev_vv (pc := 15) (as := [.int 1]) (rest := []) k_40_15 rfl zo_15 rfl rfl (Nat.le_of_ble_eq_true rfl) (Nat.le_of_ble_eq_true rfl)) (z_cbv fun h2 => ?_)
    refine Eq.trans (ev_goto (pc := 18) k_40_18.1 rfl k_40_18.2) ?_
    refine Eq.trans (ev_mk (pc := 49) (lv' := [some (.ref 15), none, none, some (.int (h.1 15 6))]) kd_40_49 rfl) ?_
    refine Eq.trans (ev_aload_n (pc := 49) (x := 15) k_40_49 rfl rfl (by decide)) ?_
    refine Eq.trans (ev_vv (pc := 50) (as := []) (rest := []) k_40_50 rfl zo_15 rfl rfl (Nat.le_of_ble_eq_true rfl) (Nat.le_of_ble_eq_true rfl)) (z_cbv fun h3 => ?_)
    refine Eq.trans (ev_iload_n (pc := 53) k_40_53 rfl rfl) ?_
    exact ev_ret_int k_40_54 rfl rt_40

set_option maxRecDepth 100000 in
theorem E_Rd_readNumber_44 (sc : zSc) (d : Nat) (h : zHp) (v3 : Int32) : zE sc (d + 1) 40 44 [some (.ref 15), none, none, some (.int v3)] [] zGL h = (zBv (zRun sc d 38 [.ref 15, .int 2] zGL h) zGL fun h1 => (zBv (zRun sc d 24 [.ref 15] zGL h1) zGL fun h2 => some (some (.int v3), zGL, h2))) := by
  refine Eq.trans (ev_aload_n (pc := 44) (x := 15) k_40_44 rfl rfl (by decide)) ?_
  refine Eq.trans (ev_iconst (pc := 45) (v := 2) k_40_45 rfl (by decide)) ?_
  refine Eq.trans (ev_vv (pc := 46) (as := [.int 2]) (rest := []) k_40_46 rfl zo_15 rfl rfl (Nat.le_of_ble_eq_true rfl) (Nat.le_of_ble_eq_true rfl)) (z_cbv fun h1 => ?_)
  refine Eq.trans (ev_aload_n (pc := 49) (x := 15) k_40_49 rfl rfl (by decide)) ?_
  refine Eq.trans (ev_vv (pc := 50) (as := []) (rest := []) k_40_50 rfl zo_15 rfl rfl (Nat.le_of_ble_eq_true rfl) (Nat.le_of_ble_eq_true rfl)) (z_cbv fun h2 => ?_)
  refine Eq.trans (ev_iload_n (pc := 53) k_40_53 rfl rfl) ?_
  exact ev_ret_int k_40_54 rfl rt_40

set_option maxRecDepth 100000 in
theorem E_Rd_readEnd (sc : zSc) (d : Nat) (h : zHp)  : zRun sc (d + 1) 41 [.ref 15] zGL h = (zBi (zRun sc d 42 [.ref 15, .int 59] zGL h) zGL fun x1 h1 => (if x1 = 0 then (zBv (zRun sc d 38 [.ref 15, .int 1] zGL h1) zGL fun h2 => (zBv (zRun sc d 24 [.ref 15] zGL h2) zGL fun h3 => some (none, zGL, h3))) else (zBv (zRun sc d 24 [.ref 15] zGL h1) zGL fun h4 => some (none, zGL, h4)))) := by
  have he : zEnt 41 [.ref 15] = [some (.ref 15)] := by unfold zEnt; rw [ml_41]; rfl
  unfold zRun
  rw [he]
  refine Eq.trans (ev_aload_n (pc := 0) (x := 15) k_41_0 rfl rfl (by decide)) ?_
  refine Eq.trans (ev_bipush (pc := 1) (v := 59) k_41_1 rfl (by decide)) ?_
  refine Eq.trans (ev_vi (pc := 3) (as := [.int 59]) (rest := []) k_41_3 rfl zo_15 rfl rfl (Nat.le_of_ble_eq_true rfl) (Nat.le_of_ble_eq_true rfl)) (z_cbi fun x1 h1 => ?_)
  refine Eq.trans (ev_ifne (pc := 6) k_41_6.1 rfl k_41_6.2) (z_ite ?_ ?_)
  · refine Eq.trans (ev_aload_n (pc := 9) (x := 15) k_41_9 rfl rfl (by decide)) ?_
    refine Eq.trans (ev_iconst (pc := 10) (v := 1) k_41_10 rfl (by decide)) ?_
    refine Eq.trans (ev_vv (pc := 11) (as := [.int 1]) (rest := []) k_41_11 rfl zo_15 rfl rfl (Nat.le_of_ble_eq_true rfl) (Nat.le_of_ble_eq_true rfl)) (z_cbv fun h2 => ?_)
    refine Eq.trans (ev_aload_n (pc := 14) (x := 15) k_41_14 rfl rfl (by decide)) ?_
    refine Eq.trans (ev_vv (pc := 15) (as := []) (rest := []) k_41_15 rfl zo_15 rfl rfl (Nat.le_of_ble_eq_true rfl) (Nat.le_of_ble_eq_true rfl)) (z_cbv fun h3 => ?_)
    exact ev_ret_void k_41_18 rfl rt_41
  · refine Eq.trans (ev_aload_n (pc := 14) (x := 15) k_41_14 rfl rfl (by decide)) ?_
    refine Eq.trans (ev_vv (pc := 15) (as := []) (rest := []) k_41_15 rfl zo_15 rfl rfl (Nat.le_of_ble_eq_true rfl) (Nat.le_of_ble_eq_true rfl)) (z_cbv fun h4 => ?_)
    exact ev_ret_void k_41_18 rfl rt_41

set_option maxRecDepth 100000 in
theorem E_Rd_isSign (sc : zSc) (d : Nat) (h : zHp) (v1 : Int32) : zRun sc (d + 1) 42 [.ref 15, .int v1] zGL h = (if (h.1 15 3) = (3 : Int32) then (zBi (zRun sc d 25 [.ref 15, .int (h.1 15 4)] zGL h) zGL fun x1 h1 => (if x1 = v1 then some (some (.int 1), zGL, h1) else some (some (.int 0), zGL, h1))) else some (some (.int 0), zGL, h)) := by
  have he : zEnt 42 [.ref 15, .int v1] = [some (.ref 15), some (.int v1)] := by unfold zEnt; rw [ml_42]; rfl
  unfold zRun
  rw [he]
  refine Eq.trans (ev_aload_n (pc := 0) (x := 15) k_42_0 rfl rfl (by decide)) ?_
  refine Eq.trans (ev_getI (pc := 1) k_42_1 rfl zo_15.1) ?_
  refine Eq.trans (ev_iconst (pc := 4) (v := 3) k_42_4 rfl (by decide)) ?_
  refine Eq.trans (ev_icne (pc := 5) k_42_5.1 rfl k_42_5.2) (z_ite ?_ ?_)
  · refine Eq.trans (ev_aload_n (pc := 8) (x := 15) k_42_8 rfl rfl (by decide)) ?_
    refine Eq.trans (ev_aload_n (pc := 9) (x := 15) k_42_9 rfl rfl (by decide)) ?_
    refine Eq.trans (ev_getI (pc := 10) k_42_10 rfl zo_15.1) ?_
    refine Eq.trans (ev_vi (pc := 13) (as := [.int (h.1 15 4)]) (rest := []) k_42_13 rfl zo_15 rfl rfl (Nat.le_of_ble_eq_true rfl) (Nat.le_of_ble_eq_true rfl)) (z_cbi fun x1 h1 => ?_)
    refine Eq.trans (ev_iload_n (pc := 16) k_42_16 rfl rfl) ?_
    refine Eq.trans (ev_icne (pc := 17) k_42_17.1 rfl k_42_17.2) (z_ite ?_ ?_)
    · refine Eq.trans (ev_iconst (pc := 20) (v := 1) k_42_20 rfl (by decide)) ?_
      refine Eq.trans (ev_goto (pc := 21) k_42_21.1 rfl k_42_21.2) ?_
      refine Eq.trans (ev_mk (pc := 25) (lv' := [none, none]) kd_42_25 rfl) ?_
      exact ev_ret_b1 k_42_25 rfl rt_42 (by decide)
    · refine Eq.trans (ev_mk (pc := 24) (lv' := [none, none]) kd_42_24 rfl) ?_
      refine Eq.trans (ev_iconst (pc := 24) (v := 0) k_42_24 rfl (by decide)) ?_
      exact ev_ret_b1 k_42_25 rfl rt_42 (by decide)
  · refine Eq.trans (ev_mk (pc := 24) (lv' := [none, none]) kd_42_24 rfl) ?_
    refine Eq.trans (ev_iconst (pc := 24) (v := 0) k_42_24 rfl (by decide)) ?_
    exact ev_ret_b1 k_42_25 rfl rt_42 (by decide)

set_option maxRecDepth 100000 in
theorem E_Rd_readFact (sc : zSc) (d : Nat) (h : zHp)  : zRun sc (d + 1) 43 [.ref 15] zGL h = (zOT (h.2.2 15 1) fun t1 ht1 => (if 0 < (h.1 t1 1) then (zBv (zRun sc d 38 [.ref 15, .int 1] zGL h) zGL fun h2 => zE sc (d + 1) 43 35 [some (.ref 15), none, none] [] zGL h2) else (zOT (h.2.2 15 1) fun t3 ht3 => (if (h.1 t3 0) = (6 : Int32) then (zBv (zRun sc d 38 [.ref 15, .int 3] zGL h) zGL fun h4 => zE sc (d + 1) 43 35 [some (.ref 15), none, none] [] zGL h4) else zE sc (d + 1) 43 35 [some (.ref 15), none, none] [] zGL h)))) := by
  have he : zEnt 43 [.ref 15] = [some (.ref 15), none, none] := by unfold zEnt; rw [ml_43]; rfl
  unfold zRun
  rw [he]
  refine Eq.trans (ev_aload_n (pc := 0) (x := 15) k_43_0 rfl rfl (by decide)) ?_
  refine Eq.trans (ev_getT (pc := 1) k_43_1 rfl zo_15.1) (z_cot fun t1 ht1 => ?_)
  refine Eq.trans (ev_getI (pc := 4) k_43_4 rfl (zTw_6 ht1).1.1) ?_
  refine Eq.trans (ev_ifle (pc := 7) k_43_7.1 rfl k_43_7.2) (z_ite ?_ ?_)
  · refine Eq.trans (ev_aload_n (pc := 10) (x := 15) k_43_10 rfl rfl (by decide)) ?_
    refine Eq.trans (ev_iconst (pc := 11) (v := 1) k_43_11 rfl (by decide)) ?_
    refine Eq.trans (ev_vv (pc := 12) (as := [.int 1]) (rest := []) k_43_12 rfl zo_15 rfl rfl (Nat.le_of_ble_eq_true rfl) (Nat.le_of_ble_eq_true rfl)) (z_cbv fun h2 => ?_)
    refine Eq.trans (ev_goto (pc := 15) k_43_15.1 rfl k_43_15.2) ?_
    exact ev_mk kd_43_35 rfl
  · refine Eq.trans (ev_aload_n (pc := 18) (x := 15) k_43_18 rfl rfl (by decide)) ?_
    refine Eq.trans (ev_getT (pc := 19) k_43_19 rfl zo_15.1) (z_cot fun t3 ht3 => ?_)
    refine Eq.trans (ev_getI (pc := 22) k_43_22 rfl (zTw_6 ht3).1.1) ?_
    refine Eq.trans (ev_bipush (pc := 25) (v := 6) k_43_25 rfl (by decide)) ?_
    refine Eq.trans (ev_icne (pc := 27) k_43_27.1 rfl k_43_27.2) (z_ite ?_ ?_)
    · refine Eq.trans (ev_aload_n (pc := 30) (x := 15) k_43_30 rfl rfl (by decide)) ?_
      refine Eq.trans (ev_iconst (pc := 31) (v := 3) k_43_31 rfl (by decide)) ?_
      refine Eq.trans (ev_vv (pc := 32) (as := [.int 3]) (rest := []) k_43_32 rfl zo_15 rfl rfl (Nat.le_of_ble_eq_true rfl) (Nat.le_of_ble_eq_true rfl)) (z_cbv fun h4 => ?_)
      exact ev_mk kd_43_35 rfl
    · exact ev_mk kd_43_35 rfl

set_option maxRecDepth 100000 in
theorem E_Rd_readFact_35 (sc : zSc) (d : Nat) (h : zHp)  : zE sc (d + 1) 43 35 [some (.ref 15), none, none] [] zGL h = (zBv (zRun sc d 24 [.ref 15] zGL h) zGL fun h1 => (zBi (zRun sc d 40 [.ref 15, .int 1, .int 99] zGL h1) zGL fun x2 h2 => (zBi (zRun sc d 29 [.ref 15, .ref 1002] zGL h2) zGL fun x3 h3 => (if x3 = 0 then zE sc (d + 1) 43 64 [some (.ref 15), some (.int x2), none] [.int 0] zGL h3 else (zBi (zRun sc d 44 [.ref 15] zGL h3) zGL fun x4 h4 => zE sc (d + 1) 43 64 [some (.ref 15), some (.int x2), none] [.int x4] zGL h4))))) := by
  refine Eq.trans (ev_aload_n (pc := 35) (x := 15) k_43_35 rfl rfl (by decide)) ?_
  refine Eq.trans (ev_vv (pc := 36) (as := []) (rest := []) k_43_36 rfl zo_15 rfl rfl (Nat.le_of_ble_eq_true rfl) (Nat.le_of_ble_eq_true rfl)) (z_cbv fun h1 => ?_)
  refine Eq.trans (ev_aload_n (pc := 39) (x := 15) k_43_39 rfl rfl (by decide)) ?_
  refine Eq.trans (ev_iconst (pc := 40) (v := 1) k_43_40 rfl (by decide)) ?_
  refine Eq.trans (ev_bipush (pc := 41) (v := 99) k_43_41 rfl (by decide)) ?_
  refine Eq.trans (ev_vi (pc := 43) (as := [.int 1, .int 99]) (rest := []) k_43_43 rfl zo_15 rfl rfl (Nat.le_of_ble_eq_true rfl) (Nat.le_of_ble_eq_true rfl)) (z_cbi fun x2 h2 => ?_)
  refine Eq.trans (ev_istore_n (pc := 46) (lv' := [some (.ref 15), some (.int x2), none]) k_43_46 rfl (Nat.le_of_ble_eq_true rfl) rfl) ?_
  refine Eq.trans (ev_aload_n (pc := 47) (x := 15) k_43_47 rfl rfl (by decide)) ?_
  refine Eq.trans (ev_ldcS (pc := 48) k_43_48 rfl) ?_
  refine Eq.trans (ev_vi (pc := 50) (as := [.ref 1002]) (rest := []) k_43_50 rfl zo_15 rfl rfl (Nat.le_of_ble_eq_true rfl) (Nat.le_of_ble_eq_true rfl)) (z_cbi fun x3 h3 => ?_)
  refine Eq.trans (ev_ifeq (pc := 53) k_43_53.1 rfl k_43_53.2) (z_ite ?_ ?_)
  · refine Eq.trans (ev_iconst (pc := 63) (v := 0) k_43_63 rfl (by decide)) ?_
    exact ev_mk kd_43_64 rfl
  · refine Eq.trans (ev_aload_n (pc := 56) (x := 15) k_43_56 rfl rfl (by decide)) ?_
    refine Eq.trans (ev_vi (pc := 57) (as := []) (rest := []) k_43_57 rfl zo_15 rfl rfl (Nat.le_of_ble_eq_true rfl) (Nat.le_of_ble_eq_true rfl)) (z_cbi fun x4 h4 => ?_)
    refine Eq.trans (ev_goto (pc := 60) k_43_60.1 rfl k_43_60.2) ?_
    exact ev_mk kd_43_64 rfl

set_option maxRecDepth 100000 in
theorem E_Rd_readFact_64 (sc : zSc) (d : Nat) (h : zHp) (v1 : Int32) (s0 : Int32) : zE sc (d + 1) 43 64 [some (.ref 15), some (.int v1), none] [.int s0] zGL h = (zBv (zRun sc d 41 [.ref 15] zGL h) zGL fun h1 => (if (h1.1 15 7) = 0 then (zOT (h1.2.2 15 1) fun t2 ht2 => (zBv (zRun sc d 45 [.ref t2, .int v1, .int s0] zGL h1) zGL fun h3 => some (none, zGL, h3))) else some (none, zGL, h1))) := by
  refine Eq.trans (ev_istore_n (pc := 64) (lv' := [some (.ref 15), some (.int v1), some (.int s0)]) k_43_64 rfl (Nat.le_of_ble_eq_true rfl) rfl) ?_
  refine Eq.trans (ev_aload_n (pc := 65) (x := 15) k_43_65 rfl rfl (by decide)) ?_
  refine Eq.trans (ev_vv (pc := 66) (as := []) (rest := []) k_43_66 rfl zo_15 rfl rfl (Nat.le_of_ble_eq_true rfl) (Nat.le_of_ble_eq_true rfl)) (z_cbv fun h1 => ?_)
  refine Eq.trans (ev_aload_n (pc := 69) (x := 15) k_43_69 rfl rfl (by decide)) ?_
  refine Eq.trans (ev_getI (pc := 70) k_43_70 rfl zo_15.1) ?_
  refine Eq.trans (ev_ifne (pc := 73) k_43_73.1 rfl k_43_73.2) (z_ite ?_ ?_)
  · refine Eq.trans (ev_aload_n (pc := 76) (x := 15) k_43_76 rfl rfl (by decide)) ?_
    refine Eq.trans (ev_getT (pc := 77) k_43_77 rfl zo_15.1) (z_cot fun t2 ht2 => ?_)
    refine Eq.trans (ev_iload_n (pc := 80) k_43_80 rfl rfl) ?_
    refine Eq.trans (ev_iload_n (pc := 81) k_43_81 rfl rfl) ?_
    refine Eq.trans (ev_vv (pc := 82) (as := [.int v1, .int s0]) (rest := []) k_43_82 rfl (zTw_6 ht2).1 rfl rfl (Nat.le_of_ble_eq_true rfl) (Nat.le_of_ble_eq_true rfl)) (z_cbv fun h3 => ?_)
    refine Eq.trans (ev_mk (pc := 85) (lv' := [none, none, none]) kd_43_85 rfl) ?_
    exact ev_ret_void k_43_85 rfl rt_43
  · refine Eq.trans (ev_mk (pc := 85) (lv' := [none, none, none]) kd_43_85 rfl) ?_
    exact ev_ret_void k_43_85 rfl rt_43

set_option maxRecDepth 100000 in
theorem E_Rd_readList (sc : zSc) (d : Nat) (h : zHp)  : zRun sc (d + 1) 44 [.ref 15] zGL h = zE sc (d + 1) 44 6 [some (.ref 15), some (.int 0), some (.int 1), some (.int 0), none, none] [] zGL h := by
  have he : zEnt 44 [.ref 15] = [some (.ref 15), none, none, none, none, none] := by unfold zEnt; rw [ml_44]; rfl
  unfold zRun
  rw [he]
  refine Eq.trans (ev_iconst (pc := 0) (v := 0) k_44_0 rfl (by decide)) ?_
  refine Eq.trans (ev_istore_n (pc := 1) (lv' := [some (.ref 15), some (.int 0), none, none, none, none]) k_44_1 rfl (Nat.le_of_ble_eq_true rfl) rfl) ?_
  refine Eq.trans (ev_iconst (pc := 2) (v := 1) k_44_2 rfl (by decide)) ?_
  refine Eq.trans (ev_istore_n (pc := 3) (lv' := [some (.ref 15), some (.int 0), some (.int 1), none, none, none]) k_44_3 rfl (Nat.le_of_ble_eq_true rfl) rfl) ?_
  refine Eq.trans (ev_iconst (pc := 4) (v := 0) k_44_4 rfl (by decide)) ?_
  refine Eq.trans (ev_istore_n (pc := 5) (lv' := [some (.ref 15), some (.int 0), some (.int 1), some (.int 0), none, none]) k_44_5 rfl (Nat.le_of_ble_eq_true rfl) rfl) ?_
  exact ev_mk kd_44_6 rfl

set_option maxRecDepth 100000 in
theorem E_Rd_readList_6 (sc : zSc) (d : Nat) (h : zHp) (v1 : Int32) (v2 : Int32) (v3 : Int32) : zE sc (d + 1) 44 6 [some (.ref 15), some (.int v1), some (.int v2), some (.int v3), none, none] [] zGL h = (if v2 = 0 then some (some (.int v1), zGL, h) else (if (6 : Int32) < v3 then some (some (.int v1), zGL, h) else (zBv (zRun sc d 24 [.ref 15] zGL h) zGL fun h1 => (zOT (h1.2.2 15 1) fun t2 ht2 => (zBi (zRun sc d 40 [.ref 15, .int 0, .int ((h1.1 t2 0) - (1 : Int32))] zGL h1) zGL fun x3 h3 => (if (h3.1 15 7) = 0 then (zBi (zRun sc d 11 [.int v1, .int x3] zGL h3) zGL fun x4 h4 => (if x4 = 0 then zE sc (d + 1) 44 65 [some (.ref 15), some (.int v1), none, some (.int v3), none, some (.int x3)] [] zGL h4 else (zBv (zRun sc d 39 [.ref 15, .int 4, .int (h1.1 15 4)] zGL h4) zGL fun h5 => zE sc (d + 1) 44 65 [some (.ref 15), some (.int v1), none, some (.int v3), none, some (.int x3)] [] zGL h5))) else zE sc (d + 1) 44 65 [some (.ref 15), some (.int v1), none, some (.int v3), none, some (.int x3)] [] zGL h3)))))) := by
  refine Eq.trans (ev_iload_n (pc := 6) k_44_6 rfl rfl) ?_
  refine Eq.trans (ev_ifeq (pc := 7) k_44_7.1 rfl k_44_7.2) (z_ite ?_ ?_)
  · refine Eq.trans (ev_mk (pc := 111) (lv' := [none, some (.int v1), none, none, none, none]) kd_44_111 rfl) ?_
    refine Eq.trans (ev_iload_n (pc := 111) k_44_111 rfl rfl) ?_
    exact ev_ret_int k_44_112 rfl rt_44
  · refine Eq.trans (ev_iload_n (pc := 10) k_44_10 rfl rfl) ?_
    refine Eq.trans (ev_bipush (pc := 11) (v := 6) k_44_11 rfl (by decide)) ?_
    refine Eq.trans (ev_icgt (pc := 13) k_44_13.1 rfl k_44_13.2) (z_ite ?_ ?_)
    · refine Eq.trans (ev_mk (pc := 111) (lv' := [none, some (.int v1), none, none, none, none]) kd_44_111 rfl) ?_
      refine Eq.trans (ev_iload_n (pc := 111) k_44_111 rfl rfl) ?_
      exact ev_ret_int k_44_112 rfl rt_44
    · refine Eq.trans (ev_aload_n (pc := 16) (x := 15) k_44_16 rfl rfl (by decide)) ?_
      refine Eq.trans (ev_vv (pc := 17) (as := []) (rest := []) k_44_17 rfl zo_15 rfl rfl (Nat.le_of_ble_eq_true rfl) (Nat.le_of_ble_eq_true rfl)) (z_cbv fun h1 => ?_)
      refine Eq.trans (ev_aload_n (pc := 20) (x := 15) k_44_20 rfl rfl (by decide)) ?_
      refine Eq.trans (ev_getI (pc := 21) k_44_21 rfl zo_15.1) ?_
      refine Eq.trans (ev_istore (pc := 24) (lv' := [some (.ref 15), some (.int v1), some (.int v2), some (.int v3), some (.int (h1.1 15 4)), none]) k_44_24 rfl (Nat.le_of_ble_eq_true rfl) rfl) ?_
      refine Eq.trans (ev_aload_n (pc := 26) (x := 15) k_44_26 rfl rfl (by decide)) ?_
      refine Eq.trans (ev_iconst (pc := 27) (v := 0) k_44_27 rfl (by decide)) ?_
      refine Eq.trans (ev_aload_n (pc := 28) (x := 15) k_44_28 rfl rfl (by decide)) ?_
      refine Eq.trans (ev_getT (pc := 29) k_44_29 rfl zo_15.1) (z_cot fun t2 ht2 => ?_)
      refine Eq.trans (ev_getI (pc := 32) k_44_32 rfl (zTw_6 ht2).1.1) ?_
      refine Eq.trans (ev_iconst (pc := 35) (v := 1) k_44_35 rfl (by decide)) ?_
      refine Eq.trans (ev_isub (pc := 36) k_44_36 rfl) ?_
      refine Eq.trans (ev_vi (pc := 37) (as := [.int 0, .int ((h1.1 t2 0) - (1 : Int32))]) (rest := []) k_44_37 rfl zo_15 rfl rfl (Nat.le_of_ble_eq_true rfl) (Nat.le_of_ble_eq_true rfl)) (z_cbi fun x3 h3 => ?_)
      refine Eq.trans (ev_istore (pc := 40) (lv' := [some (.ref 15), some (.int v1), some (.int v2), some (.int v3), some (.int (h1.1 15 4)), some (.int x3)]) k_44_40 rfl (Nat.le_of_ble_eq_true rfl) rfl) ?_
      refine Eq.trans (ev_aload_n (pc := 42) (x := 15) k_44_42 rfl rfl (by decide)) ?_
      refine Eq.trans (ev_getI (pc := 43) k_44_43 rfl zo_15.1) ?_
      refine Eq.trans (ev_ifne (pc := 46) k_44_46.1 rfl k_44_46.2) (z_ite ?_ ?_)
      · refine Eq.trans (ev_iload_n (pc := 49) k_44_49 rfl rfl) ?_
        refine Eq.trans (ev_iload (pc := 50) k_44_50 rfl rfl) ?_
        refine Eq.trans (ev_si (pc := 52) (as := [.int v1, .int x3]) (rest := []) k_44_52 rfl rfl rfl (Nat.le_of_ble_eq_true rfl) (Nat.le_of_ble_eq_true rfl)) (z_cbi fun x4 h4 => ?_)
        refine Eq.trans (ev_ifeq (pc := 55) k_44_55.1 rfl k_44_55.2) (z_ite ?_ ?_)
        · exact ev_mk kd_44_65 rfl
        · refine Eq.trans (ev_aload_n (pc := 58) (x := 15) k_44_58 rfl rfl (by decide)) ?_
          refine Eq.trans (ev_iconst (pc := 59) (v := 4) k_44_59 rfl (by decide)) ?_
          refine Eq.trans (ev_iload (pc := 60) k_44_60 rfl rfl) ?_
          refine Eq.trans (ev_vv (pc := 62) (as := [.int 4, .int (h1.1 15 4)]) (rest := []) k_44_62 rfl zo_15 rfl rfl (Nat.le_of_ble_eq_true rfl) (Nat.le_of_ble_eq_true rfl)) (z_cbv fun h5 => ?_)
          exact ev_mk kd_44_65 rfl
      · exact ev_mk kd_44_65 rfl

set_option maxRecDepth 100000 in
theorem E_Rd_readList_65 (sc : zSc) (d : Nat) (h : zHp) (v1 : Int32) (v3 : Int32) (v5 : Int32) : zE sc (d + 1) 44 65 [some (.ref 15), some (.int v1), none, some (.int v3), none, some (.int v5)] [] zGL h = (if (h.1 15 7) = 0 then (zBi (zRun sc d 42 [.ref 15, .int 44] zGL h) zGL fun x1 h1 => (if x1 = 0 then zE sc (d + 1) 44 85 [some (.ref 15), some (.int v1), none, some (.int v3), none, some (.int v5)] [] zGL h1 else zE sc (d + 1) 44 86 [some (.ref 15), some (.int v1), none, some (.int v3), none, some (.int v5)] [.int 1] zGL h1)) else zE sc (d + 1) 44 85 [some (.ref 15), some (.int v1), none, some (.int v3), none, some (.int v5)] [] zGL h) := by
  refine Eq.trans (ev_aload_n (pc := 65) (x := 15) k_44_65 rfl rfl (by decide)) ?_
  refine Eq.trans (ev_getI (pc := 66) k_44_66 rfl zo_15.1) ?_
  refine Eq.trans (ev_ifne (pc := 69) k_44_69.1 rfl k_44_69.2) (z_ite ?_ ?_)
  · refine Eq.trans (ev_aload_n (pc := 72) (x := 15) k_44_72 rfl rfl (by decide)) ?_
    refine Eq.trans (ev_bipush (pc := 73) (v := 44) k_44_73 rfl (by decide)) ?_
    refine Eq.trans (ev_vi (pc := 75) (as := [.int 44]) (rest := []) k_44_75 rfl zo_15 rfl rfl (Nat.le_of_ble_eq_true rfl) (Nat.le_of_ble_eq_true rfl)) (z_cbi fun x1 h1 => ?_)
    refine Eq.trans (ev_ifeq (pc := 78) k_44_78.1 rfl k_44_78.2) (z_ite ?_ ?_)
    · exact ev_mk kd_44_85 rfl
    · refine Eq.trans (ev_iconst (pc := 81) (v := 1) k_44_81 rfl (by decide)) ?_
      refine Eq.trans (ev_goto (pc := 82) k_44_82.1 rfl k_44_82.2) ?_
      exact ev_mk kd_44_86 rfl
  · exact ev_mk kd_44_85 rfl

set_option maxRecDepth 100000 in
theorem E_Rd_readList_85 (sc : zSc) (d : Nat) (h : zHp) (v1 : Int32) (v3 : Int32) (v5 : Int32) : zE sc (d + 1) 44 85 [some (.ref 15), some (.int v1), none, some (.int v3), none, some (.int v5)] [] zGL h = zE sc (d + 1) 44 86 [some (.ref 15), some (.int v1), none, some (.int v3), none, some (.int v5)] [.int 0] zGL h := by
  refine Eq.trans (ev_iconst (pc := 85) (v := 0) k_44_85 rfl (by decide)) ?_
  exact ev_mk kd_44_86 rfl

set_option maxRecDepth 100000 in
theorem E_Rd_readList_86 (sc : zSc) (d : Nat) (h : zHp) (v1 : Int32) (v3 : Int32) (v5 : Int32) (s0 : Int32) : zE sc (d + 1) 44 86 [some (.ref 15), some (.int v1), none, some (.int v3), none, some (.int v5)] [.int s0] zGL h = (if (h.1 15 7) = 0 then zE sc (d + 1) 44 6 [some (.ref 15), some (.int (v1 ||| ((1 : Int32) <<< (v5 &&& 31)))), some (.int s0), some (.int (v3 + 1)), none, none] [] zGL h else zE sc (d + 1) 44 6 [some (.ref 15), some (.int (v1 ||| (0 : Int32))), some (.int s0), some (.int (v3 + 1)), none, none] [] zGL h) := by
  refine Eq.trans (ev_istore_n (pc := 86) (lv' := [some (.ref 15), some (.int v1), some (.int s0), some (.int v3), none, some (.int v5)]) k_44_86 rfl (Nat.le_of_ble_eq_true rfl) rfl) ?_
  refine Eq.trans (ev_iload_n (pc := 87) k_44_87 rfl rfl) ?_
  refine Eq.trans (ev_aload_n (pc := 88) (x := 15) k_44_88 rfl rfl (by decide)) ?_
  refine Eq.trans (ev_getI (pc := 89) k_44_89 rfl zo_15.1) ?_
  refine Eq.trans (ev_ifne (pc := 92) k_44_92.1 rfl k_44_92.2) (z_ite ?_ ?_)
  · refine Eq.trans (ev_iconst (pc := 95) (v := 1) k_44_95 rfl (by decide)) ?_
    refine Eq.trans (ev_iload (pc := 96) k_44_96 rfl rfl) ?_
    refine Eq.trans (ev_ishl (pc := 98) k_44_98 rfl) ?_
    refine Eq.trans (ev_goto (pc := 99) k_44_99.1 rfl k_44_99.2) ?_
    refine Eq.trans (ev_mk (pc := 103) (lv' := [some (.ref 15), none, some (.int s0), some (.int v3), none, none]) kd_44_103 rfl) ?_
    refine Eq.trans (ev_ior (pc := 103) k_44_103 rfl) ?_
    refine Eq.trans (ev_istore_n (pc := 104) (lv' := [some (.ref 15), some (.int (v1 ||| ((1 : Int32) <<< (v5 &&& 31)))), some (.int s0), some (.int v3), none, none]) k_44_104 rfl (Nat.le_of_ble_eq_true rfl) rfl) ?_
    refine Eq.trans (ev_iinc (pc := 105) (v := 1) (lv' := [some (.ref 15), some (.int (v1 ||| ((1 : Int32) <<< (v5 &&& 31)))), some (.int s0), some (.int (v3 + 1)), none, none]) k_44_105 rfl rfl (by decide) rfl) ?_
    refine Eq.trans (ev_goto (pc := 108) k_44_108.1 rfl k_44_108.2) ?_
    exact ev_mk kd_44_6 rfl
  · refine Eq.trans (ev_iconst (pc := 102) (v := 0) k_44_102 rfl (by decide)) ?_
    refine Eq.trans (ev_mk (pc := 103) (lv' := [some (.ref 15), none, some (.int s0), some (.int v3), none, none]) kd_44_103 rfl) ?_
    refine Eq.trans (ev_ior (pc := 103) k_44_103 rfl) ?_
    refine Eq.trans (ev_istore_n (pc := 104) (lv' := [some (.ref 15), some (.int (v1 ||| (0 : Int32))), some (.int s0), some (.int v3), none, none]) k_44_104 rfl (Nat.le_of_ble_eq_true rfl) rfl) ?_
    refine Eq.trans (ev_iinc (pc := 105) (v := 1) (lv' := [some (.ref 15), some (.int (v1 ||| (0 : Int32))), some (.int s0), some (.int (v3 + 1)), none, none]) k_44_105 rfl rfl (by decide) rfl) ?_
    refine Eq.trans (ev_goto (pc := 108) k_44_108.1 rfl k_44_108.2) ?_
    exact ev_mk kd_44_6 rfl

set_option maxRecDepth 100000 in
theorem E_Rd_readPerson (sc : zSc) (d : Nat) (h : zHp)  : zRun sc (d + 1) 46 [.ref 15] zGL h = (zOT (h.2.2 15 1) fun t1 ht1 => (if (h.1 t1 1) = (5 : Int32) then (zBv (zRun sc d 38 [.ref 15, .int 3] zGL h) zGL fun h2 => zE sc (d + 1) 46 16 [some (.ref 15), none] [] zGL h2) else zE sc (d + 1) 46 16 [some (.ref 15), none] [] zGL h)) := by
  have he : zEnt 46 [.ref 15] = [some (.ref 15), none] := by unfold zEnt; rw [ml_46]; rfl
  unfold zRun
  rw [he]
  refine Eq.trans (ev_aload_n (pc := 0) (x := 15) k_46_0 rfl rfl (by decide)) ?_
  refine Eq.trans (ev_getT (pc := 1) k_46_1 rfl zo_15.1) (z_cot fun t1 ht1 => ?_)
  refine Eq.trans (ev_getI (pc := 4) k_46_4 rfl (zTw_6 ht1).1.1) ?_
  refine Eq.trans (ev_iconst (pc := 7) (v := 5) k_46_7 rfl (by decide)) ?_
  refine Eq.trans (ev_icne (pc := 8) k_46_8.1 rfl k_46_8.2) (z_ite ?_ ?_)
  · refine Eq.trans (ev_aload_n (pc := 11) (x := 15) k_46_11 rfl rfl (by decide)) ?_
    refine Eq.trans (ev_iconst (pc := 12) (v := 3) k_46_12 rfl (by decide)) ?_
    refine Eq.trans (ev_vv (pc := 13) (as := [.int 3]) (rest := []) k_46_13 rfl zo_15 rfl rfl (Nat.le_of_ble_eq_true rfl) (Nat.le_of_ble_eq_true rfl)) (z_cbv fun h2 => ?_)
    exact ev_mk kd_46_16 rfl
  · exact ev_mk kd_46_16 rfl

set_option maxRecDepth 100000 in
theorem E_Rd_readPerson_16 (sc : zSc) (d : Nat) (h : zHp)  : zE sc (d + 1) 46 16 [some (.ref 15), none] [] zGL h = (zBv (zRun sc d 24 [.ref 15] zGL h) zGL fun h1 => (zBi (zRun sc d 29 [.ref 15, .ref 1004] zGL h1) zGL fun x2 h2 => (if x2 = 0 then zE sc (d + 1) 46 37 [some (.ref 15), none] [.int 0] zGL h2 else (zBi (zRun sc d 44 [.ref 15] zGL h2) zGL fun x3 h3 => zE sc (d + 1) 46 37 [some (.ref 15), none] [.int x3] zGL h3)))) := by
  refine Eq.trans (ev_aload_n (pc := 16) (x := 15) k_46_16 rfl rfl (by decide)) ?_
  refine Eq.trans (ev_vv (pc := 17) (as := []) (rest := []) k_46_17 rfl zo_15 rfl rfl (Nat.le_of_ble_eq_true rfl) (Nat.le_of_ble_eq_true rfl)) (z_cbv fun h1 => ?_)
  refine Eq.trans (ev_aload_n (pc := 20) (x := 15) k_46_20 rfl rfl (by decide)) ?_
  refine Eq.trans (ev_ldcS (pc := 21) k_46_21 rfl) ?_
  refine Eq.trans (ev_vi (pc := 23) (as := [.ref 1004]) (rest := []) k_46_23 rfl zo_15 rfl rfl (Nat.le_of_ble_eq_true rfl) (Nat.le_of_ble_eq_true rfl)) (z_cbi fun x2 h2 => ?_)
  refine Eq.trans (ev_ifeq (pc := 26) k_46_26.1 rfl k_46_26.2) (z_ite ?_ ?_)
  · refine Eq.trans (ev_iconst (pc := 36) (v := 0) k_46_36 rfl (by decide)) ?_
    exact ev_mk kd_46_37 rfl
  · refine Eq.trans (ev_aload_n (pc := 29) (x := 15) k_46_29 rfl rfl (by decide)) ?_
    refine Eq.trans (ev_vi (pc := 30) (as := []) (rest := []) k_46_30 rfl zo_15 rfl rfl (Nat.le_of_ble_eq_true rfl) (Nat.le_of_ble_eq_true rfl)) (z_cbi fun x3 h3 => ?_)
    refine Eq.trans (ev_goto (pc := 33) k_46_33.1 rfl k_46_33.2) ?_
    exact ev_mk kd_46_37 rfl

set_option maxRecDepth 100000 in
theorem E_Rd_readPerson_37 (sc : zSc) (d : Nat) (h : zHp) (s0 : Int32) : zE sc (d + 1) 46 37 [some (.ref 15), none] [.int s0] zGL h = (zBv (zRun sc d 41 [.ref 15] zGL h) zGL fun h1 => (if (h1.1 15 7) = 0 then (zOT (h1.2.2 15 1) fun t2 ht2 => (zBv (zRun sc d 47 [.ref t2, .int s0] zGL h1) zGL fun h3 => some (none, zGL, h3))) else some (none, zGL, h1))) := by
  refine Eq.trans (ev_istore_n (pc := 37) (lv' := [some (.ref 15), some (.int s0)]) k_46_37 rfl (Nat.le_of_ble_eq_true rfl) rfl) ?_
  refine Eq.trans (ev_aload_n (pc := 38) (x := 15) k_46_38 rfl rfl (by decide)) ?_
  refine Eq.trans (ev_vv (pc := 39) (as := []) (rest := []) k_46_39 rfl zo_15 rfl rfl (Nat.le_of_ble_eq_true rfl) (Nat.le_of_ble_eq_true rfl)) (z_cbv fun h1 => ?_)
  refine Eq.trans (ev_aload_n (pc := 42) (x := 15) k_46_42 rfl rfl (by decide)) ?_
  refine Eq.trans (ev_getI (pc := 43) k_46_43 rfl zo_15.1) ?_
  refine Eq.trans (ev_ifne (pc := 46) k_46_46.1 rfl k_46_46.2) (z_ite ?_ ?_)
  · refine Eq.trans (ev_aload_n (pc := 49) (x := 15) k_46_49 rfl rfl (by decide)) ?_
    refine Eq.trans (ev_getT (pc := 50) k_46_50 rfl zo_15.1) (z_cot fun t2 ht2 => ?_)
    refine Eq.trans (ev_iload_n (pc := 53) k_46_53 rfl rfl) ?_
    refine Eq.trans (ev_vv (pc := 54) (as := [.int s0]) (rest := []) k_46_54 rfl (zTw_6 ht2).1 rfl rfl (Nat.le_of_ble_eq_true rfl) (Nat.le_of_ble_eq_true rfl)) (z_cbv fun h3 => ?_)
    refine Eq.trans (ev_mk (pc := 57) (lv' := [none, none]) kd_46_57 rfl) ?_
    exact ev_ret_void k_46_57 rfl rt_46
  · refine Eq.trans (ev_mk (pc := 57) (lv' := [none, none]) kd_46_57 rfl) ?_
    exact ev_ret_void k_46_57 rfl rt_46


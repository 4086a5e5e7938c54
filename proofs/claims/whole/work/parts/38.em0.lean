set_option maxRecDepth 100000 in
theorem E_Mo_findClosed (sc : zSc) (d : Nat) (h : zHp)  : zRun sc d 126 [.ref 46] zGL h = zE sc d 126 7 [some (.ref 46), some (.int 0), none, none, none] [] zGL (zPL h 46 7 0) := by
  have he : zEnt 126 [.ref 46] = [some (.ref 46), none, none, none, none] := by unfold zEnt; rw [ml_126]; rfl
  unfold zRun
  rw [he]
  refine Eq.trans (ev_aload_n (pc := 0) (x := 46) k_126_0 rfl rfl (by decide)) ?_
  refine Eq.trans (ev_lconst (pc := 1) (v := 0) k_126_1 rfl (by decide)) ?_
  refine Eq.trans (ev_putL (pc := 2) k_126_2 rfl zo_46.1) ?_
  refine Eq.trans (ev_iconst (pc := 5) (v := 0) k_126_5 rfl (by decide)) ?_
  refine Eq.trans (ev_istore_n (pc := 6) (lv' := [some (.ref 46), some (.int 0), none, none, none]) k_126_6 rfl (Nat.le_of_ble_eq_true rfl) rfl) ?_
  exact ev_mk kd_126_7 rfl

set_option maxRecDepth 100000 in
theorem E_Mo_findClosed_7 (sc : zSc) (d : Nat) (h : zHp) (v1 : Int32) : zE sc d 126 7 [some (.ref 46), some (.int v1), none, none, none] [] zGL h = (if v1 < ((1 : Int32) <<< ((h.1 46 0) &&& 31)) then zE sc d 126 21 [some (.ref 46), some (.int v1), some (.int v1), some (.int (-1)), none] [] zGL h else some (none, zGL, h)) := by
  refine Eq.trans (ev_iload_n (pc := 7) k_126_7 rfl rfl) ?_
  refine Eq.trans (ev_iconst (pc := 8) (v := 1) k_126_8 rfl (by decide)) ?_
  refine Eq.trans (ev_aload_n (pc := 9) (x := 46) k_126_9 rfl rfl (by decide)) ?_
  refine Eq.trans (ev_getI (pc := 10) k_126_10 rfl zo_46.1) ?_
  refine Eq.trans (ev_ishl (pc := 13) k_126_13 rfl) ?_
  refine Eq.trans (ev_icge (pc := 14) k_126_14.1 rfl k_126_14.2) (z_ite ?_ ?_)
  · refine Eq.trans (ev_iload_n (pc := 17) k_126_17 rfl rfl) ?_
    refine Eq.trans (ev_istore_n (pc := 18) (lv' := [some (.ref 46), some (.int v1), some (.int v1), none, none]) k_126_18 rfl (Nat.le_of_ble_eq_true rfl) rfl) ?_
    refine Eq.trans (ev_iconst (pc := 19) (v := (-1)) k_126_19 rfl (by decide)) ?_
    refine Eq.trans (ev_istore_n (pc := 20) (lv' := [some (.ref 46), some (.int v1), some (.int v1), some (.int (-1)), none]) k_126_20 rfl (Nat.le_of_ble_eq_true rfl) rfl) ?_
    exact ev_mk kd_126_21 rfl
  · exact ev_ret_void k_126_118 rfl rt_126

set_option maxRecDepth 100000 in
theorem E_Mo_findClosed_21 (sc : zSc) (d : Nat) (h : zHp) (v1 : Int32) (v2 : Int32) (v3 : Int32) : zE sc d 126 21 [some (.ref 46), some (.int v1), some (.int v2), some (.int v3), none] [] zGL h = (if v2 = v3 then (if zin v1 64 = true then (if v2 = v1 then zE sc d 126 7 [some (.ref 46), some (.int (v1 + 1)), none, none, none] [] zGL (zPL (zPI h 50 v1.toNatClampNeg v2) 46 7 (((zPI h 50 v1.toNatClampNeg v2).2.1 46 7) ||| ((1 : Int64) <<< (v1.toInt64 &&& 63)))) else zE sc d 126 7 [some (.ref 46), some (.int (v1 + 1)), none, none, none] [] zGL (zPL (zPI h 50 v1.toNatClampNeg v2) 46 7 (((zPI h 50 v1.toNatClampNeg v2).2.1 46 7) ||| (0 : Int64)))) else none) else zE sc d 126 31 [some (.ref 46), some (.int v1), some (.int v2), some (.int v2), some (.int 0)] [] zGL h) := by
  refine Eq.trans (ev_iload_n (pc := 21) k_126_21 rfl rfl) ?_
  refine Eq.trans (ev_iload_n (pc := 22) k_126_22 rfl rfl) ?_
  refine Eq.trans (ev_iceq (pc := 23) k_126_23.1 rfl k_126_23.2) (z_ite ?_ ?_)
  · refine Eq.trans (ev_aload_n (pc := 84) (x := 46) k_126_84 rfl rfl (by decide)) ?_
    refine Eq.trans (ev_getR (pc := 85) (b := 50) k_126_85 rfl zo_46.1 zg_46_6) ?_
    refine Eq.trans (ev_iload_n (pc := 88) k_126_88 rfl rfl) ?_
    refine Eq.trans (ev_iload_n (pc := 89) k_126_89 rfl rfl) ?_
    refine Eq.trans (ev_iast_c (pc := 90) k_126_90 rfl za_50) (z_it1 ?_)
    refine Eq.trans (ev_aload_n (pc := 91) (x := 46) k_126_91 rfl rfl (by decide)) ?_
    refine Eq.trans (ev_dup (pc := 92) k_126_92 rfl rfl) ?_
    refine Eq.trans (ev_getL (pc := 93) k_126_93 rfl zo_46.1) ?_
    refine Eq.trans (ev_iload_n (pc := 96) k_126_96 rfl rfl) ?_
    refine Eq.trans (ev_iload_n (pc := 97) k_126_97 rfl rfl) ?_
    refine Eq.trans (ev_icne (pc := 98) k_126_98.1 rfl k_126_98.2) (z_ite ?_ ?_)
    · refine Eq.trans (ev_lconst (pc := 101) (v := 1) k_126_101 rfl (by decide)) ?_
      refine Eq.trans (ev_iload_n (pc := 102) k_126_102 rfl rfl) ?_
      refine Eq.trans (ev_lshl (pc := 103) k_126_103 rfl) ?_
      refine Eq.trans (ev_goto (pc := 104) k_126_104.1 rfl k_126_104.2) ?_
      refine Eq.trans (ev_mk (pc := 108) (lv' := [some (.ref 46), some (.int v1), none, none, none]) kd_126_108 rfl) ?_
      refine Eq.trans (ev_lor (pc := 108) k_126_108 rfl) ?_
      refine Eq.trans (ev_putL (pc := 109) k_126_109 rfl zo_46.1) ?_
      refine Eq.trans (ev_iinc (pc := 112) (v := 1) (lv' := [some (.ref 46), some (.int (v1 + 1)), none, none, none]) k_126_112 rfl rfl (by decide) rfl) ?_
      refine Eq.trans (ev_goto (pc := 115) k_126_115.1 rfl k_126_115.2) ?_
      exact ev_mk kd_126_7 rfl
    · refine Eq.trans (ev_lconst (pc := 107) (v := 0) k_126_107 rfl (by decide)) ?_
      refine Eq.trans (ev_mk (pc := 108) (lv' := [some (.ref 46), some (.int v1), none, none, none]) kd_126_108 rfl) ?_
      refine Eq.trans (ev_lor (pc := 108) k_126_108 rfl) ?_
      refine Eq.trans (ev_putL (pc := 109) k_126_109 rfl zo_46.1) ?_
      refine Eq.trans (ev_iinc (pc := 112) (v := 1) (lv' := [some (.ref 46), some (.int (v1 + 1)), none, none, none]) k_126_112 rfl rfl (by decide) rfl) ?_
      refine Eq.trans (ev_goto (pc := 115) k_126_115.1 rfl k_126_115.2) ?_
      exact ev_mk kd_126_7 rfl
  · refine Eq.trans (ev_iload_n (pc := 26) k_126_26 rfl rfl) ?_
    refine Eq.trans (ev_istore_n (pc := 27) (lv' := [some (.ref 46), some (.int v1), some (.int v2), some (.int v2), none]) k_126_27 rfl (Nat.le_of_ble_eq_true rfl) rfl) ?_
    refine Eq.trans (ev_iconst (pc := 28) (v := 0) k_126_28 rfl (by decide)) ?_
    refine Eq.trans (ev_istore (pc := 29) (lv' := [some (.ref 46), some (.int v1), some (.int v2), some (.int v2), some (.int 0)]) k_126_29 rfl (Nat.le_of_ble_eq_true rfl) rfl) ?_
    exact ev_mk kd_126_31 rfl

set_option maxRecDepth 100000 in
theorem E_Mo_findClosed_31 (sc : zSc) (d : Nat) (h : zHp) (v1 : Int32) (v2 : Int32) (v3 : Int32) (v4 : Int32) : zE sc d 126 31 [some (.ref 46), some (.int v1), some (.int v2), some (.int v3), some (.int v4)] [] zGL h = (if v4 < (h.1 46 0) then (if zin v4 6 = true then (if (h.1 48 v4.toNatClampNeg) = 0 then zE sc d 126 31 [some (.ref 46), some (.int v1), some (.int (v2 ||| (0 : Int32))), some (.int v3), some (.int (v4 + 1))] [] zGL h else (if zin v4 6 = true then (if ((h.1 48 v4.toNatClampNeg) &&& (v2 ^^^ ((-1) : Int32))) = 0 then zE sc d 126 31 [some (.ref 46), some (.int v1), some (.int (v2 ||| ((1 : Int32) <<< (v4 &&& 31)))), some (.int v3), some (.int (v4 + 1))] [] zGL h else zE sc d 126 31 [some (.ref 46), some (.int v1), some (.int (v2 ||| (0 : Int32))), some (.int v3), some (.int (v4 + 1))] [] zGL h) else none)) else none) else zE sc d 126 21 [some (.ref 46), some (.int v1), some (.int v2), some (.int v3), none] [] zGL h) := by
  refine Eq.trans (ev_iload (pc := 31) k_126_31 rfl rfl) ?_
  refine Eq.trans (ev_aload_n (pc := 33) (x := 46) k_126_33 rfl rfl (by decide)) ?_
  refine Eq.trans (ev_getI (pc := 34) k_126_34 rfl zo_46.1) ?_
  refine Eq.trans (ev_icge (pc := 37) k_126_37.1 rfl k_126_37.2) (z_ite ?_ ?_)
  · refine Eq.trans (ev_iload_n (pc := 40) k_126_40 rfl rfl) ?_
    refine Eq.trans (ev_aload_n (pc := 41) (x := 46) k_126_41 rfl rfl (by decide)) ?_
    refine Eq.trans (ev_getR (pc := 42) (b := 48) k_126_42 rfl zo_46.1 zg_46_2) ?_
    refine Eq.trans (ev_iload (pc := 45) k_126_45 rfl rfl) ?_
    refine Eq.trans (ev_iald_c (pc := 47) k_126_47 rfl za_48) (z_it1 ?_)
    refine Eq.trans (ev_ifeq (pc := 48) k_126_48.1 rfl k_126_48.2) (z_ite ?_ ?_)
    · refine Eq.trans (ev_mk (pc := 72) (lv' := [some (.ref 46), some (.int v1), none, some (.int v3), some (.int v4)]) kd_126_72 rfl) ?_
      refine Eq.trans (ev_iconst (pc := 72) (v := 0) k_126_72 rfl (by decide)) ?_
      refine Eq.trans (ev_ior (pc := 73) k_126_73 rfl) ?_
      refine Eq.trans (ev_istore_n (pc := 74) (lv' := [some (.ref 46), some (.int v1), some (.int (v2 ||| (0 : Int32))), some (.int v3), some (.int v4)]) k_126_74 rfl (Nat.le_of_ble_eq_true rfl) rfl) ?_
      refine Eq.trans (ev_iinc (pc := 75) (v := 1) (lv' := [some (.ref 46), some (.int v1), some (.int (v2 ||| (0 : Int32))), some (.int v3), some (.int (v4 + 1))]) k_126_75 rfl rfl (by decide) rfl) ?_
      refine Eq.trans (ev_goto (pc := 78) k_126_78.1 rfl k_126_78.2) ?_
      exact ev_mk kd_126_31 rfl
    · refine Eq.trans (ev_aload_n (pc := 51) (x := 46) k_126_51 rfl rfl (by decide)) ?_
      refine Eq.trans (ev_getR (pc := 52) (b := 48) k_126_52 rfl zo_46.1 zg_46_2) ?_
      refine Eq.trans (ev_iload (pc := 55) k_126_55 rfl rfl) ?_
      refine Eq.trans (ev_iald_c (pc := 57) k_126_57 rfl za_48) (z_it1 ?_)
      refine Eq.trans (ev_iload_n (pc := 58) k_126_58 rfl rfl) ?_
      refine Eq.trans (ev_iconst (pc := 59) (v := (-1)) k_126_59 rfl (by decide)) ?_
      refine Eq.trans (ev_ixor (pc := 60) k_126_60 rfl) ?_
      refine Eq.trans (ev_iand (pc := 61) k_126_61 rfl) ?_
      refine Eq.trans (ev_ifne (pc := 62) k_126_62.1 rfl k_126_62.2) (z_ite ?_ ?_)
      · refine Eq.trans (ev_iconst (pc := 65) (v := 1) k_126_65 rfl (by decide)) ?_
        refine Eq.trans (ev_iload (pc := 66) k_126_66 rfl rfl) ?_
        refine Eq.trans (ev_ishl (pc := 68) k_126_68 rfl) ?_
        refine Eq.trans (ev_goto (pc := 69) k_126_69.1 rfl k_126_69.2) ?_
        refine Eq.trans (ev_mk (pc := 73) (lv' := [some (.ref 46), some (.int v1), none, some (.int v3), some (.int v4)]) kd_126_73 rfl) ?_
        refine Eq.trans (ev_ior (pc := 73) k_126_73 rfl) ?_
        refine Eq.trans (ev_istore_n (pc := 74) (lv' := [some (.ref 46), some (.int v1), some (.int (v2 ||| ((1 : Int32) <<< (v4 &&& 31)))), some (.int v3), some (.int v4)]) k_126_74 rfl (Nat.le_of_ble_eq_true rfl) rfl) ?_
        refine Eq.trans (ev_iinc (pc := 75) (v := 1) (lv' := [some (.ref 46), some (.int v1), some (.int (v2 ||| ((1 : Int32) <<< (v4 &&& 31)))), some (.int v3), some (.int (v4 + 1))]) k_126_75 rfl rfl (by decide) rfl) ?_
        refine Eq.trans (ev_goto (pc := 78) k_126_78.1 rfl k_126_78.2) ?_
        exact ev_mk kd_126_31 rfl
      · refine Eq.trans (ev_mk (pc := 72) (lv' := [some (.ref 46), some (.int v1), none, some (.int v3), some (.int v4)]) kd_126_72 rfl) ?_
        refine Eq.trans (ev_iconst (pc := 72) (v := 0) k_126_72 rfl (by decide)) ?_
        refine Eq.trans (ev_ior (pc := 73) k_126_73 rfl) ?_
        refine Eq.trans (ev_istore_n (pc := 74) (lv' := [some (.ref 46), some (.int v1), some (.int (v2 ||| (0 : Int32))), some (.int v3), some (.int v4)]) k_126_74 rfl (Nat.le_of_ble_eq_true rfl) rfl) ?_
        refine Eq.trans (ev_iinc (pc := 75) (v := 1) (lv' := [some (.ref 46), some (.int v1), some (.int (v2 ||| (0 : Int32))), some (.int v3), some (.int (v4 + 1))]) k_126_75 rfl rfl (by decide) rfl) ?_
        refine Eq.trans (ev_goto (pc := 78) k_126_78.1 rfl k_126_78.2) ?_
        exact ev_mk kd_126_31 rfl
  · refine Eq.trans (ev_goto (pc := 81) k_126_81.1 rfl k_126_81.2) ?_
    exact ev_mk kd_126_21 rfl

set_option maxRecDepth 100000 in
theorem E_Mo_begin (sc : zSc) (d : Nat) (h : zHp)  : zRun sc (d + 1) 127 [.ref 46] zGL h = zE sc (d + 1) 127 2 [some (.ref 46), some (.int 0)] [] zGL h := by
  have he : zEnt 127 [.ref 46] = [some (.ref 46), none] := by unfold zEnt; rw [ml_127]; rfl
  unfold zRun
  rw [he]
  refine Eq.trans (ev_iconst (pc := 0) (v := 0) k_127_0 rfl (by decide)) ?_
  refine Eq.trans (ev_istore_n (pc := 1) (lv' := [some (.ref 46), some (.int 0)]) k_127_1 rfl (Nat.le_of_ble_eq_true rfl) rfl) ?_
  exact ev_mk kd_127_2 rfl

set_option maxRecDepth 100000 in
theorem E_Mo_begin_2 (sc : zSc) (d : Nat) (h : zHp) (v1 : Int32) : zE sc (d + 1) 127 2 [some (.ref 46), some (.int v1)] [] zGL h = (if v1 < (5 : Int32) then (if v1 < (h.1 46 3) then (if zin v1 5 = true then (if zin (h.1 49 v1.toNatClampNeg) 64 = true then zE sc (d + 1) 127 35 [some (.ref 46), some (.int v1)] [.int (h.1 50 (h.1 49 v1.toNatClampNeg).toNatClampNeg), .int v1, .ref 51] zGL h else none) else none) else zE sc (d + 1) 127 35 [some (.ref 46), some (.int v1)] [.int 0, .int v1, .ref 51] zGL h) else zE sc (d + 1) 127 71 [some (.ref 46), some (.int 0)] [] zGL h) := by
  refine Eq.trans (ev_iload_n (pc := 2) k_127_2 rfl rfl) ?_
  refine Eq.trans (ev_iconst (pc := 3) (v := 5) k_127_3 rfl (by decide)) ?_
  refine Eq.trans (ev_icge (pc := 4) k_127_4.1 rfl k_127_4.2) (z_ite ?_ ?_)
  · refine Eq.trans (ev_aload_n (pc := 7) (x := 46) k_127_7 rfl rfl (by decide)) ?_
    refine Eq.trans (ev_getR (pc := 8) (b := 51) k_127_8 rfl zo_46.1 zg_46_8) ?_
    refine Eq.trans (ev_iload_n (pc := 11) k_127_11 rfl rfl) ?_
    refine Eq.trans (ev_iload_n (pc := 12) k_127_12 rfl rfl) ?_
    refine Eq.trans (ev_aload_n (pc := 13) (x := 46) k_127_13 rfl rfl (by decide)) ?_
    refine Eq.trans (ev_getI (pc := 14) k_127_14 rfl zo_46.1) ?_
    refine Eq.trans (ev_icge (pc := 17) k_127_17.1 rfl k_127_17.2) (z_ite ?_ ?_)
    · refine Eq.trans (ev_aload_n (pc := 20) (x := 46) k_127_20 rfl rfl (by decide)) ?_
      refine Eq.trans (ev_getR (pc := 21) (b := 50) k_127_21 rfl zo_46.1 zg_46_6) ?_
      refine Eq.trans (ev_aload_n (pc := 24) (x := 46) k_127_24 rfl rfl (by decide)) ?_
      refine Eq.trans (ev_getR (pc := 25) (b := 49) k_127_25 rfl zo_46.1 zg_46_4) ?_
      refine Eq.trans (ev_iload_n (pc := 28) k_127_28 rfl rfl) ?_
      refine Eq.trans (ev_iald_c (pc := 29) k_127_29 rfl za_49) (z_it1 ?_)
      refine Eq.trans (ev_iald_c (pc := 30) k_127_30 rfl za_50) (z_it1 ?_)
      refine Eq.trans (ev_goto (pc := 31) k_127_31.1 rfl k_127_31.2) ?_
      exact ev_mk kd_127_35 rfl
    · refine Eq.trans (ev_iconst (pc := 34) (v := 0) k_127_34 rfl (by decide)) ?_
      exact ev_mk kd_127_35 rfl
  · refine Eq.trans (ev_iconst (pc := 69) (v := 0) k_127_69 rfl (by decide)) ?_
    refine Eq.trans (ev_istore_n (pc := 70) (lv' := [some (.ref 46), some (.int 0)]) k_127_70 rfl (Nat.le_of_ble_eq_true rfl) rfl) ?_
    exact ev_mk kd_127_71 rfl

set_option maxRecDepth 100000 in
theorem E_Mo_begin_35 (sc : zSc) (d : Nat) (h : zHp) (v1 : Int32) (s0 : Int32) (s1 : Int32) : zE sc (d + 1) 127 35 [some (.ref 46), some (.int v1)] [.int s0, .int s1, .ref 51] zGL h = (if zin s1 5 = true then (if zin v1 5 = true then (zBi (zRun sc d 128 [.ref 46, .int ((zPI h 51 s1.toNatClampNeg s0).1 51 v1.toNatClampNeg), .int ((zPI h 51 s1.toNatClampNeg s0).1 46 5)] zGL (zPI h 51 s1.toNatClampNeg s0)) zGL fun x1 h1 => (if zin v1 5 = true then (if zin v1 5 = true then zE sc (d + 1) 127 2 [some (.ref 46), some (.int (v1 + 1))] [] zGL (zPI (zPI h1 52 v1.toNatClampNeg x1) 54 v1.toNatClampNeg 0) else none) else none)) else none) else none) := by
  refine Eq.trans (ev_iast_c (pc := 35) k_127_35 rfl za_51) (z_it1 ?_)
  refine Eq.trans (ev_aload_n (pc := 36) (x := 46) k_127_36 rfl rfl (by decide)) ?_
  refine Eq.trans (ev_getR (pc := 37) (b := 52) k_127_37 rfl zo_46.1 zg_46_9) ?_
  refine Eq.trans (ev_iload_n (pc := 40) k_127_40 rfl rfl) ?_
  refine Eq.trans (ev_aload_n (pc := 41) (x := 46) k_127_41 rfl rfl (by decide)) ?_
  refine Eq.trans (ev_aload_n (pc := 42) (x := 46) k_127_42 rfl rfl (by decide)) ?_
  refine Eq.trans (ev_getR (pc := 43) (b := 51) k_127_43 rfl zo_46.1 zg_46_8) ?_
  refine Eq.trans (ev_iload_n (pc := 46) k_127_46 rfl rfl) ?_
  refine Eq.trans (ev_iald_c (pc := 47) k_127_47 rfl za_51) (z_it1 ?_)
  refine Eq.trans (ev_aload_n (pc := 48) (x := 46) k_127_48 rfl rfl (by decide)) ?_
  refine Eq.trans (ev_getI (pc := 49) k_127_49 rfl zo_46.1) ?_
  refine Eq.trans (ev_vi (pc := 52) (as := [.int ((zPI h 51 s1.toNatClampNeg s0).1 51 v1.toNatClampNeg), .int ((zPI h 51 s1.toNatClampNeg s0).1 46 5)]) (rest := [.int v1, .ref 52]) k_127_52 rfl zo_46 rfl rfl (Nat.le_of_ble_eq_true rfl) (Nat.le_of_ble_eq_true rfl)) (z_cbi fun x1 h1 => ?_)
  refine Eq.trans (ev_iast_c (pc := 55) k_127_55 rfl za_52) (z_it1 ?_)
  refine Eq.trans (ev_aload_n (pc := 56) (x := 46) k_127_56 rfl rfl (by decide)) ?_
  refine Eq.trans (ev_getR (pc := 57) (b := 54) k_127_57 rfl zo_46.1 zg_46_11) ?_
  refine Eq.trans (ev_iload_n (pc := 60) k_127_60 rfl rfl) ?_
  refine Eq.trans (ev_iconst (pc := 61) (v := 0) k_127_61 rfl (by decide)) ?_
  refine Eq.trans (ev_iast_c (pc := 62) k_127_62 rfl za_54) (z_it1 ?_)
  refine Eq.trans (ev_iinc (pc := 63) (v := 1) (lv' := [some (.ref 46), some (.int (v1 + 1))]) k_127_63 rfl rfl (by decide) rfl) ?_
  refine Eq.trans (ev_goto (pc := 66) k_127_66.1 rfl k_127_66.2) ?_
  exact ev_mk kd_127_2 rfl

set_option maxRecDepth 100000 in
theorem E_Mo_begin_71 (sc : zSc) (d : Nat) (h : zHp) (v1 : Int32) : zE sc (d + 1) 127 71 [some (.ref 46), some (.int v1)] [] zGL h = (if v1 < (25 : Int32) then (if zin (v1 - v1 / (5 : Int32) * (5 : Int32)) 5 = true then (zBj (zRun sc d 130 [.ref 46, .int (h.1 52 (v1 - v1 / (5 : Int32) * (5 : Int32)).toNatClampNeg)] zGL h) zGL fun x1 h1 => (if zin v1 25 = true then zE sc (d + 1) 127 71 [some (.ref 46), some (.int (v1 + 1))] [] zGL (zPL h1 53 v1.toNatClampNeg x1) else none)) else none) else some (none, zGL, zPI h 46 12 0)) := by
  refine Eq.trans (ev_iload_n (pc := 71) k_127_71 rfl rfl) ?_
  refine Eq.trans (ev_bipush (pc := 72) (v := 25) k_127_72 rfl (by decide)) ?_
  refine Eq.trans (ev_icge (pc := 74) k_127_74.1 rfl k_127_74.2) (z_ite ?_ ?_)
  · refine Eq.trans (ev_aload_n (pc := 77) (x := 46) k_127_77 rfl rfl (by decide)) ?_
    refine Eq.trans (ev_getR (pc := 78) (b := 53) k_127_78 rfl zo_46.1 zg_46_10) ?_
    refine Eq.trans (ev_iload_n (pc := 81) k_127_81 rfl rfl) ?_
    refine Eq.trans (ev_aload_n (pc := 82) (x := 46) k_127_82 rfl rfl (by decide)) ?_
    refine Eq.trans (ev_aload_n (pc := 83) (x := 46) k_127_83 rfl rfl (by decide)) ?_
    refine Eq.trans (ev_getR (pc := 84) (b := 52) k_127_84 rfl zo_46.1 zg_46_9) ?_
    refine Eq.trans (ev_iload_n (pc := 87) k_127_87 rfl rfl) ?_
    refine Eq.trans (ev_iconst (pc := 88) (v := 5) k_127_88 rfl (by decide)) ?_
    refine Eq.trans (ev_irem (pc := 89) k_127_89 rfl (by decide)) ?_
    refine Eq.trans (ev_iald_c (pc := 90) k_127_90 rfl za_52) (z_it1 ?_)
    refine Eq.trans (ev_vj (pc := 91) (as := [.int (h.1 52 (v1 - v1 / (5 : Int32) * (5 : Int32)).toNatClampNeg)]) (rest := [.int v1, .ref 53]) k_127_91 rfl zo_46 rfl rfl (Nat.le_of_ble_eq_true rfl) (Nat.le_of_ble_eq_true rfl)) (z_cbj fun x1 h1 => ?_)
    refine Eq.trans (ev_last_c (pc := 94) k_127_94 rfl za_53) (z_it1 ?_)
    refine Eq.trans (ev_iinc (pc := 95) (v := 1) (lv' := [some (.ref 46), some (.int (v1 + 1))]) k_127_95 rfl rfl (by decide) rfl) ?_
    refine Eq.trans (ev_goto (pc := 98) k_127_98.1 rfl k_127_98.2) ?_
    exact ev_mk kd_127_71 rfl
  · refine Eq.trans (ev_aload_n (pc := 101) (x := 46) k_127_101 rfl rfl (by decide)) ?_
    refine Eq.trans (ev_iconst (pc := 102) (v := 0) k_127_102 rfl (by decide)) ?_
    refine Eq.trans (ev_putI (pc := 103) k_127_103 rfl zo_46.1) ?_
    exact ev_ret_void k_127_106 rfl rt_127

set_option maxRecDepth 100000 in
theorem E_Mo_hatOf (sc : zSc) (d : Nat) (h : zHp) (v1 : Int32) (v2 : Int32) : zRun sc (d + 1) 128 [.ref 46, .int v1, .int v2] zGL h = zE sc (d + 1) 128 5 [some (.ref 46), some (.int v1), some (.int v2), some (.int 0), some (.int 0)] [] zGL h := by
  have he : zEnt 128 [.ref 46, .int v1, .int v2] = [some (.ref 46), some (.int v1), some (.int v2), none, none] := by unfold zEnt; rw [ml_128]; rfl
  unfold zRun
  rw [he]
  refine Eq.trans (ev_iconst (pc := 0) (v := 0) k_128_0 rfl (by decide)) ?_
  refine Eq.trans (ev_istore_n (pc := 1) (lv' := [some (.ref 46), some (.int v1), some (.int v2), some (.int 0), none]) k_128_1 rfl (Nat.le_of_ble_eq_true rfl) rfl) ?_
  refine Eq.trans (ev_iconst (pc := 2) (v := 0) k_128_2 rfl (by decide)) ?_
  refine Eq.trans (ev_istore (pc := 3) (lv' := [some (.ref 46), some (.int v1), some (.int v2), some (.int 0), some (.int 0)]) k_128_3 rfl (Nat.le_of_ble_eq_true rfl) rfl) ?_
  exact ev_mk kd_128_5 rfl

set_option maxRecDepth 100000 in
theorem E_Mo_hatOf_5 (sc : zSc) (d : Nat) (h : zHp) (v1 : Int32) (v2 : Int32) (v3 : Int32) (v4 : Int32) : zE sc (d + 1) 128 5 [some (.ref 46), some (.int v1), some (.int v2), some (.int v3), some (.int v4)] [] zGL h = (if v4 < (h.1 46 0) then (zBi (zRun sc d 129 [.int v1, .int v4] zGL h) zGL fun x1 h1 => (if x1 = 0 then zE sc (d + 1) 128 5 [some (.ref 46), some (.int v1), some (.int v2), some (.int (v3 + (0 : Int32))), some (.int (v4 + 1))] [] zGL h1 else (if zin v4 6 = true then zE sc (d + 1) 128 5 [some (.ref 46), some (.int v1), some (.int v2), some (.int (v3 + (h1.1 47 v4.toNatClampNeg))), some (.int (v4 + 1))] [] zGL h1 else none))) else (if v2 = 0 then none else some (some (.int (v3 - v3 / v2 * v2)), zGL, h))) := by
  refine Eq.trans (ev_iload (pc := 5) k_128_5 rfl rfl) ?_
  refine Eq.trans (ev_aload_n (pc := 7) (x := 46) k_128_7 rfl rfl (by decide)) ?_
  refine Eq.trans (ev_getI (pc := 8) k_128_8 rfl zo_46.1) ?_
  refine Eq.trans (ev_icge (pc := 11) k_128_11.1 rfl k_128_11.2) (z_ite ?_ ?_)
  · refine Eq.trans (ev_iload_n (pc := 14) k_128_14 rfl rfl) ?_
    refine Eq.trans (ev_iload_n (pc := 15) k_128_15 rfl rfl) ?_
    refine Eq.trans (ev_iload (pc := 16) k_128_16 rfl rfl) ?_
    refine Eq.trans (ev_si (pc := 18) (as := [.int v1, .int v4]) (rest := [.int v3]) k_128_18 rfl rfl rfl (Nat.le_of_ble_eq_true rfl) (Nat.le_of_ble_eq_true rfl)) (z_cbi fun x1 h1 => ?_)
    refine Eq.trans (ev_ifeq (pc := 21) k_128_21.1 rfl k_128_21.2) (z_ite ?_ ?_)
    · refine Eq.trans (ev_iconst (pc := 34) (v := 0) k_128_34 rfl (by decide)) ?_
      refine Eq.trans (ev_mk (pc := 35) (lv' := [some (.ref 46), some (.int v1), some (.int v2), none, some (.int v4)]) kd_128_35 rfl) ?_
      refine Eq.trans (ev_iadd (pc := 35) k_128_35 rfl) ?_
      refine Eq.trans (ev_istore_n (pc := 36) (lv' := [some (.ref 46), some (.int v1), some (.int v2), some (.int (v3 + (0 : Int32))), some (.int v4)]) k_128_36 rfl (Nat.le_of_ble_eq_true rfl) rfl) ?_
      refine Eq.trans (ev_iinc (pc := 37) (v := 1) (lv' := [some (.ref 46), some (.int v1), some (.int v2), some (.int (v3 + (0 : Int32))), some (.int (v4 + 1))]) k_128_37 rfl rfl (by decide) rfl) ?_
      refine Eq.trans (ev_goto (pc := 40) k_128_40.1 rfl k_128_40.2) ?_
      exact ev_mk kd_128_5 rfl
    · refine Eq.trans (ev_aload_n (pc := 24) (x := 46) k_128_24 rfl rfl (by decide)) ?_
      refine Eq.trans (ev_getR (pc := 25) (b := 47) k_128_25 rfl zo_46.1 zg_46_1) ?_
      refine Eq.trans (ev_iload (pc := 28) k_128_28 rfl rfl) ?_
      refine Eq.trans (ev_iald_c (pc := 30) k_128_30 rfl za_47) (z_it1 ?_)
      refine Eq.trans (ev_goto (pc := 31) k_128_31.1 rfl k_128_31.2) ?_
      refine Eq.trans (ev_mk (pc := 35) (lv' := [some (.ref 46), some (.int v1), some (.int v2), none, some (.int v4)]) kd_128_35 rfl) ?_
      refine Eq.trans (ev_iadd (pc := 35) k_128_35 rfl) ?_
      refine Eq.trans (ev_istore_n (pc := 36) (lv' := [some (.ref 46), some (.int v1), some (.int v2), some (.int (v3 + (h1.1 47 v4.toNatClampNeg))), some (.int v4)]) k_128_36 rfl (Nat.le_of_ble_eq_true rfl) rfl) ?_
      refine Eq.trans (ev_iinc (pc := 37) (v := 1) (lv' := [some (.ref 46), some (.int v1), some (.int v2), some (.int (v3 + (h1.1 47 v4.toNatClampNeg))), some (.int (v4 + 1))]) k_128_37 rfl rfl (by decide) rfl) ?_
      refine Eq.trans (ev_goto (pc := 40) k_128_40.1 rfl k_128_40.2) ?_
      exact ev_mk kd_128_5 rfl
  · refine Eq.trans (ev_iload_n (pc := 43) k_128_43 rfl rfl) ?_
    refine Eq.trans (ev_iload_n (pc := 44) k_128_44 rfl rfl) ?_
    refine Eq.trans (ev_irem_c (pc := 45) k_128_45 rfl) (z_it2 ?_)
    exact ev_ret_int k_128_46 rfl rt_128

set_option maxRecDepth 100000 in
theorem E_Mo_has (sc : zSc) (d : Nat) (h : zHp) (v0 : Int32) (v1 : Int32) : zRun sc d 129 [.int v0, .int v1] zGL h = (if ((v0 >>> (v1 &&& 31)) &&& (1 : Int32)) = (1 : Int32) then some (some (.int 1), zGL, h) else some (some (.int 0), zGL, h)) := by
  have he : zEnt 129 [.int v0, .int v1] = [some (.int v0), some (.int v1)] := by unfold zEnt; rw [ml_129]; rfl
  unfold zRun
  rw [he]
  refine Eq.trans (ev_iload_n (pc := 0) k_129_0 rfl rfl) ?_
  refine Eq.trans (ev_iload_n (pc := 1) k_129_1 rfl rfl) ?_
  refine Eq.trans (ev_ishr (pc := 2) k_129_2 rfl) ?_
  refine Eq.trans (ev_iconst (pc := 3) (v := 1) k_129_3 rfl (by decide)) ?_
  refine Eq.trans (ev_iand (pc := 4) k_129_4 rfl) ?_
  refine Eq.trans (ev_iconst (pc := 5) (v := 1) k_129_5 rfl (by decide)) ?_
  refine Eq.trans (ev_icne (pc := 6) k_129_6.1 rfl k_129_6.2) (z_ite ?_ ?_)
  · refine Eq.trans (ev_iconst (pc := 9) (v := 1) k_129_9 rfl (by decide)) ?_
    refine Eq.trans (ev_goto (pc := 10) k_129_10.1 rfl k_129_10.2) ?_
    refine Eq.trans (ev_mk (pc := 14) (lv' := [none, none]) kd_129_14 rfl) ?_
    exact ev_ret_b1 k_129_14 rfl rt_129 (by decide)
  · refine Eq.trans (ev_iconst (pc := 13) (v := 0) k_129_13 rfl (by decide)) ?_
    refine Eq.trans (ev_mk (pc := 14) (lv' := [none, none]) kd_129_14 rfl) ?_
    exact ev_ret_b1 k_129_14 rfl rt_129 (by decide)

set_option maxRecDepth 100000 in
theorem E_Mo_withHat (sc : zSc) (d : Nat) (h : zHp) (v1 : Int32) : zRun sc (d + 1) 130 [.ref 46, .int v1] zGL h = zE sc (d + 1) 130 5 [some (.ref 46), some (.int v1), some (.long 0), none, some (.int 0)] [] zGL h := by
  have he : zEnt 130 [.ref 46, .int v1] = [some (.ref 46), some (.int v1), none, none, none] := by unfold zEnt; rw [ml_130]; rfl
  unfold zRun
  rw [he]
  refine Eq.trans (ev_lconst (pc := 0) (v := 0) k_130_0 rfl (by decide)) ?_
  refine Eq.trans (ev_lstore_n (pc := 1) (lv' := [some (.ref 46), some (.int v1), some (.long 0), none, none]) k_130_1 rfl (Nat.le_of_ble_eq_true rfl) rfl) ?_
  refine Eq.trans (ev_iconst (pc := 2) (v := 0) k_130_2 rfl (by decide)) ?_
  refine Eq.trans (ev_istore (pc := 3) (lv' := [some (.ref 46), some (.int v1), some (.long 0), none, some (.int 0)]) k_130_3 rfl (Nat.le_of_ble_eq_true rfl) rfl) ?_
  exact ev_mk kd_130_5 rfl

set_option maxRecDepth 100000 in
theorem E_Mo_withHat_5 (sc : zSc) (d : Nat) (h : zHp) (v1 : Int32) (w2 : Int64) (v4 : Int32) : zE sc (d + 1) 130 5 [some (.ref 46), some (.int v1), some (.long w2), none, some (.int v4)] [] zGL h = (if v4 < ((1 : Int32) <<< ((h.1 46 0) &&& 31)) then (if (((h.2.1 46 7) >>> (v4.toInt64 &&& 63)) &&& (1 : Int64)) = (1 : Int64) then (zBi (zRun sc d 128 [.ref 46, .int v4, .int (h.1 46 5)] zGL h) zGL fun x1 h1 => (if x1 = v1 then zE sc (d + 1) 130 5 [some (.ref 46), some (.int v1), some (.long (w2 ||| ((1 : Int64) <<< (v4.toInt64 &&& 63)))), none, some (.int (v4 + 1))] [] zGL h1 else zE sc (d + 1) 130 5 [some (.ref 46), some (.int v1), some (.long (w2 ||| (0 : Int64))), none, some (.int (v4 + 1))] [] zGL h1)) else zE sc (d + 1) 130 5 [some (.ref 46), some (.int v1), some (.long (w2 ||| (0 : Int64))), none, some (.int (v4 + 1))] [] zGL h) else some (some (.long w2), zGL, h)) := by
  refine Eq.trans (ev_iload (pc := 5) k_130_5 rfl rfl) ?_
  refine Eq.trans (ev_iconst (pc := 7) (v := 1) k_130_7 rfl (by decide)) ?_
  refine Eq.trans (ev_aload_n (pc := 8) (x := 46) k_130_8 rfl rfl (by decide)) ?_
  refine Eq.trans (ev_getI (pc := 9) k_130_9 rfl zo_46.1) ?_
  refine Eq.trans (ev_ishl (pc := 12) k_130_12 rfl) ?_
  refine Eq.trans (ev_icge (pc := 13) k_130_13.1 rfl k_130_13.2) (z_ite ?_ ?_)
  · refine Eq.trans (ev_lload_n (pc := 16) k_130_16 rfl rfl) ?_
    refine Eq.trans (ev_aload_n (pc := 17) (x := 46) k_130_17 rfl rfl (by decide)) ?_
    refine Eq.trans (ev_getL (pc := 18) k_130_18 rfl zo_46.1) ?_
    refine Eq.trans (ev_iload (pc := 21) k_130_21 rfl rfl) ?_
    refine Eq.trans (ev_lshr (pc := 23) k_130_23 rfl) ?_
    refine Eq.trans (ev_lconst (pc := 24) (v := 1) k_130_24 rfl (by decide)) ?_
    refine Eq.trans (ev_land (pc := 25) k_130_25 rfl) ?_
    refine Eq.trans (ev_lconst (pc := 26) (v := 1) k_130_26 rfl (by decide)) ?_
    refine Eq.trans (ev_lcmp (pc := 27) k_130_27 rfl) ?_
    refine Eq.trans (ev_ilne (pc := 28) k_130_28.1 rfl k_130_28.2) (z_ite ?_ ?_)
    · refine Eq.trans (ev_aload_n (pc := 31) (x := 46) k_130_31 rfl rfl (by decide)) ?_
      refine Eq.trans (ev_iload (pc := 32) k_130_32 rfl rfl) ?_
      refine Eq.trans (ev_aload_n (pc := 34) (x := 46) k_130_34 rfl rfl (by decide)) ?_
      refine Eq.trans (ev_getI (pc := 35) k_130_35 rfl zo_46.1) ?_
      refine Eq.trans (ev_vi (pc := 38) (as := [.int v4, .int (h.1 46 5)]) (rest := [.long w2]) k_130_38 rfl zo_46 rfl rfl (Nat.le_of_ble_eq_true rfl) (Nat.le_of_ble_eq_true rfl)) (z_cbi fun x1 h1 => ?_)
      refine Eq.trans (ev_iload_n (pc := 41) k_130_41 rfl rfl) ?_
      refine Eq.trans (ev_icne (pc := 42) k_130_42.1 rfl k_130_42.2) (z_ite ?_ ?_)
      · refine Eq.trans (ev_lconst (pc := 45) (v := 1) k_130_45 rfl (by decide)) ?_
        refine Eq.trans (ev_iload (pc := 46) k_130_46 rfl rfl) ?_
        refine Eq.trans (ev_lshl (pc := 48) k_130_48 rfl) ?_
        refine Eq.trans (ev_goto (pc := 49) k_130_49.1 rfl k_130_49.2) ?_
        refine Eq.trans (ev_mk (pc := 53) (lv' := [some (.ref 46), some (.int v1), none, none, some (.int v4)]) kd_130_53 rfl) ?_
        refine Eq.trans (ev_lor (pc := 53) k_130_53 rfl) ?_
        refine Eq.trans (ev_lstore_n (pc := 54) (lv' := [some (.ref 46), some (.int v1), some (.long (w2 ||| ((1 : Int64) <<< (v4.toInt64 &&& 63)))), none, some (.int v4)]) k_130_54 rfl (Nat.le_of_ble_eq_true rfl) rfl) ?_
        refine Eq.trans (ev_iinc (pc := 55) (v := 1) (lv' := [some (.ref 46), some (.int v1), some (.long (w2 ||| ((1 : Int64) <<< (v4.toInt64 &&& 63)))), none, some (.int (v4 + 1))]) k_130_55 rfl rfl (by decide) rfl) ?_
        refine Eq.trans (ev_goto (pc := 58) k_130_58.1 rfl k_130_58.2) ?_
        exact ev_mk kd_130_5 rfl
      · refine Eq.trans (ev_mk (pc := 52) (lv' := [some (.ref 46), some (.int v1), none, none, some (.int v4)]) kd_130_52 rfl) ?_
        refine Eq.trans (ev_lconst (pc := 52) (v := 0) k_130_52 rfl (by decide)) ?_
        refine Eq.trans (ev_lor (pc := 53) k_130_53 rfl) ?_
        refine Eq.trans (ev_lstore_n (pc := 54) (lv' := [some (.ref 46), some (.int v1), some (.long (w2 ||| (0 : Int64))), none, some (.int v4)]) k_130_54 rfl (Nat.le_of_ble_eq_true rfl) rfl) ?_
        refine Eq.trans (ev_iinc (pc := 55) (v := 1) (lv' := [some (.ref 46), some (.int v1), some (.long (w2 ||| (0 : Int64))), none, some (.int (v4 + 1))]) k_130_55 rfl rfl (by decide) rfl) ?_
        refine Eq.trans (ev_goto (pc := 58) k_130_58.1 rfl k_130_58.2) ?_
        exact ev_mk kd_130_5 rfl
    · refine Eq.trans (ev_mk (pc := 52) (lv' := [some (.ref 46), some (.int v1), none, none, some (.int v4)]) kd_130_52 rfl) ?_
      refine Eq.trans (ev_lconst (pc := 52) (v := 0) k_130_52 rfl (by decide)) ?_
      refine Eq.trans (ev_lor (pc := 53) k_130_53 rfl) ?_
      refine Eq.trans (ev_lstore_n (pc := 54) (lv' := [some (.ref 46), some (.int v1), some (.long (w2 ||| (0 : Int64))), none, some (.int v4)]) k_130_54 rfl (Nat.le_of_ble_eq_true rfl) rfl) ?_
      refine Eq.trans (ev_iinc (pc := 55) (v := 1) (lv' := [some (.ref 46), some (.int v1), some (.long (w2 ||| (0 : Int64))), none, some (.int (v4 + 1))]) k_130_55 rfl rfl (by decide) rfl) ?_
      refine Eq.trans (ev_goto (pc := 58) k_130_58.1 rfl k_130_58.2) ?_
      exact ev_mk kd_130_5 rfl
  · refine Eq.trans (ev_lload_n (pc := 61) k_130_61 rfl rfl) ?_
    exact ev_ret_long k_130_62 rfl rt_130

set_option maxRecDepth 100000 in
theorem E_Mo_feed (sc : zSc) (d : Nat) (h : zHp) (v1 : Int32) (w2 : Int64) : zRun sc (d + 1) 131 [.ref 46, .int v1, .long w2] zGL h = (zBi (zRun sc d 132 [.long v1.toInt64, .long 1, .long 8] zGL h) zGL fun x1 h1 => (if x1 = 0 then some (some (.int (-1000000002)), zGL, h1) else (if (400 : Int32) < ((h1.1 46 16) + v1) then some (some (.int (-1000000004)), zGL, h1) else zE sc (d + 1) 131 35 [some (.ref 46), none, some (.long w2), none, some (.int (v1 - (1 : Int32)))] [] zGL h1))) := by
  have he : zEnt 131 [.ref 46, .int v1, .long w2] = [some (.ref 46), some (.int v1), some (.long w2), none, none] := by unfold zEnt; rw [ml_131]; rfl
  unfold zRun
  rw [he]
  refine Eq.trans (ev_iload_n (pc := 0) k_131_0 rfl rfl) ?_
  refine Eq.trans (ev_i2l (pc := 1) k_131_1 rfl) ?_
  refine Eq.trans (ev_lconst (pc := 2) (v := 1) k_131_2 rfl (by decide)) ?_
  refine Eq.trans (ev_ldc2 (pc := 3) (v := 8) k_131_3 rfl) ?_
  refine Eq.trans (ev_si (pc := 6) (as := [.long v1.toInt64, .long 1, .long 8]) (rest := []) k_131_6 rfl rfl rfl (Nat.le_of_ble_eq_true rfl) (Nat.le_of_ble_eq_true rfl)) (z_cbi fun x1 h1 => ?_)
  refine Eq.trans (ev_ifne (pc := 9) k_131_9.1 rfl k_131_9.2) (z_ite ?_ ?_)
  · refine Eq.trans (ev_ldc (pc := 12) (v := (-1000000002)) k_131_12 rfl) ?_
    exact ev_ret_int k_131_14 rfl rt_131
  · refine Eq.trans (ev_aload_n (pc := 15) (x := 46) k_131_15 rfl rfl (by decide)) ?_
    refine Eq.trans (ev_getI (pc := 16) k_131_16 rfl zo_46.1) ?_
    refine Eq.trans (ev_iload_n (pc := 19) k_131_19 rfl rfl) ?_
    refine Eq.trans (ev_iadd (pc := 20) k_131_20 rfl) ?_
    refine Eq.trans (ev_sipush (pc := 21) (v := 400) k_131_21 rfl (by decide)) ?_
    refine Eq.trans (ev_icle (pc := 24) k_131_24.1 rfl k_131_24.2) (z_ite ?_ ?_)
    · refine Eq.trans (ev_ldc (pc := 27) (v := (-1000000004)) k_131_27 rfl) ?_
      exact ev_ret_int k_131_29 rfl rt_131
    · refine Eq.trans (ev_iload_n (pc := 30) k_131_30 rfl rfl) ?_
      refine Eq.trans (ev_iconst (pc := 31) (v := 1) k_131_31 rfl (by decide)) ?_
      refine Eq.trans (ev_isub (pc := 32) k_131_32 rfl) ?_
      refine Eq.trans (ev_istore (pc := 33) (lv' := [some (.ref 46), some (.int v1), some (.long w2), none, some (.int (v1 - (1 : Int32)))]) k_131_33 rfl (Nat.le_of_ble_eq_true rfl) rfl) ?_
      exact ev_mk kd_131_35 rfl

set_option maxRecDepth 100000 in
theorem E_Mo_feed_35 (sc : zSc) (d : Nat) (h : zHp) (w2 : Int64) (v4 : Int32) : zE sc (d + 1) 131 35 [some (.ref 46), none, some (.long w2), none, some (.int v4)] [] zGL h = (if v4 < 0 then some (some (.int (h.1 46 16)), zGL, h) else (if zin (h.1 46 16) 400 = true then zE sc (d + 1) 131 35 [some (.ref 46), none, some (.long w2), none, some (.int (v4 + (-1)))] [] zGL (zPI (zPI h 56 (h.1 46 16).toNatClampNeg (((w2 >>> (((8 : Int32) * v4).toInt64 &&& 63)) &&& (255 : Int64)).toInt32)) 46 16 (((zPI h 56 (h.1 46 16).toNatClampNeg (((w2 >>> (((8 : Int32) * v4).toInt64 &&& 63)) &&& (255 : Int64)).toInt32)).1 46 16) + (1 : Int32))) else none)) := by
  refine Eq.trans (ev_iload (pc := 35) k_131_35 rfl rfl) ?_
  refine Eq.trans (ev_iflt (pc := 37) k_131_37.1 rfl k_131_37.2) (z_ite ?_ ?_)
  · refine Eq.trans (ev_aload_n (pc := 77) (x := 46) k_131_77 rfl rfl (by decide)) ?_
    refine Eq.trans (ev_getI (pc := 78) k_131_78 rfl zo_46.1) ?_
    exact ev_ret_int k_131_81 rfl rt_131
  · refine Eq.trans (ev_aload_n (pc := 40) (x := 46) k_131_40 rfl rfl (by decide)) ?_
    refine Eq.trans (ev_getR (pc := 41) (b := 56) k_131_41 rfl zo_46.1 zg_46_15) ?_
    refine Eq.trans (ev_aload_n (pc := 44) (x := 46) k_131_44 rfl rfl (by decide)) ?_
    refine Eq.trans (ev_getI (pc := 45) k_131_45 rfl zo_46.1) ?_
    refine Eq.trans (ev_lload_n (pc := 48) k_131_48 rfl rfl) ?_
    refine Eq.trans (ev_bipush (pc := 49) (v := 8) k_131_49 rfl (by decide)) ?_
    refine Eq.trans (ev_iload (pc := 51) k_131_51 rfl rfl) ?_
    refine Eq.trans (ev_imul (pc := 53) k_131_53 rfl) ?_
    refine Eq.trans (ev_lshr (pc := 54) k_131_54 rfl) ?_
    refine Eq.trans (ev_ldc2 (pc := 55) (v := 255) k_131_55 rfl) ?_
    refine Eq.trans (ev_land (pc := 58) k_131_58 rfl) ?_
    refine Eq.trans (ev_l2i (pc := 59) k_131_59 rfl) ?_
    refine Eq.trans (ev_iast_c (pc := 60) k_131_60 rfl za_56) (z_it1 ?_)
    refine Eq.trans (ev_aload_n (pc := 61) (x := 46) k_131_61 rfl rfl (by decide)) ?_
    refine Eq.trans (ev_dup (pc := 62) k_131_62 rfl rfl) ?_
    refine Eq.trans (ev_getI (pc := 63) k_131_63 rfl zo_46.1) ?_
    refine Eq.trans (ev_iconst (pc := 66) (v := 1) k_131_66 rfl (by decide)) ?_
    refine Eq.trans (ev_iadd (pc := 67) k_131_67 rfl) ?_
    refine Eq.trans (ev_putI (pc := 68) k_131_68 rfl zo_46.1) ?_
    refine Eq.trans (ev_iinc (pc := 71) (v := (-1)) (lv' := [some (.ref 46), none, some (.long w2), none, some (.int (v4 + (-1)))]) k_131_71 rfl rfl (by decide) rfl) ?_
    refine Eq.trans (ev_goto (pc := 74) k_131_74.1 rfl k_131_74.2) ?_
    exact ev_mk kd_131_35 rfl

set_option maxRecDepth 100000 in
theorem E_Mo_in (sc : zSc) (d : Nat) (h : zHp) (w0 : Int64) (w2 : Int64) (w4 : Int64) : zRun sc d 132 [.long w0, .long w2, .long w4] zGL h = (if w0 < w2 then some (some (.int 0), zGL, h) else (if w4 < w0 then some (some (.int 0), zGL, h) else some (some (.int 1), zGL, h))) := by
  have he : zEnt 132 [.long w0, .long w2, .long w4] = [some (.long w0), none, some (.long w2), none, some (.long w4), none] := by unfold zEnt; rw [ml_132]; rfl
  unfold zRun
  rw [he]
  refine Eq.trans (ev_lload_n (pc := 0) k_132_0 rfl rfl) ?_
  refine Eq.trans (ev_lload_n (pc := 1) k_132_1 rfl rfl) ?_
  refine Eq.trans (ev_lcmp (pc := 2) k_132_2 rfl) ?_
  refine Eq.trans (ev_illt (pc := 3) k_132_3.1 rfl k_132_3.2) (z_ite ?_ ?_)
  · refine Eq.trans (ev_mk (pc := 17) (lv' := [none, none, none, none, none, none]) kd_132_17 rfl) ?_
    refine Eq.trans (ev_iconst (pc := 17) (v := 0) k_132_17 rfl (by decide)) ?_
    exact ev_ret_b1 k_132_18 rfl rt_132 (by decide)
  · refine Eq.trans (ev_lload_n (pc := 6) k_132_6 rfl rfl) ?_
    refine Eq.trans (ev_lload (pc := 7) k_132_7 rfl rfl) ?_
    refine Eq.trans (ev_lcmp (pc := 9) k_132_9 rfl) ?_
    refine Eq.trans (ev_ilgt (pc := 10) k_132_10.1 rfl k_132_10.2) (z_ite ?_ ?_)
    · refine Eq.trans (ev_mk (pc := 17) (lv' := [none, none, none, none, none, none]) kd_132_17 rfl) ?_
      refine Eq.trans (ev_iconst (pc := 17) (v := 0) k_132_17 rfl (by decide)) ?_
      exact ev_ret_b1 k_132_18 rfl rt_132 (by decide)
    · refine Eq.trans (ev_iconst (pc := 13) (v := 1) k_132_13 rfl (by decide)) ?_
      refine Eq.trans (ev_goto (pc := 14) k_132_14.1 rfl k_132_14.2) ?_
      refine Eq.trans (ev_mk (pc := 18) (lv' := [none, none, none, none, none, none]) kd_132_18 rfl) ?_
      exact ev_ret_b1 k_132_18 rfl rt_132 (by decide)

set_option maxRecDepth 100000 in
theorem E_Mo_town (sc : zSc) (d : Nat) (h : zHp)  : zRun sc (d + 1) 133 [.ref 46] zGL h = zE sc (d + 1) 133 27 [some (.ref 46), some (.int 0), none] [] zGL (zPI (zPI (zPI (zPI (zPI h 46 17 (-1)) 46 18 0) 46 23 0) 46 26 0) 46 28 0) := by
  have he : zEnt 133 [.ref 46] = [some (.ref 46), none, none] := by unfold zEnt; rw [ml_133]; rfl
  unfold zRun
  rw [he]
  refine Eq.trans (ev_aload_n (pc := 0) (x := 46) k_133_0 rfl rfl (by decide)) ?_
  refine Eq.trans (ev_iconst (pc := 1) (v := (-1)) k_133_1 rfl (by decide)) ?_
  refine Eq.trans (ev_putI (pc := 2) k_133_2 rfl zo_46.1) ?_
  refine Eq.trans (ev_aload_n (pc := 5) (x := 46) k_133_5 rfl rfl (by decide)) ?_
  refine Eq.trans (ev_iconst (pc := 6) (v := 0) k_133_6 rfl (by decide)) ?_
  refine Eq.trans (ev_putI (pc := 7) k_133_7 rfl zo_46.1) ?_
  refine Eq.trans (ev_aload_n (pc := 10) (x := 46) k_133_10 rfl rfl (by decide)) ?_
  refine Eq.trans (ev_iconst (pc := 11) (v := 0) k_133_11 rfl (by decide)) ?_
  refine Eq.trans (ev_putI (pc := 12) k_133_12 rfl zo_46.1) ?_
  refine Eq.trans (ev_aload_n (pc := 15) (x := 46) k_133_15 rfl rfl (by decide)) ?_
  refine Eq.trans (ev_iconst (pc := 16) (v := 0) k_133_16 rfl (by decide)) ?_
  refine Eq.trans (ev_putI (pc := 17) k_133_17 rfl zo_46.1) ?_
  refine Eq.trans (ev_aload_n (pc := 20) (x := 46) k_133_20 rfl rfl (by decide)) ?_
  refine Eq.trans (ev_iconst (pc := 21) (v := 0) k_133_21 rfl (by decide)) ?_
  refine Eq.trans (ev_putI (pc := 22) k_133_22 rfl zo_46.1) ?_
  refine Eq.trans (ev_iconst (pc := 25) (v := 0) k_133_25 rfl (by decide)) ?_
  refine Eq.trans (ev_istore_n (pc := 26) (lv' := [some (.ref 46), some (.int 0), none]) k_133_26 rfl (Nat.le_of_ble_eq_true rfl) rfl) ?_
  exact ev_mk kd_133_27 rfl

set_option maxRecDepth 100000 in
theorem E_Mo_town_27 (sc : zSc) (d : Nat) (h : zHp) (v1 : Int32) : zE sc (d + 1) 133 27 [some (.ref 46), some (.int v1), none] [] zGL h = (if v1 = 0 then (zBi (zRun sc d 134 [.ref 46] zGL h) zGL fun x1 h1 => (if x1 < 0 then zE sc (d + 1) 133 46 [some (.ref 46), some (.int v1), none] [] zGL h1 else (zBi (zRun sc d 135 [.ref 46] zGL h1) zGL fun x2 h2 => zE sc (d + 1) 133 27 [some (.ref 46), some (.int x2), none] [] zGL h2))) else zE sc (d + 1) 133 46 [some (.ref 46), some (.int v1), none] [] zGL h) := by
  refine Eq.trans (ev_iload_n (pc := 27) k_133_27 rfl rfl) ?_
  refine Eq.trans (ev_ifne (pc := 28) k_133_28.1 rfl k_133_28.2) (z_ite ?_ ?_)
  · refine Eq.trans (ev_aload_n (pc := 31) (x := 46) k_133_31 rfl rfl (by decide)) ?_
    refine Eq.trans (ev_vi (pc := 32) (as := []) (rest := []) k_133_32 rfl zo_46 rfl rfl (Nat.le_of_ble_eq_true rfl) (Nat.le_of_ble_eq_true rfl)) (z_cbi fun x1 h1 => ?_)
    refine Eq.trans (ev_iflt (pc := 35) k_133_35.1 rfl k_133_35.2) (z_ite ?_ ?_)
    · exact ev_mk kd_133_46 rfl
    · refine Eq.trans (ev_aload_n (pc := 38) (x := 46) k_133_38 rfl rfl (by decide)) ?_
      refine Eq.trans (ev_vi (pc := 39) (as := []) (rest := []) k_133_39 rfl zo_46 rfl rfl (Nat.le_of_ble_eq_true rfl) (Nat.le_of_ble_eq_true rfl)) (z_cbi fun x2 h2 => ?_)
      refine Eq.trans (ev_istore_n (pc := 42) (lv' := [some (.ref 46), some (.int x2), none]) k_133_42 rfl (Nat.le_of_ble_eq_true rfl) rfl) ?_
      refine Eq.trans (ev_goto (pc := 43) k_133_43.1 rfl k_133_43.2) ?_
      exact ev_mk kd_133_27 rfl
  · exact ev_mk kd_133_46 rfl

set_option maxRecDepth 100000 in
theorem E_Mo_town_46 (sc : zSc) (d : Nat) (h : zHp) (v1 : Int32) : zE sc (d + 1) 133 46 [some (.ref 46), some (.int v1), none] [] zGL h = (if 0 < v1 then some (some (.int (((-10) : Int32) - v1)), zGL, zPI h 46 16 0) else (if 0 < ((zPI (zPI (zPI h 46 16 0) 46 0 ((zPI h 46 16 0).1 46 23)) 46 3 ((zPI (zPI h 46 16 0) 46 0 ((zPI h 46 16 0).1 46 23)).1 46 26)).1 46 28) then zE sc (d + 1) 133 98 [some (.ref 46), none, some (.int 0)] [] zGL (zPI (zPI (zPI (zPI h 46 16 0) 46 0 ((zPI h 46 16 0).1 46 23)) 46 3 ((zPI (zPI h 46 16 0) 46 0 ((zPI h 46 16 0).1 46 23)).1 46 26)) 46 5 ((zPI (zPI (zPI h 46 16 0) 46 0 ((zPI h 46 16 0).1 46 23)) 46 3 ((zPI (zPI h 46 16 0) 46 0 ((zPI h 46 16 0).1 46 23)).1 46 26)).1 46 28)) else zE sc (d + 1) 133 98 [some (.ref 46), none, some (.int 0)] [] zGL (zPI (zPI (zPI (zPI h 46 16 0) 46 0 ((zPI h 46 16 0).1 46 23)) 46 3 ((zPI (zPI h 46 16 0) 46 0 ((zPI h 46 16 0).1 46 23)).1 46 26)) 46 5 10))) := by
  refine Eq.trans (ev_aload_n (pc := 46) (x := 46) k_133_46 rfl rfl (by decide)) ?_
  refine Eq.trans (ev_iconst (pc := 47) (v := 0) k_133_47 rfl (by decide)) ?_
  refine Eq.trans (ev_putI (pc := 48) k_133_48 rfl zo_46.1) ?_
  refine Eq.trans (ev_iload_n (pc := 51) k_133_51 rfl rfl) ?_
  refine Eq.trans (ev_ifle (pc := 52) k_133_52.1 rfl k_133_52.2) (z_ite ?_ ?_)
  · refine Eq.trans (ev_bipush (pc := 55) (v := (-10)) k_133_55 rfl (by decide)) ?_
    refine Eq.trans (ev_iload_n (pc := 57) k_133_57 rfl rfl) ?_
    refine Eq.trans (ev_isub (pc := 58) k_133_58 rfl) ?_
    exact ev_ret_int k_133_59 rfl rt_133
  · refine Eq.trans (ev_aload_n (pc := 60) (x := 46) k_133_60 rfl rfl (by decide)) ?_
    refine Eq.trans (ev_aload_n (pc := 61) (x := 46) k_133_61 rfl rfl (by decide)) ?_
    refine Eq.trans (ev_getI (pc := 62) k_133_62 rfl zo_46.1) ?_
    refine Eq.trans (ev_putI (pc := 65) k_133_65 rfl zo_46.1) ?_
    refine Eq.trans (ev_aload_n (pc := 68) (x := 46) k_133_68 rfl rfl (by decide)) ?_
    refine Eq.trans (ev_aload_n (pc := 69) (x := 46) k_133_69 rfl rfl (by decide)) ?_
    refine Eq.trans (ev_getI (pc := 70) k_133_70 rfl zo_46.1) ?_
    refine Eq.trans (ev_putI (pc := 73) k_133_73 rfl zo_46.1) ?_
    refine Eq.trans (ev_aload_n (pc := 76) (x := 46) k_133_76 rfl rfl (by decide)) ?_
    refine Eq.trans (ev_aload_n (pc := 77) (x := 46) k_133_77 rfl rfl (by decide)) ?_
    refine Eq.trans (ev_getI (pc := 78) k_133_78 rfl zo_46.1) ?_
    refine Eq.trans (ev_ifle (pc := 81) k_133_81.1 rfl k_133_81.2) (z_ite ?_ ?_)
    · refine Eq.trans (ev_aload_n (pc := 84) (x := 46) k_133_84 rfl rfl (by decide)) ?_
      refine Eq.trans (ev_getI (pc := 85) k_133_85 rfl zo_46.1) ?_
      refine Eq.trans (ev_goto (pc := 88) k_133_88.1 rfl k_133_88.2) ?_
      refine Eq.trans (ev_mk (pc := 93) (lv' := [some (.ref 46), none, none]) kd_133_93 rfl) ?_
      refine Eq.trans (ev_putI (pc := 93) k_133_93 rfl zo_46.1) ?_
      refine Eq.trans (ev_iconst (pc := 96) (v := 0) k_133_96 rfl (by decide)) ?_
      refine Eq.trans (ev_istore_n (pc := 97) (lv' := [some (.ref 46), none, some (.int 0)]) k_133_97 rfl (Nat.le_of_ble_eq_true rfl) rfl) ?_
      exact ev_mk kd_133_98 rfl
    · refine Eq.trans (ev_bipush (pc := 91) (v := 10) k_133_91 rfl (by decide)) ?_
      refine Eq.trans (ev_mk (pc := 93) (lv' := [some (.ref 46), none, none]) kd_133_93 rfl) ?_
      refine Eq.trans (ev_putI (pc := 93) k_133_93 rfl zo_46.1) ?_
      refine Eq.trans (ev_iconst (pc := 96) (v := 0) k_133_96 rfl (by decide)) ?_
      refine Eq.trans (ev_istore_n (pc := 97) (lv' := [some (.ref 46), none, some (.int 0)]) k_133_97 rfl (Nat.le_of_ble_eq_true rfl) rfl) ?_
      exact ev_mk kd_133_98 rfl

set_option maxRecDepth 100000 in
theorem E_Mo_town_98 (sc : zSc) (d : Nat) (h : zHp) (v2 : Int32) : zE sc (d + 1) 133 98 [some (.ref 46), none, some (.int v2)] [] zGL h = (if v2 < (6 : Int32) then (if zin v2 6 = true then (if zin v2 6 = true then (if v2 < ((zPI h 47 v2.toNatClampNeg (h.1 57 v2.toNatClampNeg)).1 46 0) then (if zin v2 6 = true then (if zin v2 6 = true then zE sc (d + 1) 133 98 [some (.ref 46), none, some (.int (v2 + 1))] [] zGL (zPI (zPI h 47 v2.toNatClampNeg (h.1 57 v2.toNatClampNeg)) 48 v2.toNatClampNeg ((zPI h 47 v2.toNatClampNeg (h.1 57 v2.toNatClampNeg)).1 58 v2.toNatClampNeg)) else none) else none) else (if zin v2 6 = true then zE sc (d + 1) 133 98 [some (.ref 46), none, some (.int (v2 + 1))] [] zGL (zPI (zPI h 47 v2.toNatClampNeg (h.1 57 v2.toNatClampNeg)) 48 v2.toNatClampNeg 0) else none)) else none) else none) else zE sc (d + 1) 133 148 [some (.ref 46), none, some (.int 0)] [] zGL h) := by
  refine Eq.trans (ev_iload_n (pc := 98) k_133_98 rfl rfl) ?_
  refine Eq.trans (ev_bipush (pc := 99) (v := 6) k_133_99 rfl (by decide)) ?_
  refine Eq.trans (ev_icge (pc := 101) k_133_101.1 rfl k_133_101.2) (z_ite ?_ ?_)
  · refine Eq.trans (ev_aload_n (pc := 104) (x := 46) k_133_104 rfl rfl (by decide)) ?_
    refine Eq.trans (ev_getR (pc := 105) (b := 47) k_133_105 rfl zo_46.1 zg_46_1) ?_
    refine Eq.trans (ev_iload_n (pc := 108) k_133_108 rfl rfl) ?_
    refine Eq.trans (ev_aload_n (pc := 109) (x := 46) k_133_109 rfl rfl (by decide)) ?_
    refine Eq.trans (ev_getR (pc := 110) (b := 57) k_133_110 rfl zo_46.1 zg_46_24) ?_
    refine Eq.trans (ev_iload_n (pc := 113) k_133_113 rfl rfl) ?_
    refine Eq.trans (ev_iald_c (pc := 114) k_133_114 rfl za_57) (z_it1 ?_)
    refine Eq.trans (ev_iast_c (pc := 115) k_133_115 rfl za_47) (z_it1 ?_)
    refine Eq.trans (ev_aload_n (pc := 116) (x := 46) k_133_116 rfl rfl (by decide)) ?_
    refine Eq.trans (ev_getR (pc := 117) (b := 48) k_133_117 rfl zo_46.1 zg_46_2) ?_
    refine Eq.trans (ev_iload_n (pc := 120) k_133_120 rfl rfl) ?_
    refine Eq.trans (ev_iload_n (pc := 121) k_133_121 rfl rfl) ?_
    refine Eq.trans (ev_aload_n (pc := 122) (x := 46) k_133_122 rfl rfl (by decide)) ?_
    refine Eq.trans (ev_getI (pc := 123) k_133_123 rfl zo_46.1) ?_
    refine Eq.trans (ev_icge (pc := 126) k_133_126.1 rfl k_133_126.2) (z_ite ?_ ?_)
    · refine Eq.trans (ev_aload_n (pc := 129) (x := 46) k_133_129 rfl rfl (by decide)) ?_
      refine Eq.trans (ev_getR (pc := 130) (b := 58) k_133_130 rfl zo_46.1 zg_46_25) ?_
      refine Eq.trans (ev_iload_n (pc := 133) k_133_133 rfl rfl) ?_
      refine Eq.trans (ev_iald_c (pc := 134) k_133_134 rfl za_58) (z_it1 ?_)
      refine Eq.trans (ev_goto (pc := 135) k_133_135.1 rfl k_133_135.2) ?_
      refine Eq.trans (ev_iast_c (pc := 139) k_133_139 rfl za_48) (z_it1 ?_)
      refine Eq.trans (ev_iinc (pc := 140) (v := 1) (lv' := [some (.ref 46), none, some (.int (v2 + 1))]) k_133_140 rfl rfl (by decide) rfl) ?_
      refine Eq.trans (ev_goto (pc := 143) k_133_143.1 rfl k_133_143.2) ?_
      exact ev_mk kd_133_98 rfl
    · refine Eq.trans (ev_iconst (pc := 138) (v := 0) k_133_138 rfl (by decide)) ?_
      refine Eq.trans (ev_iast_c (pc := 139) k_133_139 rfl za_48) (z_it1 ?_)
      refine Eq.trans (ev_iinc (pc := 140) (v := 1) (lv' := [some (.ref 46), none, some (.int (v2 + 1))]) k_133_140 rfl rfl (by decide) rfl) ?_
      refine Eq.trans (ev_goto (pc := 143) k_133_143.1 rfl k_133_143.2) ?_
      exact ev_mk kd_133_98 rfl
  · refine Eq.trans (ev_iconst (pc := 146) (v := 0) k_133_146 rfl (by decide)) ?_
    refine Eq.trans (ev_istore_n (pc := 147) (lv' := [some (.ref 46), none, some (.int 0)]) k_133_147 rfl (Nat.le_of_ble_eq_true rfl) rfl) ?_
    exact ev_mk kd_133_148 rfl

set_option maxRecDepth 100000 in
theorem E_Mo_town_148 (sc : zSc) (d : Nat) (h : zHp) (v2 : Int32) : zE sc (d + 1) 133 148 [some (.ref 46), none, some (.int v2)] [] zGL h = (if v2 < (5 : Int32) then (if v2 < (h.1 46 3) then (if zin v2 5 = true then (if zin v2 5 = true then zE sc (d + 1) 133 148 [some (.ref 46), none, some (.int (v2 + 1))] [] zGL (zPI h 49 v2.toNatClampNeg (h.1 59 v2.toNatClampNeg)) else none) else none) else (if zin v2 5 = true then zE sc (d + 1) 133 148 [some (.ref 46), none, some (.int (v2 + 1))] [] zGL (zPI h 49 v2.toNatClampNeg 0) else none)) else (zBv (zRun sc d 126 [.ref 46] zGL (zPI (zPI (zPI h 46 35 0) 72 0 0) 72 1 0)) zGL fun h1 => (zBv (zRun sc d 127 [.ref 46] zGL h1) zGL fun h2 => some (some (.int (h2.1 46 3)), zGL, h2)))) := by
  refine Eq.trans (ev_iload_n (pc := 148) k_133_148 rfl rfl) ?_
  refine Eq.trans (ev_iconst (pc := 149) (v := 5) k_133_149 rfl (by decide)) ?_
  refine Eq.trans (ev_icge (pc := 150) k_133_150.1 rfl k_133_150.2) (z_ite ?_ ?_)
  · refine Eq.trans (ev_aload_n (pc := 153) (x := 46) k_133_153 rfl rfl (by decide)) ?_
    refine Eq.trans (ev_getR (pc := 154) (b := 49) k_133_154 rfl zo_46.1 zg_46_4) ?_
    refine Eq.trans (ev_iload_n (pc := 157) k_133_157 rfl rfl) ?_
    refine Eq.trans (ev_iload_n (pc := 158) k_133_158 rfl rfl) ?_
    refine Eq.trans (ev_aload_n (pc := 159) (x := 46) k_133_159 rfl rfl (by decide)) ?_
    refine Eq.trans (ev_getI (pc := 160) k_133_160 rfl zo_46.1) ?_
    refine Eq.trans (ev_icge (pc := 163) k_133_163.1 rfl k_133_163.2) (z_ite ?_ ?_)
    · refine Eq.trans (ev_aload_n (pc := 166) (x := 46) k_133_166 rfl rfl (by decide)) ?_
      refine Eq.trans (ev_getR (pc := 167) (b := 59) k_133_167 rfl zo_46.1 zg_46_27) ?_
      refine Eq.trans (ev_iload_n (pc := 170) k_133_170 rfl rfl) ?_
      refine Eq.trans (ev_iald_c (pc := 171) k_133_171 rfl za_59) (z_it1 ?_)
      refine Eq.trans (ev_goto (pc := 172) k_133_172.1 rfl k_133_172.2) ?_
      refine Eq.trans (ev_iast_c (pc := 176) k_133_176 rfl za_49) (z_it1 ?_)
      refine Eq.trans (ev_iinc (pc := 177) (v := 1) (lv' := [some (.ref 46), none, some (.int (v2 + 1))]) k_133_177 rfl rfl (by decide) rfl) ?_
      refine Eq.trans (ev_goto (pc := 180) k_133_180.1 rfl k_133_180.2) ?_
      exact ev_mk kd_133_148 rfl
    · refine Eq.trans (ev_iconst (pc := 175) (v := 0) k_133_175 rfl (by decide)) ?_
      refine Eq.trans (ev_iast_c (pc := 176) k_133_176 rfl za_49) (z_it1 ?_)
      refine Eq.trans (ev_iinc (pc := 177) (v := 1) (lv' := [some (.ref 46), none, some (.int (v2 + 1))]) k_133_177 rfl rfl (by decide) rfl) ?_
      refine Eq.trans (ev_goto (pc := 180) k_133_180.1 rfl k_133_180.2) ?_
      exact ev_mk kd_133_148 rfl
  · refine Eq.trans (ev_aload_n (pc := 183) (x := 46) k_133_183 rfl rfl (by decide)) ?_
    refine Eq.trans (ev_iconst (pc := 184) (v := 0) k_133_184 rfl (by decide)) ?_
    refine Eq.trans (ev_putI (pc := 185) k_133_185 rfl zo_46.1) ?_
    refine Eq.trans (ev_aload_n (pc := 188) (x := 46) k_133_188 rfl rfl (by decide)) ?_
    refine Eq.trans (ev_getR (pc := 189) (b := 72) k_133_189 rfl zo_46.1 zg_46_42) ?_
    refine Eq.trans (ev_iconst (pc := 192) (v := 0) k_133_192 rfl (by decide)) ?_
    refine Eq.trans (ev_iconst (pc := 193) (v := 0) k_133_193 rfl (by decide)) ?_
    refine Eq.trans (ev_bast_k (pc := 194) (m := 0) k_133_194 rfl za_72 (by decide) (by decide)) ?_
    refine Eq.trans (ev_aload_n (pc := 195) (x := 46) k_133_195 rfl rfl (by decide)) ?_
    refine Eq.trans (ev_getR (pc := 196) (b := 72) k_133_196 rfl zo_46.1 zg_46_42) ?_
    refine Eq.trans (ev_iconst (pc := 199) (v := 1) k_133_199 rfl (by decide)) ?_
    refine Eq.trans (ev_iconst (pc := 200) (v := 0) k_133_200 rfl (by decide)) ?_
    refine Eq.trans (ev_bast_k (pc := 201) (m := 1) k_133_201 rfl za_72 (by decide) (by decide)) ?_
    refine Eq.trans (ev_aload_n (pc := 202) (x := 46) k_133_202 rfl rfl (by decide)) ?_
    refine Eq.trans (ev_vv (pc := 203) (as := []) (rest := []) k_133_203 rfl zo_46 rfl rfl (Nat.le_of_ble_eq_true rfl) (Nat.le_of_ble_eq_true rfl)) (z_cbv fun h1 => ?_)
    refine Eq.trans (ev_aload_n (pc := 206) (x := 46) k_133_206 rfl rfl (by decide)) ?_
    refine Eq.trans (ev_vv (pc := 207) (as := []) (rest := []) k_133_207 rfl zo_46 rfl rfl (Nat.le_of_ble_eq_true rfl) (Nat.le_of_ble_eq_true rfl)) (z_cbv fun h2 => ?_)
    refine Eq.trans (ev_aload_n (pc := 210) (x := 46) k_133_210 rfl rfl (by decide)) ?_
    refine Eq.trans (ev_getI (pc := 211) k_133_211 rfl zo_46.1) ?_
    exact ev_ret_int k_133_214 rfl rt_133

set_option maxRecDepth 100000 in
theorem E_Mo_here (sc : zSc) (d : Nat) (h : zHp)  : zRun sc d 134 [.ref 46] zGL h = (if (h.1 46 18) < (h.1 46 16) then (if zin (h.1 46 18) 400 = true then (if (h.1 56 (h.1 46 18).toNatClampNeg) = (32 : Int32) then zE sc d 134 0 [some (.ref 46)] [] zGL (zPI h 46 18 ((h.1 46 18) + (1 : Int32))) else zE sc d 134 38 [some (.ref 46)] [] zGL h) else none) else zE sc d 134 38 [some (.ref 46)] [] zGL h) := by
  have he : zEnt 134 [.ref 46] = [some (.ref 46)] := by unfold zEnt; rw [ml_134]; rfl
  unfold zRun
  rw [he]
  refine Eq.trans (ev_aload_n (pc := 0) (x := 46) k_134_0 rfl rfl (by decide)) ?_
  refine Eq.trans (ev_getI (pc := 1) k_134_1 rfl zo_46.1) ?_
  refine Eq.trans (ev_aload_n (pc := 4) (x := 46) k_134_4 rfl rfl (by decide)) ?_
  refine Eq.trans (ev_getI (pc := 5) k_134_5 rfl zo_46.1) ?_
  refine Eq.trans (ev_icge (pc := 8) k_134_8.1 rfl k_134_8.2) (z_ite ?_ ?_)
  · refine Eq.trans (ev_aload_n (pc := 11) (x := 46) k_134_11 rfl rfl (by decide)) ?_
    refine Eq.trans (ev_getR (pc := 12) (b := 56) k_134_12 rfl zo_46.1 zg_46_15) ?_
    refine Eq.trans (ev_aload_n (pc := 15) (x := 46) k_134_15 rfl rfl (by decide)) ?_
    refine Eq.trans (ev_getI (pc := 16) k_134_16 rfl zo_46.1) ?_
    refine Eq.trans (ev_iald_c (pc := 19) k_134_19 rfl za_56) (z_it1 ?_)
    refine Eq.trans (ev_bipush (pc := 20) (v := 32) k_134_20 rfl (by decide)) ?_
    refine Eq.trans (ev_icne (pc := 22) k_134_22.1 rfl k_134_22.2) (z_ite ?_ ?_)
    · refine Eq.trans (ev_aload_n (pc := 25) (x := 46) k_134_25 rfl rfl (by decide)) ?_
      refine Eq.trans (ev_dup (pc := 26) k_134_26 rfl rfl) ?_
      refine Eq.trans (ev_getI (pc := 27) k_134_27 rfl zo_46.1) ?_
      refine Eq.trans (ev_iconst (pc := 30) (v := 1) k_134_30 rfl (by decide)) ?_
      refine Eq.trans (ev_iadd (pc := 31) k_134_31 rfl) ?_
      refine Eq.trans (ev_putI (pc := 32) k_134_32 rfl zo_46.1) ?_
      refine Eq.trans (ev_goto (pc := 35) k_134_35.1 rfl k_134_35.2) ?_
      exact ev_mk kd_134_0 rfl
    · exact ev_mk kd_134_38 rfl
  · exact ev_mk kd_134_38 rfl

set_option maxRecDepth 100000 in
theorem E_Mo_here_0 (sc : zSc) (d : Nat) (h : zHp)  : zE sc d 134 0 [some (.ref 46)] [] zGL h = (if (h.1 46 18) < (h.1 46 16) then (if zin (h.1 46 18) 400 = true then (if (h.1 56 (h.1 46 18).toNatClampNeg) = (32 : Int32) then zE sc d 134 0 [some (.ref 46)] [] zGL (zPI h 46 18 ((h.1 46 18) + (1 : Int32))) else zE sc d 134 38 [some (.ref 46)] [] zGL h) else none) else zE sc d 134 38 [some (.ref 46)] [] zGL h) := by
  refine Eq.trans (ev_aload_n (pc := 0) (x := 46) k_134_0 rfl rfl (by decide)) ?_
  refine Eq.trans (ev_getI (pc := 1) k_134_1 rfl zo_46.1) ?_
  refine Eq.trans (ev_aload_n (pc := 4) (x := 46) k_134_4 rfl rfl (by decide)) ?_
  refine Eq.trans (ev_getI (pc := 5) k_134_5 rfl zo_46.1) ?_
  refine Eq.trans (ev_icge (pc := 8) k_134_8.1 rfl k_134_8.2) (z_ite ?_ ?_)
  · refine Eq.trans (ev_aload_n (pc := 11) (x := 46) k_134_11 rfl rfl (by decide)) ?_
    refine Eq.trans (ev_getR (pc := 12) (b := 56) k_134_12 rfl zo_46.1 zg_46_15) ?_
    refine Eq.trans (ev_aload_n (pc := 15) (x := 46) k_134_15 rfl rfl (by decide)) ?_
    refine Eq.trans (ev_getI (pc := 16) k_134_16 rfl zo_46.1) ?_
    refine Eq.trans (ev_iald_c (pc := 19) k_134_19 rfl za_56) (z_it1 ?_)
    refine Eq.trans (ev_bipush (pc := 20) (v := 32) k_134_20 rfl (by decide)) ?_
    refine Eq.trans (ev_icne (pc := 22) k_134_22.1 rfl k_134_22.2) (z_ite ?_ ?_)
    · refine Eq.trans (ev_aload_n (pc := 25) (x := 46) k_134_25 rfl rfl (by decide)) ?_
      refine Eq.trans (ev_dup (pc := 26) k_134_26 rfl rfl) ?_
      refine Eq.trans (ev_getI (pc := 27) k_134_27 rfl zo_46.1) ?_
      refine Eq.trans (ev_iconst (pc := 30) (v := 1) k_134_30 rfl (by decide)) ?_
      refine Eq.trans (ev_iadd (pc := 31) k_134_31 rfl) ?_
      refine Eq.trans (ev_putI (pc := 32) k_134_32 rfl zo_46.1) ?_
      refine Eq.trans (ev_goto (pc := 35) k_134_35.1 rfl k_134_35.2) ?_
      exact ev_mk kd_134_0 rfl
    · exact ev_mk kd_134_38 rfl
  · exact ev_mk kd_134_38 rfl

set_option maxRecDepth 100000 in
theorem E_Mo_here_38 (sc : zSc) (d : Nat) (h : zHp)  : zE sc d 134 38 [some (.ref 46)] [] zGL h = (if (h.1 46 18) < (h.1 46 16) then (if zin (h.1 46 18) 400 = true then some (some (.int (h.1 56 (h.1 46 18).toNatClampNeg)), zGL, h) else none) else some (some (.int (-1)), zGL, h)) := by
  refine Eq.trans (ev_aload_n (pc := 38) (x := 46) k_134_38 rfl rfl (by decide)) ?_
  refine Eq.trans (ev_getI (pc := 39) k_134_39 rfl zo_46.1) ?_
  refine Eq.trans (ev_aload_n (pc := 42) (x := 46) k_134_42 rfl rfl (by decide)) ?_
  refine Eq.trans (ev_getI (pc := 43) k_134_43 rfl zo_46.1) ?_
  refine Eq.trans (ev_icge (pc := 46) k_134_46.1 rfl k_134_46.2) (z_ite ?_ ?_)
  · refine Eq.trans (ev_aload_n (pc := 49) (x := 46) k_134_49 rfl rfl (by decide)) ?_
    refine Eq.trans (ev_getR (pc := 50) (b := 56) k_134_50 rfl zo_46.1 zg_46_15) ?_
    refine Eq.trans (ev_aload_n (pc := 53) (x := 46) k_134_53 rfl rfl (by decide)) ?_
    refine Eq.trans (ev_getI (pc := 54) k_134_54 rfl zo_46.1) ?_
    refine Eq.trans (ev_iald_c (pc := 57) k_134_57 rfl za_56) (z_it1 ?_)
    refine Eq.trans (ev_goto (pc := 58) k_134_58.1 rfl k_134_58.2) ?_
    refine Eq.trans (ev_mk (pc := 62) (lv' := [none]) kd_134_62 rfl) ?_
    exact ev_ret_int k_134_62 rfl rt_134
  · refine Eq.trans (ev_iconst (pc := 61) (v := (-1)) k_134_61 rfl (by decide)) ?_
    refine Eq.trans (ev_mk (pc := 62) (lv' := [none]) kd_134_62 rfl) ?_
    exact ev_ret_int k_134_62 rfl rt_134

set_option maxRecDepth 100000 in
theorem E_Mo_takeClause (sc : zSc) (d : Nat) (h : zHp)  : zRun sc (d + 1) 135 [.ref 46] zGL h = (zBv (zRun sc d 136 [.ref 46] zGL h) zGL fun h1 => (zBj (zRun sc d 137 [.int 104, .int 97, .int 116, .int 115] zGL h1) zGL fun x2 h2 => (if (h1.2.1 46 19) = x2 then zE sc (d + 1) 135 84 [some (.ref 46), none, none] [.int 0] zGL h2 else (zBj (zRun sc d 137 [.int 102, .int 97, .int 99, .int 116] zGL h2) zGL fun x3 h3 => (if (h2.2.1 46 19) = x3 then zE sc (d + 1) 135 84 [some (.ref 46), none, none] [.int 1] zGL h3 else (zBj (zRun sc d 137 [.int 112, .int 101, .int 114, .int 115] zGL h3) zGL fun x4 h4 => (zBj (zRun sc d 138 [.long x4, .int 111] zGL h4) zGL fun x5 h5 => (zBj (zRun sc d 138 [.long x5, .int 110] zGL h5) zGL fun x6 h6 => (if (h3.2.1 46 19) = x6 then zE sc (d + 1) 135 84 [some (.ref 46), none, none] [.int 2] zGL h6 else zE sc (d + 1) 135 84 [some (.ref 46), none, none] [.int (-1)] zGL h6))))))))) := by
  have he : zEnt 135 [.ref 46] = [some (.ref 46), none, none] := by unfold zEnt; rw [ml_135]; rfl
  unfold zRun
  rw [he]
  refine Eq.trans (ev_aload_n (pc := 0) (x := 46) k_135_0 rfl rfl (by decide)) ?_
  refine Eq.trans (ev_vv (pc := 1) (as := []) (rest := []) k_135_1 rfl zo_46 rfl rfl (Nat.le_of_ble_eq_true rfl) (Nat.le_of_ble_eq_true rfl)) (z_cbv fun h1 => ?_)
  refine Eq.trans (ev_aload_n (pc := 4) (x := 46) k_135_4 rfl rfl (by decide)) ?_
  refine Eq.trans (ev_getL (pc := 5) k_135_5 rfl zo_46.1) ?_
  refine Eq.trans (ev_bipush (pc := 8) (v := 104) k_135_8 rfl (by decide)) ?_
  refine Eq.trans (ev_bipush (pc := 10) (v := 97) k_135_10 rfl (by decide)) ?_
  refine Eq.trans (ev_bipush (pc := 12) (v := 116) k_135_12 rfl (by decide)) ?_
  refine Eq.trans (ev_bipush (pc := 14) (v := 115) k_135_14 rfl (by decide)) ?_
  refine Eq.trans (ev_sj (pc := 16) (as := [.int 104, .int 97, .int 116, .int 115]) (rest := [.long (h1.2.1 46 19)]) k_135_16 rfl rfl rfl (Nat.le_of_ble_eq_true rfl) (Nat.le_of_ble_eq_true rfl)) (z_cbj fun x2 h2 => ?_)
  refine Eq.trans (ev_lcmp (pc := 19) k_135_19 rfl) ?_
  refine Eq.trans (ev_ilne (pc := 20) k_135_20.1 rfl k_135_20.2) (z_ite ?_ ?_)
  · refine Eq.trans (ev_iconst (pc := 23) (v := 0) k_135_23 rfl (by decide)) ?_
    refine Eq.trans (ev_goto (pc := 24) k_135_24.1 rfl k_135_24.2) ?_
    exact ev_mk kd_135_84 rfl
  · refine Eq.trans (ev_aload_n (pc := 27) (x := 46) k_135_27 rfl rfl (by decide)) ?_
    refine Eq.trans (ev_getL (pc := 28) k_135_28 rfl zo_46.1) ?_
    refine Eq.trans (ev_bipush (pc := 31) (v := 102) k_135_31 rfl (by decide)) ?_
    refine Eq.trans (ev_bipush (pc := 33) (v := 97) k_135_33 rfl (by decide)) ?_
    refine Eq.trans (ev_bipush (pc := 35) (v := 99) k_135_35 rfl (by decide)) ?_
    refine Eq.trans (ev_bipush (pc := 37) (v := 116) k_135_37 rfl (by decide)) ?_
    refine Eq.trans (ev_sj (pc := 39) (as := [.int 102, .int 97, .int 99, .int 116]) (rest := [.long (h2.2.1 46 19)]) k_135_39 rfl rfl rfl (Nat.le_of_ble_eq_true rfl) (Nat.le_of_ble_eq_true rfl)) (z_cbj fun x3 h3 => ?_)
    refine Eq.trans (ev_lcmp (pc := 42) k_135_42 rfl) ?_
    refine Eq.trans (ev_ilne (pc := 43) k_135_43.1 rfl k_135_43.2) (z_ite ?_ ?_)
    · refine Eq.trans (ev_iconst (pc := 46) (v := 1) k_135_46 rfl (by decide)) ?_
      refine Eq.trans (ev_goto (pc := 47) k_135_47.1 rfl k_135_47.2) ?_
      exact ev_mk kd_135_84 rfl
    · refine Eq.trans (ev_aload_n (pc := 50) (x := 46) k_135_50 rfl rfl (by decide)) ?_
      refine Eq.trans (ev_getL (pc := 51) k_135_51 rfl zo_46.1) ?_
      refine Eq.trans (ev_bipush (pc := 54) (v := 112) k_135_54 rfl (by decide)) ?_
      refine Eq.trans (ev_bipush (pc := 56) (v := 101) k_135_56 rfl (by decide)) ?_
      refine Eq.trans (ev_bipush (pc := 58) (v := 114) k_135_58 rfl (by decide)) ?_
      refine Eq.trans (ev_bipush (pc := 60) (v := 115) k_135_60 rfl (by decide)) ?_
      refine Eq.trans (ev_sj (pc := 62) (as := [.int 112, .int 101, .int 114, .int 115]) (rest := [.long (h3.2.1 46 19)]) k_135_62 rfl rfl rfl (Nat.le_of_ble_eq_true rfl) (Nat.le_of_ble_eq_true rfl)) (z_cbj fun x4 h4 => ?_)
      refine Eq.trans (ev_bipush (pc := 65) (v := 111) k_135_65 rfl (by decide)) ?_
      refine Eq.trans (ev_sj (pc := 67) (as := [.long x4, .int 111]) (rest := [.long (h3.2.1 46 19)]) k_135_67 rfl rfl rfl (Nat.le_of_ble_eq_true rfl) (Nat.le_of_ble_eq_true rfl)) (z_cbj fun x5 h5 => ?_)
      refine Eq.trans (ev_bipush (pc := 70) (v := 110) k_135_70 rfl (by decide)) ?_
      refine Eq.trans (ev_sj (pc := 72) (as := [.long x5, .int 110]) (rest := [.long (h3.2.1 46 19)]) k_135_72 rfl rfl rfl (Nat.le_of_ble_eq_true rfl) (Nat.le_of_ble_eq_true rfl)) (z_cbj fun x6 h6 => ?_)
      refine Eq.trans (ev_lcmp (pc := 75) k_135_75 rfl) ?_
      refine Eq.trans (ev_ilne (pc := 76) k_135_76.1 rfl k_135_76.2) (z_ite ?_ ?_)
      · refine Eq.trans (ev_iconst (pc := 79) (v := 2) k_135_79 rfl (by decide)) ?_
        refine Eq.trans (ev_goto (pc := 80) k_135_80.1 rfl k_135_80.2) ?_
        exact ev_mk kd_135_84 rfl
      · refine Eq.trans (ev_iconst (pc := 83) (v := (-1)) k_135_83 rfl (by decide)) ?_
        exact ev_mk kd_135_84 rfl

set_option maxRecDepth 100000 in
theorem E_Mo_takeClause_84 (sc : zSc) (d : Nat) (h : zHp) (s0 : Int32) : zE sc (d + 1) 135 84 [some (.ref 46), none, none] [.int s0] zGL h = (if s0 < 0 then zE sc (d + 1) 135 101 [some (.ref 46), none, none] [] zGL h else (if s0 = (1 : Int32) then (if 0 < (h.1 46 26) then zE sc (d + 1) 135 101 [some (.ref 46), none, none] [] zGL h else zE sc (d + 1) 135 111 [some (.ref 46), some (.int s0), none] [] zGL h) else zE sc (d + 1) 135 111 [some (.ref 46), some (.int s0), none] [] zGL h)) := by
  refine Eq.trans (ev_istore_n (pc := 84) (lv' := [some (.ref 46), some (.int s0), none]) k_135_84 rfl (Nat.le_of_ble_eq_true rfl) rfl) ?_
  refine Eq.trans (ev_iload_n (pc := 85) k_135_85 rfl rfl) ?_
  refine Eq.trans (ev_iflt (pc := 86) k_135_86.1 rfl k_135_86.2) (z_ite ?_ ?_)
  · exact ev_mk kd_135_101 rfl
  · refine Eq.trans (ev_iload_n (pc := 89) k_135_89 rfl rfl) ?_
    refine Eq.trans (ev_iconst (pc := 90) (v := 1) k_135_90 rfl (by decide)) ?_
    refine Eq.trans (ev_icne (pc := 91) k_135_91.1 rfl k_135_91.2) (z_ite ?_ ?_)
    · refine Eq.trans (ev_aload_n (pc := 94) (x := 46) k_135_94 rfl rfl (by decide)) ?_
      refine Eq.trans (ev_getI (pc := 95) k_135_95 rfl zo_46.1) ?_
      refine Eq.trans (ev_ifle (pc := 98) k_135_98.1 rfl k_135_98.2) (z_ite ?_ ?_)
      · exact ev_mk kd_135_101 rfl
      · exact ev_mk kd_135_111 rfl
    · exact ev_mk kd_135_111 rfl

set_option maxRecDepth 100000 in
theorem E_Mo_takeClause_101 (sc : zSc) (d : Nat) (h : zHp)  : zE sc (d + 1) 135 101 [some (.ref 46), none, none] [] zGL h = (zBi (zRun sc d 139 [.ref 46, .int 1, .int (h.1 46 18)] zGL h) zGL fun x1 h1 => some (some (.int x1), zGL, h1)) := by
  refine Eq.trans (ev_aload_n (pc := 101) (x := 46) k_135_101 rfl rfl (by decide)) ?_
  refine Eq.trans (ev_iconst (pc := 102) (v := 1) k_135_102 rfl (by decide)) ?_
  refine Eq.trans (ev_aload_n (pc := 103) (x := 46) k_135_103 rfl rfl (by decide)) ?_
  refine Eq.trans (ev_getI (pc := 104) k_135_104 rfl zo_46.1) ?_
  refine Eq.trans (ev_vi (pc := 107) (as := [.int 1, .int (h.1 46 18)]) (rest := []) k_135_107 rfl zo_46 rfl rfl (Nat.le_of_ble_eq_true rfl) (Nat.le_of_ble_eq_true rfl)) (z_cbi fun x1 h1 => ?_)
  exact ev_ret_int k_135_110 rfl rt_135

set_option maxRecDepth 100000 in
theorem E_Mo_takeClause_111 (sc : zSc) (d : Nat) (h : zHp) (v1 : Int32) : zE sc (d + 1) 135 111 [some (.ref 46), some (.int v1), none] [] zGL h = (if v1 = 0 then (if 0 < (h.1 46 28) then zE sc (d + 1) 135 150 [some (.ref 46), none, none] [] zGL h else zE sc (d + 1) 135 160 [some (.ref 46), some (.int v1), none] [] zGL h) else (if v1 = (1 : Int32) then (if (h.1 46 23) = (6 : Int32) then zE sc (d + 1) 135 150 [some (.ref 46), none, none] [] zGL h else zE sc (d + 1) 135 160 [some (.ref 46), some (.int v1), none] [] zGL h) else (if (h.1 46 26) = (5 : Int32) then zE sc (d + 1) 135 150 [some (.ref 46), none, none] [] zGL h else zE sc (d + 1) 135 160 [some (.ref 46), some (.int v1), none] [] zGL h))) := by
  refine Eq.trans (ev_iload_n (pc := 111) k_135_111 rfl rfl) ?_
  refine Eq.trans (ev_ifne (pc := 112) k_135_112.1 rfl k_135_112.2) (z_ite ?_ ?_)
  · refine Eq.trans (ev_aload_n (pc := 115) (x := 46) k_135_115 rfl rfl (by decide)) ?_
    refine Eq.trans (ev_getI (pc := 116) k_135_116 rfl zo_46.1) ?_
    refine Eq.trans (ev_ifle (pc := 119) k_135_119.1 rfl k_135_119.2) (z_ite ?_ ?_)
    · refine Eq.trans (ev_goto (pc := 122) k_135_122.1 rfl k_135_122.2) ?_
      exact ev_mk kd_135_150 rfl
    · exact ev_mk kd_135_160 rfl
  · refine Eq.trans (ev_iload_n (pc := 125) k_135_125 rfl rfl) ?_
    refine Eq.trans (ev_iconst (pc := 126) (v := 1) k_135_126 rfl (by decide)) ?_
    refine Eq.trans (ev_icne (pc := 127) k_135_127.1 rfl k_135_127.2) (z_ite ?_ ?_)
    · refine Eq.trans (ev_aload_n (pc := 130) (x := 46) k_135_130 rfl rfl (by decide)) ?_
      refine Eq.trans (ev_getI (pc := 131) k_135_131 rfl zo_46.1) ?_
      refine Eq.trans (ev_bipush (pc := 134) (v := 6) k_135_134 rfl (by decide)) ?_
      refine Eq.trans (ev_icne (pc := 136) k_135_136.1 rfl k_135_136.2) (z_ite ?_ ?_)
      · refine Eq.trans (ev_goto (pc := 139) k_135_139.1 rfl k_135_139.2) ?_
        exact ev_mk kd_135_150 rfl
      · exact ev_mk kd_135_160 rfl
    · refine Eq.trans (ev_aload_n (pc := 142) (x := 46) k_135_142 rfl rfl (by decide)) ?_
      refine Eq.trans (ev_getI (pc := 143) k_135_143 rfl zo_46.1) ?_
      refine Eq.trans (ev_iconst (pc := 146) (v := 5) k_135_146 rfl (by decide)) ?_
      refine Eq.trans (ev_icne (pc := 147) k_135_147.1 rfl k_135_147.2) (z_ite ?_ ?_)
      · exact ev_mk kd_135_150 rfl
      · exact ev_mk kd_135_160 rfl

set_option maxRecDepth 100000 in
theorem E_Mo_takeClause_150 (sc : zSc) (d : Nat) (h : zHp)  : zE sc (d + 1) 135 150 [some (.ref 46), none, none] [] zGL h = (zBi (zRun sc d 139 [.ref 46, .int 3, .int (h.1 46 18)] zGL h) zGL fun x1 h1 => some (some (.int x1), zGL, h1)) := by
  refine Eq.trans (ev_aload_n (pc := 150) (x := 46) k_135_150 rfl rfl (by decide)) ?_
  refine Eq.trans (ev_iconst (pc := 151) (v := 3) k_135_151 rfl (by decide)) ?_
  refine Eq.trans (ev_aload_n (pc := 152) (x := 46) k_135_152 rfl rfl (by decide)) ?_
  refine Eq.trans (ev_getI (pc := 153) k_135_153 rfl zo_46.1) ?_
  refine Eq.trans (ev_vi (pc := 156) (as := [.int 3, .int (h.1 46 18)]) (rest := []) k_135_156 rfl zo_46 rfl rfl (Nat.le_of_ble_eq_true rfl) (Nat.le_of_ble_eq_true rfl)) (z_cbi fun x1 h1 => ?_)
  exact ev_ret_int k_135_159 rfl rt_135

set_option maxRecDepth 100000 in
theorem E_Mo_takeClause_160 (sc : zSc) (d : Nat) (h : zHp) (v1 : Int32) : zE sc (d + 1) 135 160 [some (.ref 46), some (.int v1), none] [] zGL h = (if v1 = 0 then (zBi (zRun sc d 140 [.ref 46, .int 2, .int 99] zGL (zPI h 46 18 (h.1 46 20))) zGL fun x1 h1 => zE sc (d + 1) 135 210 [some (.ref 46), none, some (.int x1)] [] zGL (zPI h1 46 28 (h1.1 46 21))) else (if v1 = (1 : Int32) then (zBi (zRun sc d 141 [.ref 46] zGL (zPI h 46 18 (h.1 46 20))) zGL fun x2 h2 => zE sc (d + 1) 135 209 [some (.ref 46), none, none] [.int x2] zGL h2) else (zBi (zRun sc d 143 [.ref 46] zGL (zPI h 46 18 (h.1 46 20))) zGL fun x3 h3 => zE sc (d + 1) 135 209 [some (.ref 46), none, none] [.int x3] zGL h3))) := by
  refine Eq.trans (ev_aload_n (pc := 160) (x := 46) k_135_160 rfl rfl (by decide)) ?_
  refine Eq.trans (ev_aload_n (pc := 161) (x := 46) k_135_161 rfl rfl (by decide)) ?_
  refine Eq.trans (ev_getI (pc := 162) k_135_162 rfl zo_46.1) ?_
  refine Eq.trans (ev_putI (pc := 165) k_135_165 rfl zo_46.1) ?_
  refine Eq.trans (ev_iconst (pc := 168) (v := 0) k_135_168 rfl (by decide)) ?_
  refine Eq.trans (ev_istore_n (pc := 169) (lv' := [some (.ref 46), some (.int v1), some (.int 0)]) k_135_169 rfl (Nat.le_of_ble_eq_true rfl) rfl) ?_
  refine Eq.trans (ev_iload_n (pc := 170) k_135_170 rfl rfl) ?_
  refine Eq.trans (ev_ifne (pc := 171) k_135_171.1 rfl k_135_171.2) (z_ite ?_ ?_)
  · refine Eq.trans (ev_aload_n (pc := 174) (x := 46) k_135_174 rfl rfl (by decide)) ?_
    refine Eq.trans (ev_iconst (pc := 175) (v := 2) k_135_175 rfl (by decide)) ?_
    refine Eq.trans (ev_bipush (pc := 176) (v := 99) k_135_176 rfl (by decide)) ?_
    refine Eq.trans (ev_vi (pc := 178) (as := [.int 2, .int 99]) (rest := []) k_135_178 rfl zo_46 rfl rfl (Nat.le_of_ble_eq_true rfl) (Nat.le_of_ble_eq_true rfl)) (z_cbi fun x1 h1 => ?_)
    refine Eq.trans (ev_istore_n (pc := 181) (lv' := [some (.ref 46), some (.int v1), some (.int x1)]) k_135_181 rfl (Nat.le_of_ble_eq_true rfl) rfl) ?_
    refine Eq.trans (ev_aload_n (pc := 182) (x := 46) k_135_182 rfl rfl (by decide)) ?_
    refine Eq.trans (ev_aload_n (pc := 183) (x := 46) k_135_183 rfl rfl (by decide)) ?_
    refine Eq.trans (ev_getI (pc := 184) k_135_184 rfl zo_46.1) ?_
    refine Eq.trans (ev_putI (pc := 187) k_135_187 rfl zo_46.1) ?_
    refine Eq.trans (ev_goto (pc := 190) k_135_190.1 rfl k_135_190.2) ?_
    exact ev_mk kd_135_210 rfl
  · refine Eq.trans (ev_iload_n (pc := 193) k_135_193 rfl rfl) ?_
    refine Eq.trans (ev_iconst (pc := 194) (v := 1) k_135_194 rfl (by decide)) ?_
    refine Eq.trans (ev_icne (pc := 195) k_135_195.1 rfl k_135_195.2) (z_ite ?_ ?_)
    · refine Eq.trans (ev_aload_n (pc := 198) (x := 46) k_135_198 rfl rfl (by decide)) ?_
      refine Eq.trans (ev_vi (pc := 199) (as := []) (rest := []) k_135_199 rfl zo_46 rfl rfl (Nat.le_of_ble_eq_true rfl) (Nat.le_of_ble_eq_true rfl)) (z_cbi fun x2 h2 => ?_)
      refine Eq.trans (ev_goto (pc := 202) k_135_202.1 rfl k_135_202.2) ?_
      exact ev_mk kd_135_209 rfl
    · refine Eq.trans (ev_aload_n (pc := 205) (x := 46) k_135_205 rfl rfl (by decide)) ?_
      refine Eq.trans (ev_vi (pc := 206) (as := []) (rest := []) k_135_206 rfl zo_46 rfl rfl (Nat.le_of_ble_eq_true rfl) (Nat.le_of_ble_eq_true rfl)) (z_cbi fun x3 h3 => ?_)
      exact ev_mk kd_135_209 rfl

set_option maxRecDepth 100000 in
theorem E_Mo_takeClause_209 (sc : zSc) (d : Nat) (h : zHp) (s0 : Int32) : zE sc (d + 1) 135 209 [some (.ref 46), none, none] [.int s0] zGL h = zE sc (d + 1) 135 210 [some (.ref 46), none, some (.int s0)] [] zGL h := by
  refine Eq.trans (ev_istore_n (pc := 209) (lv' := [some (.ref 46), none, some (.int s0)]) k_135_209 rfl (Nat.le_of_ble_eq_true rfl) rfl) ?_
  exact ev_mk kd_135_210 rfl

set_option maxRecDepth 100000 in
theorem E_Mo_takeClause_210 (sc : zSc) (d : Nat) (h : zHp) (v2 : Int32) : zE sc (d + 1) 135 210 [some (.ref 46), none, some (.int v2)] [] zGL h = (if v2 = 0 then (zBi (zRun sc d 134 [.ref 46] zGL h) zGL fun x1 h1 => (if x1 = (59 : Int32) then zE sc (d + 1) 135 233 [some (.ref 46), none, some (.int v2)] [] zGL h1 else (zBi (zRun sc d 139 [.ref 46, .int 1, .int (h1.1 46 18)] zGL h1) zGL fun x2 h2 => some (some (.int x2), zGL, h2)))) else zE sc (d + 1) 135 233 [some (.ref 46), none, some (.int v2)] [] zGL h) := by
  refine Eq.trans (ev_iload_n (pc := 210) k_135_210 rfl rfl) ?_
  refine Eq.trans (ev_ifne (pc := 211) k_135_211.1 rfl k_135_211.2) (z_ite ?_ ?_)
  · refine Eq.trans (ev_aload_n (pc := 214) (x := 46) k_135_214 rfl rfl (by decide)) ?_
    refine Eq.trans (ev_vi (pc := 215) (as := []) (rest := []) k_135_215 rfl zo_46 rfl rfl (Nat.le_of_ble_eq_true rfl) (Nat.le_of_ble_eq_true rfl)) (z_cbi fun x1 h1 => ?_)
    refine Eq.trans (ev_bipush (pc := 218) (v := 59) k_135_218 rfl (by decide)) ?_
    refine Eq.trans (ev_iceq (pc := 220) k_135_220.1 rfl k_135_220.2) (z_ite ?_ ?_)
    · exact ev_mk kd_135_233 rfl
    · refine Eq.trans (ev_aload_n (pc := 223) (x := 46) k_135_223 rfl rfl (by decide)) ?_
      refine Eq.trans (ev_iconst (pc := 224) (v := 1) k_135_224 rfl (by decide)) ?_
      refine Eq.trans (ev_aload_n (pc := 225) (x := 46) k_135_225 rfl rfl (by decide)) ?_
      refine Eq.trans (ev_getI (pc := 226) k_135_226 rfl zo_46.1) ?_
      refine Eq.trans (ev_vi (pc := 229) (as := [.int 1, .int (h1.1 46 18)]) (rest := []) k_135_229 rfl zo_46 rfl rfl (Nat.le_of_ble_eq_true rfl) (Nat.le_of_ble_eq_true rfl)) (z_cbi fun x2 h2 => ?_)
      exact ev_ret_int k_135_232 rfl rt_135
  · exact ev_mk kd_135_233 rfl

set_option maxRecDepth 100000 in
theorem E_Mo_takeClause_233 (sc : zSc) (d : Nat) (h : zHp) (v2 : Int32) : zE sc (d + 1) 135 233 [some (.ref 46), none, some (.int v2)] [] zGL h = some (some (.int v2), zGL, zPI h 46 18 ((h.1 46 18) + (1 : Int32))) := by
  refine Eq.trans (ev_aload_n (pc := 233) (x := 46) k_135_233 rfl rfl (by decide)) ?_
  refine Eq.trans (ev_dup (pc := 234) k_135_234 rfl rfl) ?_
  refine Eq.trans (ev_getI (pc := 235) k_135_235 rfl zo_46.1) ?_
  refine Eq.trans (ev_iconst (pc := 238) (v := 1) k_135_238 rfl (by decide)) ?_
  refine Eq.trans (ev_iadd (pc := 239) k_135_239 rfl) ?_
  refine Eq.trans (ev_putI (pc := 240) k_135_240 rfl zo_46.1) ?_
  refine Eq.trans (ev_iload_n (pc := 243) k_135_243 rfl rfl) ?_
  exact ev_ret_int k_135_244 rfl rt_135

set_option maxRecDepth 100000 in
theorem E_Mo_readWord (sc : zSc) (d : Nat) (h : zHp)  : zRun sc (d + 1) 136 [.ref 46] zGL h = (zBi (zRun sc d 134 [.ref 46] zGL h) zGL fun x1 h1 => zE sc (d + 1) 136 18 [some (.ref 46), none] [] zGL (zPI (zPL h1 46 19 0) 46 20 ((zPL h1 46 19 0).1 46 18))) := by
  have he : zEnt 136 [.ref 46] = [some (.ref 46), none] := by unfold zEnt; rw [ml_136]; rfl
  unfold zRun
  rw [he]
  refine Eq.trans (ev_aload_n (pc := 0) (x := 46) k_136_0 rfl rfl (by decide)) ?_
  refine Eq.trans (ev_vi (pc := 1) (as := []) (rest := []) k_136_1 rfl zo_46 rfl rfl (Nat.le_of_ble_eq_true rfl) (Nat.le_of_ble_eq_true rfl)) (z_cbi fun x1 h1 => ?_)
  refine Eq.trans (ev_istore_n (pc := 4) (lv' := [some (.ref 46), some (.int x1)]) k_136_4 rfl (Nat.le_of_ble_eq_true rfl) rfl) ?_
  refine Eq.trans (ev_aload_n (pc := 5) (x := 46) k_136_5 rfl rfl (by decide)) ?_
  refine Eq.trans (ev_lconst (pc := 6) (v := 0) k_136_6 rfl (by decide)) ?_
  refine Eq.trans (ev_putL (pc := 7) k_136_7 rfl zo_46.1) ?_
  refine Eq.trans (ev_aload_n (pc := 10) (x := 46) k_136_10 rfl rfl (by decide)) ?_
  refine Eq.trans (ev_aload_n (pc := 11) (x := 46) k_136_11 rfl rfl (by decide)) ?_
  refine Eq.trans (ev_getI (pc := 12) k_136_12 rfl zo_46.1) ?_
  refine Eq.trans (ev_putI (pc := 15) k_136_15 rfl zo_46.1) ?_
  exact ev_mk kd_136_18 rfl

set_option maxRecDepth 100000 in
theorem E_Mo_readWord_18 (sc : zSc) (d : Nat) (h : zHp)  : zE sc (d + 1) 136 18 [some (.ref 46), none] [] zGL h = (if (h.1 46 20) < (h.1 46 16) then (if zin (h.1 46 20) 400 = true then (zBi (zRun sc d 132 [.long ((h.1 56 (h.1 46 20).toNatClampNeg).toInt64), .long 97, .long 122] zGL h) zGL fun x1 h1 => (if x1 = 0 then some (none, zGL, h1) else (if (10000000000000 : Int64) < (h1.2.1 46 19) then zE sc (d + 1) 136 92 [some (.ref 46), none] [.long 20000000000000, .ref 46] zGL h1 else (if zin (h1.1 46 20) 400 = true then zE sc (d + 1) 136 92 [some (.ref 46), none] [.long ((((27 : Int64) * (h1.2.1 46 19)) + ((h1.1 56 (h1.1 46 20).toNatClampNeg).toInt64)) - (96 : Int64)), .ref 46] zGL h1 else none)))) else none) else some (none, zGL, h)) := by
  refine Eq.trans (ev_aload_n (pc := 18) (x := 46) k_136_18 rfl rfl (by decide)) ?_
  refine Eq.trans (ev_getI (pc := 19) k_136_19 rfl zo_46.1) ?_
  refine Eq.trans (ev_aload_n (pc := 22) (x := 46) k_136_22 rfl rfl (by decide)) ?_
  refine Eq.trans (ev_getI (pc := 23) k_136_23 rfl zo_46.1) ?_
  refine Eq.trans (ev_icge (pc := 26) k_136_26.1 rfl k_136_26.2) (z_ite ?_ ?_)
  · refine Eq.trans (ev_aload_n (pc := 29) (x := 46) k_136_29 rfl rfl (by decide)) ?_
    refine Eq.trans (ev_getR (pc := 30) (b := 56) k_136_30 rfl zo_46.1 zg_46_15) ?_
    refine Eq.trans (ev_aload_n (pc := 33) (x := 46) k_136_33 rfl rfl (by decide)) ?_
    refine Eq.trans (ev_getI (pc := 34) k_136_34 rfl zo_46.1) ?_
    refine Eq.trans (ev_iald_c (pc := 37) k_136_37 rfl za_56) (z_it1 ?_)
    refine Eq.trans (ev_i2l (pc := 38) k_136_38 rfl) ?_
    refine Eq.trans (ev_ldc2 (pc := 39) (v := 97) k_136_39 rfl) ?_
    refine Eq.trans (ev_ldc2 (pc := 42) (v := 122) k_136_42 rfl) ?_
    refine Eq.trans (ev_si (pc := 45) (as := [.long ((h.1 56 (h.1 46 20).toNatClampNeg).toInt64), .long 97, .long 122]) (rest := []) k_136_45 rfl rfl rfl (Nat.le_of_ble_eq_true rfl) (Nat.le_of_ble_eq_true rfl)) (z_cbi fun x1 h1 => ?_)
    refine Eq.trans (ev_ifeq (pc := 48) k_136_48.1 rfl k_136_48.2) (z_ite ?_ ?_)
    · refine Eq.trans (ev_mk (pc := 108) (lv' := [none, none]) kd_136_108 rfl) ?_
      exact ev_ret_void k_136_108 rfl rt_136
    · refine Eq.trans (ev_aload_n (pc := 51) (x := 46) k_136_51 rfl rfl (by decide)) ?_
      refine Eq.trans (ev_aload_n (pc := 52) (x := 46) k_136_52 rfl rfl (by decide)) ?_
      refine Eq.trans (ev_getL (pc := 53) k_136_53 rfl zo_46.1) ?_
      refine Eq.trans (ev_ldc2 (pc := 56) (v := 10000000000000) k_136_56 rfl) ?_
      refine Eq.trans (ev_lcmp (pc := 59) k_136_59 rfl) ?_
      refine Eq.trans (ev_ille (pc := 60) k_136_60.1 rfl k_136_60.2) (z_ite ?_ ?_)
      · refine Eq.trans (ev_ldc2 (pc := 63) (v := 20000000000000) k_136_63 rfl) ?_
        refine Eq.trans (ev_goto (pc := 66) k_136_66.1 rfl k_136_66.2) ?_
        exact ev_mk kd_136_92 rfl
      · refine Eq.trans (ev_ldc2 (pc := 69) (v := 27) k_136_69 rfl) ?_
        refine Eq.trans (ev_aload_n (pc := 72) (x := 46) k_136_72 rfl rfl (by decide)) ?_
        refine Eq.trans (ev_getL (pc := 73) k_136_73 rfl zo_46.1) ?_
        refine Eq.trans (ev_lmul (pc := 76) k_136_76 rfl) ?_
        refine Eq.trans (ev_aload_n (pc := 77) (x := 46) k_136_77 rfl rfl (by decide)) ?_
        refine Eq.trans (ev_getR (pc := 78) (b := 56) k_136_78 rfl zo_46.1 zg_46_15) ?_
        refine Eq.trans (ev_aload_n (pc := 81) (x := 46) k_136_81 rfl rfl (by decide)) ?_
        refine Eq.trans (ev_getI (pc := 82) k_136_82 rfl zo_46.1) ?_
        refine Eq.trans (ev_iald_c (pc := 85) k_136_85 rfl za_56) (z_it1 ?_)
        refine Eq.trans (ev_i2l (pc := 86) k_136_86 rfl) ?_
        refine Eq.trans (ev_ladd (pc := 87) k_136_87 rfl) ?_
        refine Eq.trans (ev_ldc2 (pc := 88) (v := 96) k_136_88 rfl) ?_
        refine Eq.trans (ev_lsub (pc := 91) k_136_91 rfl) ?_
        exact ev_mk kd_136_92 rfl
  · refine Eq.trans (ev_mk (pc := 108) (lv' := [none, none]) kd_136_108 rfl) ?_
    exact ev_ret_void k_136_108 rfl rt_136

set_option maxRecDepth 100000 in
theorem E_Mo_readWord_92 (sc : zSc) (d : Nat) (h : zHp) (s0 : Int64) : zE sc (d + 1) 136 92 [some (.ref 46), none] [.long s0, .ref 46] zGL h = zE sc (d + 1) 136 18 [some (.ref 46), none] [] zGL (zPI (zPL h 46 19 s0) 46 20 (((zPL h 46 19 s0).1 46 20) + (1 : Int32))) := by
  refine Eq.trans (ev_putL (pc := 92) k_136_92 rfl zo_46.1) ?_
  refine Eq.trans (ev_aload_n (pc := 95) (x := 46) k_136_95 rfl rfl (by decide)) ?_
  refine Eq.trans (ev_dup (pc := 96) k_136_96 rfl rfl) ?_
  refine Eq.trans (ev_getI (pc := 97) k_136_97 rfl zo_46.1) ?_
  refine Eq.trans (ev_iconst (pc := 100) (v := 1) k_136_100 rfl (by decide)) ?_
  refine Eq.trans (ev_iadd (pc := 101) k_136_101 rfl) ?_
  refine Eq.trans (ev_putI (pc := 102) k_136_102 rfl zo_46.1) ?_
  refine Eq.trans (ev_goto (pc := 105) k_136_105.1 rfl k_136_105.2) ?_
  exact ev_mk kd_136_18 rfl

set_option maxRecDepth 100000 in
theorem E_Mo_code (sc : zSc) (d : Nat) (h : zHp) (v0 : Int32) (v1 : Int32) (v2 : Int32) (v3 : Int32) : zRun sc d 137 [.int v0, .int v1, .int v2, .int v3] zGL h = some (some (.long ((((27 : Int64) * ((((27 : Int64) * ((((27 : Int64) * (v0.toInt64 - (96 : Int64))) + v1.toInt64) - (96 : Int64))) + v2.toInt64) - (96 : Int64))) + v3.toInt64) - (96 : Int64))), zGL, h) := by
  have he : zEnt 137 [.int v0, .int v1, .int v2, .int v3] = [some (.int v0), some (.int v1), some (.int v2), some (.int v3)] := by unfold zEnt; rw [ml_137]; rfl
  unfold zRun
  rw [he]
  refine Eq.trans (ev_ldc2 (pc := 0) (v := 27) k_137_0 rfl) ?_
  refine Eq.trans (ev_ldc2 (pc := 3) (v := 27) k_137_3 rfl) ?_
  refine Eq.trans (ev_ldc2 (pc := 6) (v := 27) k_137_6 rfl) ?_
  refine Eq.trans (ev_iload_n (pc := 9) k_137_9 rfl rfl) ?_
  refine Eq.trans (ev_i2l (pc := 10) k_137_10 rfl) ?_
  refine Eq.trans (ev_ldc2 (pc := 11) (v := 96) k_137_11 rfl) ?_
  refine Eq.trans (ev_lsub (pc := 14) k_137_14 rfl) ?_
  refine Eq.trans (ev_lmul (pc := 15) k_137_15 rfl) ?_
  refine Eq.trans (ev_iload_n (pc := 16) k_137_16 rfl rfl) ?_
  refine Eq.trans (ev_i2l (pc := 17) k_137_17 rfl) ?_
  refine Eq.trans (ev_ladd (pc := 18) k_137_18 rfl) ?_
  refine Eq.trans (ev_ldc2 (pc := 19) (v := 96) k_137_19 rfl) ?_
  refine Eq.trans (ev_lsub (pc := 22) k_137_22 rfl) ?_
  refine Eq.trans (ev_lmul (pc := 23) k_137_23 rfl) ?_
  refine Eq.trans (ev_iload_n (pc := 24) k_137_24 rfl rfl) ?_
  refine Eq.trans (ev_i2l (pc := 25) k_137_25 rfl) ?_
  refine Eq.trans (ev_ladd (pc := 26) k_137_26 rfl) ?_
  refine Eq.trans (ev_ldc2 (pc := 27) (v := 96) k_137_27 rfl) ?_
  refine Eq.trans (ev_lsub (pc := 30) k_137_30 rfl) ?_
  refine Eq.trans (ev_lmul (pc := 31) k_137_31 rfl) ?_
  refine Eq.trans (ev_iload_n (pc := 32) k_137_32 rfl rfl) ?_
  refine Eq.trans (ev_i2l (pc := 33) k_137_33 rfl) ?_
  refine Eq.trans (ev_ladd (pc := 34) k_137_34 rfl) ?_
  refine Eq.trans (ev_ldc2 (pc := 35) (v := 96) k_137_35 rfl) ?_
  refine Eq.trans (ev_lsub (pc := 38) k_137_38 rfl) ?_
  exact ev_ret_long k_137_39 rfl rt_137

set_option maxRecDepth 100000 in
theorem E_Mo_longer (sc : zSc) (d : Nat) (h : zHp) (w0 : Int64) (v2 : Int32) : zRun sc d 138 [.long w0, .int v2] zGL h = some (some (.long ((((27 : Int64) * w0) + v2.toInt64) - (96 : Int64))), zGL, h) := by
  have he : zEnt 138 [.long w0, .int v2] = [some (.long w0), none, some (.int v2)] := by unfold zEnt; rw [ml_138]; rfl
  unfold zRun
  rw [he]
  refine Eq.trans (ev_ldc2 (pc := 0) (v := 27) k_138_0 rfl) ?_
  refine Eq.trans (ev_lload_n (pc := 3) k_138_3 rfl rfl) ?_
  refine Eq.trans (ev_lmul (pc := 4) k_138_4 rfl) ?_
  refine Eq.trans (ev_iload_n (pc := 5) k_138_5 rfl rfl) ?_
  refine Eq.trans (ev_i2l (pc := 6) k_138_6 rfl) ?_
  refine Eq.trans (ev_ladd (pc := 7) k_138_7 rfl) ?_
  refine Eq.trans (ev_ldc2 (pc := 8) (v := 96) k_138_8 rfl) ?_
  refine Eq.trans (ev_lsub (pc := 11) k_138_11 rfl) ?_
  exact ev_ret_long k_138_12 rfl rt_138

set_option maxRecDepth 100000 in
theorem E_Mo_fails (sc : zSc) (d : Nat) (h : zHp) (v1 : Int32) (v2 : Int32) : zRun sc d 139 [.ref 46, .int v1, .int v2] zGL h = some (some (.int v1), zGL, zPI h 46 17 v2) := by
  have he : zEnt 139 [.ref 46, .int v1, .int v2] = [some (.ref 46), some (.int v1), some (.int v2)] := by unfold zEnt; rw [ml_139]; rfl
  unfold zRun
  rw [he]
  refine Eq.trans (ev_aload_n (pc := 0) (x := 46) k_139_0 rfl rfl (by decide)) ?_
  refine Eq.trans (ev_iload_n (pc := 1) k_139_1 rfl rfl) ?_
  refine Eq.trans (ev_putI (pc := 2) k_139_2 rfl zo_46.1) ?_
  refine Eq.trans (ev_iload_n (pc := 5) k_139_5 rfl rfl) ?_
  exact ev_ret_int k_139_6 rfl rt_139

set_option maxRecDepth 100000 in
theorem E_Mo_takeNumber (sc : zSc) (d : Nat) (h : zHp) (v1 : Int32) (v2 : Int32) : zRun sc (d + 1) 140 [.ref 46, .int v1, .int v2] zGL h = (zBi (zRun sc d 134 [.ref 46] zGL h) zGL fun x1 h1 => (zBi (zRun sc d 132 [.long x1.toInt64, .long 48, .long 57] zGL h1) zGL fun x2 h2 => (if x2 = 0 then (zBi (zRun sc d 139 [.ref 46, .int 1, .int (h2.1 46 18)] zGL h2) zGL fun x3 h3 => some (some (.int x3), zGL, h3)) else zE sc (d + 1) 140 42 [some (.ref 46), some (.int v1), some (.int v2), none] [] zGL (zPI (zPI h2 46 22 (h2.1 46 18)) 46 21 0)))) := by
  have he : zEnt 140 [.ref 46, .int v1, .int v2] = [some (.ref 46), some (.int v1), some (.int v2), none] := by unfold zEnt; rw [ml_140]; rfl
  unfold zRun
  rw [he]
  refine Eq.trans (ev_aload_n (pc := 0) (x := 46) k_140_0 rfl rfl (by decide)) ?_
  refine Eq.trans (ev_vi (pc := 1) (as := []) (rest := []) k_140_1 rfl zo_46 rfl rfl (Nat.le_of_ble_eq_true rfl) (Nat.le_of_ble_eq_true rfl)) (z_cbi fun x1 h1 => ?_)
  refine Eq.trans (ev_istore_n (pc := 4) (lv' := [some (.ref 46), some (.int v1), some (.int v2), some (.int x1)]) k_140_4 rfl (Nat.le_of_ble_eq_true rfl) rfl) ?_
  refine Eq.trans (ev_iload_n (pc := 5) k_140_5 rfl rfl) ?_
  refine Eq.trans (ev_i2l (pc := 6) k_140_6 rfl) ?_
  refine Eq.trans (ev_ldc2 (pc := 7) (v := 48) k_140_7 rfl) ?_
  refine Eq.trans (ev_ldc2 (pc := 10) (v := 57) k_140_10 rfl) ?_
  refine Eq.trans (ev_si (pc := 13) (as := [.long x1.toInt64, .long 48, .long 57]) (rest := []) k_140_13 rfl rfl rfl (Nat.le_of_ble_eq_true rfl) (Nat.le_of_ble_eq_true rfl)) (z_cbi fun x2 h2 => ?_)
  refine Eq.trans (ev_ifne (pc := 16) k_140_16.1 rfl k_140_16.2) (z_ite ?_ ?_)
  · refine Eq.trans (ev_aload_n (pc := 19) (x := 46) k_140_19 rfl rfl (by decide)) ?_
    refine Eq.trans (ev_iconst (pc := 20) (v := 1) k_140_20 rfl (by decide)) ?_
    refine Eq.trans (ev_aload_n (pc := 21) (x := 46) k_140_21 rfl rfl (by decide)) ?_
    refine Eq.trans (ev_getI (pc := 22) k_140_22 rfl zo_46.1) ?_
    refine Eq.trans (ev_vi (pc := 25) (as := [.int 1, .int (h2.1 46 18)]) (rest := []) k_140_25 rfl zo_46 rfl rfl (Nat.le_of_ble_eq_true rfl) (Nat.le_of_ble_eq_true rfl)) (z_cbi fun x3 h3 => ?_)
    exact ev_ret_int k_140_28 rfl rt_140
  · refine Eq.trans (ev_aload_n (pc := 29) (x := 46) k_140_29 rfl rfl (by decide)) ?_
    refine Eq.trans (ev_aload_n (pc := 30) (x := 46) k_140_30 rfl rfl (by decide)) ?_
    refine Eq.trans (ev_getI (pc := 31) k_140_31 rfl zo_46.1) ?_
    refine Eq.trans (ev_putI (pc := 34) k_140_34 rfl zo_46.1) ?_
    refine Eq.trans (ev_aload_n (pc := 37) (x := 46) k_140_37 rfl rfl (by decide)) ?_
    refine Eq.trans (ev_iconst (pc := 38) (v := 0) k_140_38 rfl (by decide)) ?_
    refine Eq.trans (ev_putI (pc := 39) k_140_39 rfl zo_46.1) ?_
    exact ev_mk kd_140_42 rfl

set_option maxRecDepth 100000 in
theorem E_Mo_takeNumber_42 (sc : zSc) (d : Nat) (h : zHp) (v1 : Int32) (v2 : Int32) : zE sc (d + 1) 140 42 [some (.ref 46), some (.int v1), some (.int v2), none] [] zGL h = (if (h.1 46 18) < (h.1 46 16) then (if zin (h.1 46 18) 400 = true then (zBi (zRun sc d 132 [.long ((h.1 56 (h.1 46 18).toNatClampNeg).toInt64), .long 48, .long 57] zGL h) zGL fun x1 h1 => (if x1 = 0 then zE sc (d + 1) 140 129 [some (.ref 46), some (.int v1), some (.int v2), none] [] zGL h1 else (if (10000 : Int32) < (h1.1 46 21) then zE sc (d + 1) 140 113 [some (.ref 46), some (.int v1), some (.int v2), none] [.int (h1.1 46 21), .ref 46] zGL h1 else (if zin (h1.1 46 18) 400 = true then zE sc (d + 1) 140 113 [some (.ref 46), some (.int v1), some (.int v2), none] [.int ((((10 : Int32) * (h1.1 46 21)) + (h1.1 56 (h1.1 46 18).toNatClampNeg)) - (48 : Int32)), .ref 46] zGL h1 else none)))) else none) else zE sc (d + 1) 140 129 [some (.ref 46), some (.int v1), some (.int v2), none] [] zGL h) := by
  refine Eq.trans (ev_aload_n (pc := 42) (x := 46) k_140_42 rfl rfl (by decide)) ?_
  refine Eq.trans (ev_getI (pc := 43) k_140_43 rfl zo_46.1) ?_
  refine Eq.trans (ev_aload_n (pc := 46) (x := 46) k_140_46 rfl rfl (by decide)) ?_
  refine Eq.trans (ev_getI (pc := 47) k_140_47 rfl zo_46.1) ?_
  refine Eq.trans (ev_icge (pc := 50) k_140_50.1 rfl k_140_50.2) (z_ite ?_ ?_)
  · refine Eq.trans (ev_aload_n (pc := 53) (x := 46) k_140_53 rfl rfl (by decide)) ?_
    refine Eq.trans (ev_getR (pc := 54) (b := 56) k_140_54 rfl zo_46.1 zg_46_15) ?_
    refine Eq.trans (ev_aload_n (pc := 57) (x := 46) k_140_57 rfl rfl (by decide)) ?_
    refine Eq.trans (ev_getI (pc := 58) k_140_58 rfl zo_46.1) ?_
    refine Eq.trans (ev_iald_c (pc := 61) k_140_61 rfl za_56) (z_it1 ?_)
    refine Eq.trans (ev_i2l (pc := 62) k_140_62 rfl) ?_
    refine Eq.trans (ev_ldc2 (pc := 63) (v := 48) k_140_63 rfl) ?_
    refine Eq.trans (ev_ldc2 (pc := 66) (v := 57) k_140_66 rfl) ?_
    refine Eq.trans (ev_si (pc := 69) (as := [.long ((h.1 56 (h.1 46 18).toNatClampNeg).toInt64), .long 48, .long 57]) (rest := []) k_140_69 rfl rfl rfl (Nat.le_of_ble_eq_true rfl) (Nat.le_of_ble_eq_true rfl)) (z_cbi fun x1 h1 => ?_)
    refine Eq.trans (ev_ifeq (pc := 72) k_140_72.1 rfl k_140_72.2) (z_ite ?_ ?_)
    · exact ev_mk kd_140_129 rfl
    · refine Eq.trans (ev_aload_n (pc := 75) (x := 46) k_140_75 rfl rfl (by decide)) ?_
      refine Eq.trans (ev_aload_n (pc := 76) (x := 46) k_140_76 rfl rfl (by decide)) ?_
      refine Eq.trans (ev_getI (pc := 77) k_140_77 rfl zo_46.1) ?_
      refine Eq.trans (ev_sipush (pc := 80) (v := 10000) k_140_80 rfl (by decide)) ?_
      refine Eq.trans (ev_icle (pc := 83) k_140_83.1 rfl k_140_83.2) (z_ite ?_ ?_)
      · refine Eq.trans (ev_aload_n (pc := 86) (x := 46) k_140_86 rfl rfl (by decide)) ?_
        refine Eq.trans (ev_getI (pc := 87) k_140_87 rfl zo_46.1) ?_
        refine Eq.trans (ev_goto (pc := 90) k_140_90.1 rfl k_140_90.2) ?_
        exact ev_mk kd_140_113 rfl
      · refine Eq.trans (ev_bipush (pc := 93) (v := 10) k_140_93 rfl (by decide)) ?_
        refine Eq.trans (ev_aload_n (pc := 95) (x := 46) k_140_95 rfl rfl (by decide)) ?_
        refine Eq.trans (ev_getI (pc := 96) k_140_96 rfl zo_46.1) ?_
        refine Eq.trans (ev_imul (pc := 99) k_140_99 rfl) ?_
        refine Eq.trans (ev_aload_n (pc := 100) (x := 46) k_140_100 rfl rfl (by decide)) ?_
        refine Eq.trans (ev_getR (pc := 101) (b := 56) k_140_101 rfl zo_46.1 zg_46_15) ?_
        refine Eq.trans (ev_aload_n (pc := 104) (x := 46) k_140_104 rfl rfl (by decide)) ?_
        refine Eq.trans (ev_getI (pc := 105) k_140_105 rfl zo_46.1) ?_
        refine Eq.trans (ev_iald_c (pc := 108) k_140_108 rfl za_56) (z_it1 ?_)
        refine Eq.trans (ev_iadd (pc := 109) k_140_109 rfl) ?_
        refine Eq.trans (ev_bipush (pc := 110) (v := 48) k_140_110 rfl (by decide)) ?_
        refine Eq.trans (ev_isub (pc := 112) k_140_112 rfl) ?_
        exact ev_mk kd_140_113 rfl
  · exact ev_mk kd_140_129 rfl

set_option maxRecDepth 100000 in
theorem E_Mo_takeNumber_113 (sc : zSc) (d : Nat) (h : zHp) (v1 : Int32) (v2 : Int32) (s0 : Int32) : zE sc (d + 1) 140 113 [some (.ref 46), some (.int v1), some (.int v2), none] [.int s0, .ref 46] zGL h = zE sc (d + 1) 140 42 [some (.ref 46), some (.int v1), some (.int v2), none] [] zGL (zPI (zPI h 46 21 s0) 46 18 (((zPI h 46 21 s0).1 46 18) + (1 : Int32))) := by
  refine Eq.trans (ev_putI (pc := 113) k_140_113 rfl zo_46.1) ?_
  refine Eq.trans (ev_aload_n (pc := 116) (x := 46) k_140_116 rfl rfl (by decide)) ?_
  refine Eq.trans (ev_dup (pc := 117) k_140_117 rfl rfl) ?_
  refine Eq.trans (ev_getI (pc := 118) k_140_118 rfl zo_46.1) ?_
  refine Eq.trans (ev_iconst (pc := 121) (v := 1) k_140_121 rfl (by decide)) ?_
  refine Eq.trans (ev_iadd (pc := 122) k_140_122 rfl) ?_
  refine Eq.trans (ev_putI (pc := 123) k_140_123 rfl zo_46.1) ?_
  refine Eq.trans (ev_goto (pc := 126) k_140_126.1 rfl k_140_126.2) ?_
  exact ev_mk kd_140_42 rfl

set_option maxRecDepth 100000 in
theorem E_Mo_takeNumber_129 (sc : zSc) (d : Nat) (h : zHp) (v1 : Int32) (v2 : Int32) : zE sc (d + 1) 140 129 [some (.ref 46), some (.int v1), some (.int v2), none] [] zGL h = (if (3 : Int32) < ((h.1 46 18) - (h.1 46 22)) then zE sc (d + 1) 140 157 [some (.ref 46), none, none, none] [] zGL h else (zBi (zRun sc d 132 [.long ((h.1 46 21).toInt64), .long v1.toInt64, .long v2.toInt64] zGL h) zGL fun x1 h1 => (if x1 = 0 then zE sc (d + 1) 140 157 [some (.ref 46), none, none, none] [] zGL h1 else some (some (.int 0), zGL, h1)))) := by
  refine Eq.trans (ev_aload_n (pc := 129) (x := 46) k_140_129 rfl rfl (by decide)) ?_
  refine Eq.trans (ev_getI (pc := 130) k_140_130 rfl zo_46.1) ?_
  refine Eq.trans (ev_aload_n (pc := 133) (x := 46) k_140_133 rfl rfl (by decide)) ?_
  refine Eq.trans (ev_getI (pc := 134) k_140_134 rfl zo_46.1) ?_
  refine Eq.trans (ev_isub (pc := 137) k_140_137 rfl) ?_
  refine Eq.trans (ev_iconst (pc := 138) (v := 3) k_140_138 rfl (by decide)) ?_
  refine Eq.trans (ev_icgt (pc := 139) k_140_139.1 rfl k_140_139.2) (z_ite ?_ ?_)
  · exact ev_mk kd_140_157 rfl
  · refine Eq.trans (ev_aload_n (pc := 142) (x := 46) k_140_142 rfl rfl (by decide)) ?_
    refine Eq.trans (ev_getI (pc := 143) k_140_143 rfl zo_46.1) ?_
    refine Eq.trans (ev_i2l (pc := 146) k_140_146 rfl) ?_
    refine Eq.trans (ev_iload_n (pc := 147) k_140_147 rfl rfl) ?_
    refine Eq.trans (ev_i2l (pc := 148) k_140_148 rfl) ?_
    refine Eq.trans (ev_iload_n (pc := 149) k_140_149 rfl rfl) ?_
    refine Eq.trans (ev_i2l (pc := 150) k_140_150 rfl) ?_
    refine Eq.trans (ev_si (pc := 151) (as := [.long ((h.1 46 21).toInt64), .long v1.toInt64, .long v2.toInt64]) (rest := []) k_140_151 rfl rfl rfl (Nat.le_of_ble_eq_true rfl) (Nat.le_of_ble_eq_true rfl)) (z_cbi fun x1 h1 => ?_)
    refine Eq.trans (ev_ifne (pc := 154) k_140_154.1 rfl k_140_154.2) (z_ite ?_ ?_)
    · exact ev_mk kd_140_157 rfl
    · refine Eq.trans (ev_iconst (pc := 169) (v := 0) k_140_169 rfl (by decide)) ?_
      refine Eq.trans (ev_mk (pc := 170) (lv' := [none, none, none, none]) kd_140_170 rfl) ?_
      exact ev_ret_int k_140_170 rfl rt_140

set_option maxRecDepth 100000 in
theorem E_Mo_takeNumber_157 (sc : zSc) (d : Nat) (h : zHp)  : zE sc (d + 1) 140 157 [some (.ref 46), none, none, none] [] zGL h = (zBi (zRun sc d 139 [.ref 46, .int 2, .int (h.1 46 22)] zGL h) zGL fun x1 h1 => some (some (.int x1), zGL, h1)) := by
  refine Eq.trans (ev_aload_n (pc := 157) (x := 46) k_140_157 rfl rfl (by decide)) ?_
  refine Eq.trans (ev_iconst (pc := 158) (v := 2) k_140_158 rfl (by decide)) ?_
  refine Eq.trans (ev_aload_n (pc := 159) (x := 46) k_140_159 rfl rfl (by decide)) ?_
  refine Eq.trans (ev_getI (pc := 160) k_140_160 rfl zo_46.1) ?_
  refine Eq.trans (ev_vi (pc := 163) (as := [.int 2, .int (h.1 46 22)]) (rest := []) k_140_163 rfl zo_46 rfl rfl (Nat.le_of_ble_eq_true rfl) (Nat.le_of_ble_eq_true rfl)) (z_cbi fun x1 h1 => ?_)
  refine Eq.trans (ev_goto (pc := 166) k_140_166.1 rfl k_140_166.2) ?_
  refine Eq.trans (ev_mk (pc := 170) (lv' := [none, none, none, none]) kd_140_170 rfl) ?_
  exact ev_ret_int k_140_170 rfl rt_140

set_option maxRecDepth 100000 in
theorem E_Mo_takeFact (sc : zSc) (d : Nat) (h : zHp)  : zRun sc (d + 1) 141 [.ref 46] zGL h = (if zin (h.1 46 23) 6 = true then (zBi (zRun sc d 140 [.ref 46, .int 1, .int 99] zGL (zPI h 58 (h.1 46 23).toNatClampNeg 0)) zGL fun x1 h1 => (if zin (h.1 46 23) 6 = true then (if x1 = 0 then (zBv (zRun sc d 136 [.ref 46] zGL (zPI h1 57 (h.1 46 23).toNatClampNeg (h1.1 46 21))) zGL fun h2 => (zBj (zRun sc d 137 [.int 102, .int 111, .int 108, .int 108] zGL h2) zGL fun x3 h3 => (zBj (zRun sc d 138 [.long x3, .int 111] zGL h3) zGL fun x4 h4 => (zBj (zRun sc d 138 [.long x4, .int 119] zGL h4) zGL fun x5 h5 => (zBj (zRun sc d 138 [.long x5, .int 115] zGL h5) zGL fun x6 h6 => (if (h2.2.1 46 19) = x6 then (zBi (zRun sc d 142 [.ref 46, .ref 58, .int (h.1 46 23), .int (h.1 46 23)] zGL (zPI h6 46 18 (h6.1 46 20))) zGL fun x7 h7 => zE sc (d + 1) 141 91 [some (.ref 46), none, some (.int x7)] [] zGL h7) else zE sc (d + 1) 141 91 [some (.ref 46), none, some (.int x1)] [] zGL h6)))))) else zE sc (d + 1) 141 91 [some (.ref 46), none, some (.int x1)] [] zGL (zPI h1 57 (h.1 46 23).toNatClampNeg (h1.1 46 21))) else none)) else none) := by
  have he : zEnt 141 [.ref 46] = [some (.ref 46), none, none] := by unfold zEnt; rw [ml_141]; rfl
  unfold zRun
  rw [he]
  refine Eq.trans (ev_aload_n (pc := 0) (x := 46) k_141_0 rfl rfl (by decide)) ?_
  refine Eq.trans (ev_getI (pc := 1) k_141_1 rfl zo_46.1) ?_
  refine Eq.trans (ev_istore_n (pc := 4) (lv' := [some (.ref 46), some (.int (h.1 46 23)), none]) k_141_4 rfl (Nat.le_of_ble_eq_true rfl) rfl) ?_
  refine Eq.trans (ev_aload_n (pc := 5) (x := 46) k_141_5 rfl rfl (by decide)) ?_
  refine Eq.trans (ev_getR (pc := 6) (b := 58) k_141_6 rfl zo_46.1 zg_46_25) ?_
  refine Eq.trans (ev_iload_n (pc := 9) k_141_9 rfl rfl) ?_
  refine Eq.trans (ev_iconst (pc := 10) (v := 0) k_141_10 rfl (by decide)) ?_
  refine Eq.trans (ev_iast_c (pc := 11) k_141_11 rfl za_58) (z_it1 ?_)
  refine Eq.trans (ev_aload_n (pc := 12) (x := 46) k_141_12 rfl rfl (by decide)) ?_
  refine Eq.trans (ev_iconst (pc := 13) (v := 1) k_141_13 rfl (by decide)) ?_
  refine Eq.trans (ev_bipush (pc := 14) (v := 99) k_141_14 rfl (by decide)) ?_
  refine Eq.trans (ev_vi (pc := 16) (as := [.int 1, .int 99]) (rest := []) k_141_16 rfl zo_46 rfl rfl (Nat.le_of_ble_eq_true rfl) (Nat.le_of_ble_eq_true rfl)) (z_cbi fun x1 h1 => ?_)
  refine Eq.trans (ev_istore_n (pc := 19) (lv' := [some (.ref 46), some (.int (h.1 46 23)), some (.int x1)]) k_141_19 rfl (Nat.le_of_ble_eq_true rfl) rfl) ?_
  refine Eq.trans (ev_aload_n (pc := 20) (x := 46) k_141_20 rfl rfl (by decide)) ?_
  refine Eq.trans (ev_getR (pc := 21) (b := 57) k_141_21 rfl zo_46.1 zg_46_24) ?_
  refine Eq.trans (ev_iload_n (pc := 24) k_141_24 rfl rfl) ?_
  refine Eq.trans (ev_aload_n (pc := 25) (x := 46) k_141_25 rfl rfl (by decide)) ?_
  refine Eq.trans (ev_getI (pc := 26) k_141_26 rfl zo_46.1) ?_
  refine Eq.trans (ev_iast_c (pc := 29) k_141_29 rfl za_57) (z_it1 ?_)
  refine Eq.trans (ev_iload_n (pc := 30) k_141_30 rfl rfl) ?_
  refine Eq.trans (ev_ifne (pc := 31) k_141_31.1 rfl k_141_31.2) (z_ite ?_ ?_)
  · refine Eq.trans (ev_aload_n (pc := 34) (x := 46) k_141_34 rfl rfl (by decide)) ?_
    refine Eq.trans (ev_vv (pc := 35) (as := []) (rest := []) k_141_35 rfl zo_46 rfl rfl (Nat.le_of_ble_eq_true rfl) (Nat.le_of_ble_eq_true rfl)) (z_cbv fun h2 => ?_)
    refine Eq.trans (ev_aload_n (pc := 38) (x := 46) k_141_38 rfl rfl (by decide)) ?_
    refine Eq.trans (ev_getL (pc := 39) k_141_39 rfl zo_46.1) ?_
    refine Eq.trans (ev_bipush (pc := 42) (v := 102) k_141_42 rfl (by decide)) ?_
    refine Eq.trans (ev_bipush (pc := 44) (v := 111) k_141_44 rfl (by decide)) ?_
    refine Eq.trans (ev_bipush (pc := 46) (v := 108) k_141_46 rfl (by decide)) ?_
    refine Eq.trans (ev_bipush (pc := 48) (v := 108) k_141_48 rfl (by decide)) ?_
    refine Eq.trans (ev_sj (pc := 50) (as := [.int 102, .int 111, .int 108, .int 108]) (rest := [.long (h2.2.1 46 19)]) k_141_50 rfl rfl rfl (Nat.le_of_ble_eq_true rfl) (Nat.le_of_ble_eq_true rfl)) (z_cbj fun x3 h3 => ?_)
    refine Eq.trans (ev_bipush (pc := 53) (v := 111) k_141_53 rfl (by decide)) ?_
    refine Eq.trans (ev_sj (pc := 55) (as := [.long x3, .int 111]) (rest := [.long (h2.2.1 46 19)]) k_141_55 rfl rfl rfl (Nat.le_of_ble_eq_true rfl) (Nat.le_of_ble_eq_true rfl)) (z_cbj fun x4 h4 => ?_)
    refine Eq.trans (ev_bipush (pc := 58) (v := 119) k_141_58 rfl (by decide)) ?_
    refine Eq.trans (ev_sj (pc := 60) (as := [.long x4, .int 119]) (rest := [.long (h2.2.1 46 19)]) k_141_60 rfl rfl rfl (Nat.le_of_ble_eq_true rfl) (Nat.le_of_ble_eq_true rfl)) (z_cbj fun x5 h5 => ?_)
    refine Eq.trans (ev_bipush (pc := 63) (v := 115) k_141_63 rfl (by decide)) ?_
    refine Eq.trans (ev_sj (pc := 65) (as := [.long x5, .int 115]) (rest := [.long (h2.2.1 46 19)]) k_141_65 rfl rfl rfl (Nat.le_of_ble_eq_true rfl) (Nat.le_of_ble_eq_true rfl)) (z_cbj fun x6 h6 => ?_)
    refine Eq.trans (ev_lcmp (pc := 68) k_141_68 rfl) ?_
    refine Eq.trans (ev_ilne (pc := 69) k_141_69.1 rfl k_141_69.2) (z_ite ?_ ?_)
    · refine Eq.trans (ev_aload_n (pc := 72) (x := 46) k_141_72 rfl rfl (by decide)) ?_
      refine Eq.trans (ev_aload_n (pc := 73) (x := 46) k_141_73 rfl rfl (by decide)) ?_
      refine Eq.trans (ev_getI (pc := 74) k_141_74 rfl zo_46.1) ?_
      refine Eq.trans (ev_putI (pc := 77) k_141_77 rfl zo_46.1) ?_
      refine Eq.trans (ev_aload_n (pc := 80) (x := 46) k_141_80 rfl rfl (by decide)) ?_
      refine Eq.trans (ev_aload_n (pc := 81) (x := 46) k_141_81 rfl rfl (by decide)) ?_
      refine Eq.trans (ev_getR (pc := 82) (b := 58) k_141_82 rfl zo_46.1 zg_46_25) ?_
      refine Eq.trans (ev_iload_n (pc := 85) k_141_85 rfl rfl) ?_
      refine Eq.trans (ev_iload_n (pc := 86) k_141_86 rfl rfl) ?_
      refine Eq.trans (ev_vi (pc := 87) (as := [.ref 58, .int (h.1 46 23), .int (h.1 46 23)]) (rest := []) k_141_87 rfl zo_46 rfl rfl (Nat.le_of_ble_eq_true rfl) (Nat.le_of_ble_eq_true rfl)) (z_cbi fun x7 h7 => ?_)
      refine Eq.trans (ev_istore_n (pc := 90) (lv' := [some (.ref 46), some (.int (h.1 46 23)), some (.int x7)]) k_141_90 rfl (Nat.le_of_ble_eq_true rfl) rfl) ?_
      exact ev_mk kd_141_91 rfl
    · exact ev_mk kd_141_91 rfl
  · exact ev_mk kd_141_91 rfl

set_option maxRecDepth 100000 in
theorem E_Mo_takeFact_91 (sc : zSc) (d : Nat) (h : zHp) (v2 : Int32) : zE sc (d + 1) 141 91 [some (.ref 46), none, some (.int v2)] [] zGL h = some (some (.int v2), zGL, zPI h 46 23 ((h.1 46 23) + (1 : Int32))) := by
  refine Eq.trans (ev_aload_n (pc := 91) (x := 46) k_141_91 rfl rfl (by decide)) ?_
  refine Eq.trans (ev_dup (pc := 92) k_141_92 rfl rfl) ?_
  refine Eq.trans (ev_getI (pc := 93) k_141_93 rfl zo_46.1) ?_
  refine Eq.trans (ev_iconst (pc := 96) (v := 1) k_141_96 rfl (by decide)) ?_
  refine Eq.trans (ev_iadd (pc := 97) k_141_97 rfl) ?_
  refine Eq.trans (ev_putI (pc := 98) k_141_98 rfl zo_46.1) ?_
  refine Eq.trans (ev_iload_n (pc := 101) k_141_101 rfl rfl) ?_
  exact ev_ret_int k_141_102 rfl rt_141

set_option maxRecDepth 100000 in
theorem E_Mo_takeSet (sc : zSc) (d : Nat) (h : zHp) (a1 n1 : Nat) (q1 : zIA zGL a1 0 n1) (v2 : Int32) (v3 : Int32) : zRun sc (d + 1) 142 [.ref 46, .ref a1, .int v2, .int v3] zGL h = zE sc (d + 1) 142 3 [some (.ref 46), some (.ref a1), some (.int v2), some (.int v3), some (.int 1), none] [] zGL h := by
  have he : zEnt 142 [.ref 46, .ref a1, .int v2, .int v3] = [some (.ref 46), some (.ref a1), some (.int v2), some (.int v3), none, none] := by unfold zEnt; rw [ml_142]; rfl
  unfold zRun
  rw [he]
  refine Eq.trans (ev_iconst (pc := 0) (v := 1) k_142_0 rfl (by decide)) ?_
  refine Eq.trans (ev_istore (pc := 1) (lv' := [some (.ref 46), some (.ref a1), some (.int v2), some (.int v3), some (.int 1), none]) k_142_1 rfl (Nat.le_of_ble_eq_true rfl) rfl) ?_
  exact ev_mk kd_142_3 rfl

set_option maxRecDepth 100000 in
theorem E_Mo_takeSet_3 (sc : zSc) (d : Nat) (h : zHp) (a1 n1 : Nat) (q1 : zIA zGL a1 0 n1) (v2 : Int32) (v3 : Int32) (v4 : Int32) : zE sc (d + 1) 142 3 [some (.ref 46), some (.ref a1), some (.int v2), some (.int v3), some (.int v4), none] [] zGL h = (if v4 = 0 then some (some (.int 0), zGL, h) else (zBi (zRun sc d 140 [.ref 46, .int 0, .int (v3 - (1 : Int32))] zGL h) zGL fun x1 h1 => (if 0 < x1 then some (some (.int x1), zGL, h1) else (if zin v2 n1 = true then (zBi (zRun sc d 129 [.int (h1.1 a1 v2.toNatClampNeg), .int (h1.1 46 21)] zGL h1) zGL fun x2 h2 => (if x2 = 0 then (if zin v2 n1 = true then (if zin v2 n1 = true then (zBi (zRun sc d 134 [.ref 46] zGL (zPI h2 a1 v2.toNatClampNeg ((h2.1 a1 v2.toNatClampNeg) ||| ((1 : Int32) <<< ((h2.1 46 21) &&& 31))))) zGL fun x3 h3 => (if x3 = (44 : Int32) then zE sc (d + 1) 142 75 [some (.ref 46), some (.ref a1), some (.int v2), some (.int v3), none, none] [.int 1] zGL h3 else zE sc (d + 1) 142 75 [some (.ref 46), some (.ref a1), some (.int v2), some (.int v3), none, none] [.int 0] zGL h3)) else none) else none) else (zBi (zRun sc d 139 [.ref 46, .int 4, .int (h2.1 46 22)] zGL h2) zGL fun x4 h4 => some (some (.int x4), zGL, h4)))) else none)))) := by
  refine Eq.trans (ev_iload (pc := 3) k_142_3 rfl rfl) ?_
  refine Eq.trans (ev_ifeq (pc := 5) k_142_5.1 rfl k_142_5.2) (z_ite ?_ ?_)
  · refine Eq.trans (ev_iconst (pc := 99) (v := 0) k_142_99 rfl (by decide)) ?_
    exact ev_ret_int k_142_100 rfl rt_142
  · refine Eq.trans (ev_aload_n (pc := 8) (x := 46) k_142_8 rfl rfl (by decide)) ?_
    refine Eq.trans (ev_iconst (pc := 9) (v := 0) k_142_9 rfl (by decide)) ?_
    refine Eq.trans (ev_iload_n (pc := 10) k_142_10 rfl rfl) ?_
    refine Eq.trans (ev_iconst (pc := 11) (v := 1) k_142_11 rfl (by decide)) ?_
    refine Eq.trans (ev_isub (pc := 12) k_142_12 rfl) ?_
    refine Eq.trans (ev_vi (pc := 13) (as := [.int 0, .int (v3 - (1 : Int32))]) (rest := []) k_142_13 rfl zo_46 rfl rfl (Nat.le_of_ble_eq_true rfl) (Nat.le_of_ble_eq_true rfl)) (z_cbi fun x1 h1 => ?_)
    refine Eq.trans (ev_istore (pc := 16) (lv' := [some (.ref 46), some (.ref a1), some (.int v2), some (.int v3), some (.int v4), some (.int x1)]) k_142_16 rfl (Nat.le_of_ble_eq_true rfl) rfl) ?_
    refine Eq.trans (ev_iload (pc := 18) k_142_18 rfl rfl) ?_
    refine Eq.trans (ev_ifle (pc := 20) k_142_20.1 rfl k_142_20.2) (z_ite ?_ ?_)
    · refine Eq.trans (ev_iload (pc := 23) k_142_23 rfl rfl) ?_
      exact ev_ret_int k_142_25 rfl rt_142
    · refine Eq.trans (ev_aload_n (pc := 26) (x := a1) k_142_26 rfl rfl (z_ne14 q1.1 q1.2.1)) ?_
      refine Eq.trans (ev_iload_n (pc := 27) k_142_27 rfl rfl) ?_
      refine Eq.trans (ev_iald_c (pc := 28) k_142_28 rfl q1) (z_it1 ?_)
      refine Eq.trans (ev_aload_n (pc := 29) (x := 46) k_142_29 rfl rfl (by decide)) ?_
      refine Eq.trans (ev_getI (pc := 30) k_142_30 rfl zo_46.1) ?_
      refine Eq.trans (ev_si (pc := 33) (as := [.int (h1.1 a1 v2.toNatClampNeg), .int (h1.1 46 21)]) (rest := []) k_142_33 rfl rfl rfl (Nat.le_of_ble_eq_true rfl) (Nat.le_of_ble_eq_true rfl)) (z_cbi fun x2 h2 => ?_)
      refine Eq.trans (ev_ifeq (pc := 36) k_142_36.1 rfl k_142_36.2) (z_ite ?_ ?_)
      · refine Eq.trans (ev_aload_n (pc := 49) (x := a1) k_142_49 rfl rfl (z_ne14 q1.1 q1.2.1)) ?_
        refine Eq.trans (ev_iload_n (pc := 50) k_142_50 rfl rfl) ?_
        refine Eq.trans (ev_dup2 (pc := 51) k_142_51 rfl rfl rfl) ?_
        refine Eq.trans (ev_iald_c (pc := 52) k_142_52 rfl q1) (z_it1 ?_)
        refine Eq.trans (ev_iconst (pc := 53) (v := 1) k_142_53 rfl (by decide)) ?_
        refine Eq.trans (ev_aload_n (pc := 54) (x := 46) k_142_54 rfl rfl (by decide)) ?_
        refine Eq.trans (ev_getI (pc := 55) k_142_55 rfl zo_46.1) ?_
        refine Eq.trans (ev_ishl (pc := 58) k_142_58 rfl) ?_
        refine Eq.trans (ev_ior (pc := 59) k_142_59 rfl) ?_
        refine Eq.trans (ev_iast_c (pc := 60) k_142_60 rfl q1) (z_it1 ?_)
        refine Eq.trans (ev_aload_n (pc := 61) (x := 46) k_142_61 rfl rfl (by decide)) ?_
        refine Eq.trans (ev_vi (pc := 62) (as := []) (rest := []) k_142_62 rfl zo_46 rfl rfl (Nat.le_of_ble_eq_true rfl) (Nat.le_of_ble_eq_true rfl)) (z_cbi fun x3 h3 => ?_)
        refine Eq.trans (ev_bipush (pc := 65) (v := 44) k_142_65 rfl (by decide)) ?_
        refine Eq.trans (ev_icne (pc := 67) k_142_67.1 rfl k_142_67.2) (z_ite ?_ ?_)
        · refine Eq.trans (ev_iconst (pc := 70) (v := 1) k_142_70 rfl (by decide)) ?_
          refine Eq.trans (ev_goto (pc := 71) k_142_71.1 rfl k_142_71.2) ?_
          exact ev_mk kd_142_75 rfl
        · refine Eq.trans (ev_iconst (pc := 74) (v := 0) k_142_74 rfl (by decide)) ?_
          exact ev_mk kd_142_75 rfl
      · refine Eq.trans (ev_aload_n (pc := 39) (x := 46) k_142_39 rfl rfl (by decide)) ?_
        refine Eq.trans (ev_iconst (pc := 40) (v := 4) k_142_40 rfl (by decide)) ?_
        refine Eq.trans (ev_aload_n (pc := 41) (x := 46) k_142_41 rfl rfl (by decide)) ?_
        refine Eq.trans (ev_getI (pc := 42) k_142_42 rfl zo_46.1) ?_
        refine Eq.trans (ev_vi (pc := 45) (as := [.int 4, .int (h2.1 46 22)]) (rest := []) k_142_45 rfl zo_46 rfl rfl (Nat.le_of_ble_eq_true rfl) (Nat.le_of_ble_eq_true rfl)) (z_cbi fun x4 h4 => ?_)
        exact ev_ret_int k_142_48 rfl rt_142

set_option maxRecDepth 100000 in
theorem E_Mo_takeSet_75 (sc : zSc) (d : Nat) (h : zHp) (a1 n1 : Nat) (q1 : zIA zGL a1 0 n1) (v2 : Int32) (v3 : Int32) (s0 : Int32) : zE sc (d + 1) 142 75 [some (.ref 46), some (.ref a1), some (.int v2), some (.int v3), none, none] [.int s0] zGL h = (if s0 = 0 then zE sc (d + 1) 142 3 [some (.ref 46), some (.ref a1), some (.int v2), some (.int v3), some (.int s0), none] [] zGL (zPI h 46 18 ((h.1 46 18) + (0 : Int32))) else zE sc (d + 1) 142 3 [some (.ref 46), some (.ref a1), some (.int v2), some (.int v3), some (.int s0), none] [] zGL (zPI h 46 18 ((h.1 46 18) + (1 : Int32)))) := by
  refine Eq.trans (ev_istore (pc := 75) (lv' := [some (.ref 46), some (.ref a1), some (.int v2), some (.int v3), some (.int s0), none]) k_142_75 rfl (Nat.le_of_ble_eq_true rfl) rfl) ?_
  refine Eq.trans (ev_aload_n (pc := 77) (x := 46) k_142_77 rfl rfl (by decide)) ?_
  refine Eq.trans (ev_dup (pc := 78) k_142_78 rfl rfl) ?_
  refine Eq.trans (ev_getI (pc := 79) k_142_79 rfl zo_46.1) ?_
  refine Eq.trans (ev_iload (pc := 82) k_142_82 rfl rfl) ?_
  refine Eq.trans (ev_ifeq (pc := 84) k_142_84.1 rfl k_142_84.2) (z_ite ?_ ?_)
  · refine Eq.trans (ev_iconst (pc := 91) (v := 0) k_142_91 rfl (by decide)) ?_
    refine Eq.trans (ev_iadd (pc := 92) k_142_92 rfl) ?_
    refine Eq.trans (ev_putI (pc := 93) k_142_93 rfl zo_46.1) ?_
    refine Eq.trans (ev_goto (pc := 96) k_142_96.1 rfl k_142_96.2) ?_
    exact ev_mk kd_142_3 rfl
  · refine Eq.trans (ev_iconst (pc := 87) (v := 1) k_142_87 rfl (by decide)) ?_
    refine Eq.trans (ev_goto (pc := 88) k_142_88.1 rfl k_142_88.2) ?_
    refine Eq.trans (ev_iadd (pc := 92) k_142_92 rfl) ?_
    refine Eq.trans (ev_putI (pc := 93) k_142_93 rfl zo_46.1) ?_
    refine Eq.trans (ev_goto (pc := 96) k_142_96.1 rfl k_142_96.2) ?_
    exact ev_mk kd_142_3 rfl

set_option maxRecDepth 100000 in
theorem E_Mo_takePerson (sc : zSc) (d : Nat) (h : zHp)  : zRun sc (d + 1) 143 [.ref 46] zGL h = (if zin (h.1 46 26) 5 = true then (zBv (zRun sc d 136 [.ref 46] zGL (zPI h 59 (h.1 46 26).toNatClampNeg 0)) zGL fun h1 => (zBj (zRun sc d 137 [.int 107, .int 110, .int 111, .int 119] zGL h1) zGL fun x2 h2 => (zBj (zRun sc d 138 [.long x2, .int 115] zGL h2) zGL fun x3 h3 => (if (h1.2.1 46 19) = x3 then (zBi (zRun sc d 142 [.ref 46, .ref 59, .int (h.1 46 26), .int ((zPI h3 46 18 (h3.1 46 20)).1 46 23)] zGL (zPI h3 46 18 (h3.1 46 20))) zGL fun x4 h4 => zE sc (d + 1) 143 64 [some (.ref 46), none, some (.int x4)] [] zGL h4) else zE sc (d + 1) 143 64 [some (.ref 46), none, some (.int 0)] [] zGL h3)))) else none) := by
  have he : zEnt 143 [.ref 46] = [some (.ref 46), none, none] := by unfold zEnt; rw [ml_143]; rfl
  unfold zRun
  rw [he]
  refine Eq.trans (ev_aload_n (pc := 0) (x := 46) k_143_0 rfl rfl (by decide)) ?_
  refine Eq.trans (ev_getI (pc := 1) k_143_1 rfl zo_46.1) ?_
  refine Eq.trans (ev_istore_n (pc := 4) (lv' := [some (.ref 46), some (.int (h.1 46 26)), none]) k_143_4 rfl (Nat.le_of_ble_eq_true rfl) rfl) ?_
  refine Eq.trans (ev_aload_n (pc := 5) (x := 46) k_143_5 rfl rfl (by decide)) ?_
  refine Eq.trans (ev_getR (pc := 6) (b := 59) k_143_6 rfl zo_46.1 zg_46_27) ?_
  refine Eq.trans (ev_iload_n (pc := 9) k_143_9 rfl rfl) ?_
  refine Eq.trans (ev_iconst (pc := 10) (v := 0) k_143_10 rfl (by decide)) ?_
  refine Eq.trans (ev_iast_c (pc := 11) k_143_11 rfl za_59) (z_it1 ?_)
  refine Eq.trans (ev_iconst (pc := 12) (v := 0) k_143_12 rfl (by decide)) ?_
  refine Eq.trans (ev_istore_n (pc := 13) (lv' := [some (.ref 46), some (.int (h.1 46 26)), some (.int 0)]) k_143_13 rfl (Nat.le_of_ble_eq_true rfl) rfl) ?_
  refine Eq.trans (ev_aload_n (pc := 14) (x := 46) k_143_14 rfl rfl (by decide)) ?_
  refine Eq.trans (ev_vv (pc := 15) (as := []) (rest := []) k_143_15 rfl zo_46 rfl rfl (Nat.le_of_ble_eq_true rfl) (Nat.le_of_ble_eq_true rfl)) (z_cbv fun h1 => ?_)
  refine Eq.trans (ev_aload_n (pc := 18) (x := 46) k_143_18 rfl rfl (by decide)) ?_
  refine Eq.trans (ev_getL (pc := 19) k_143_19 rfl zo_46.1) ?_
  refine Eq.trans (ev_bipush (pc := 22) (v := 107) k_143_22 rfl (by decide)) ?_
  refine Eq.trans (ev_bipush (pc := 24) (v := 110) k_143_24 rfl (by decide)) ?_
  refine Eq.trans (ev_bipush (pc := 26) (v := 111) k_143_26 rfl (by decide)) ?_
  refine Eq.trans (ev_bipush (pc := 28) (v := 119) k_143_28 rfl (by decide)) ?_
  refine Eq.trans (ev_sj (pc := 30) (as := [.int 107, .int 110, .int 111, .int 119]) (rest := [.long (h1.2.1 46 19)]) k_143_30 rfl rfl rfl (Nat.le_of_ble_eq_true rfl) (Nat.le_of_ble_eq_true rfl)) (z_cbj fun x2 h2 => ?_)
  refine Eq.trans (ev_bipush (pc := 33) (v := 115) k_143_33 rfl (by decide)) ?_
  refine Eq.trans (ev_sj (pc := 35) (as := [.long x2, .int 115]) (rest := [.long (h1.2.1 46 19)]) k_143_35 rfl rfl rfl (Nat.le_of_ble_eq_true rfl) (Nat.le_of_ble_eq_true rfl)) (z_cbj fun x3 h3 => ?_)
  refine Eq.trans (ev_lcmp (pc := 38) k_143_38 rfl) ?_
  refine Eq.trans (ev_ilne (pc := 39) k_143_39.1 rfl k_143_39.2) (z_ite ?_ ?_)
  · refine Eq.trans (ev_aload_n (pc := 42) (x := 46) k_143_42 rfl rfl (by decide)) ?_
    refine Eq.trans (ev_aload_n (pc := 43) (x := 46) k_143_43 rfl rfl (by decide)) ?_
    refine Eq.trans (ev_getI (pc := 44) k_143_44 rfl zo_46.1) ?_
    refine Eq.trans (ev_putI (pc := 47) k_143_47 rfl zo_46.1) ?_
    refine Eq.trans (ev_aload_n (pc := 50) (x := 46) k_143_50 rfl rfl (by decide)) ?_
    refine Eq.trans (ev_aload_n (pc := 51) (x := 46) k_143_51 rfl rfl (by decide)) ?_
    refine Eq.trans (ev_getR (pc := 52) (b := 59) k_143_52 rfl zo_46.1 zg_46_27) ?_
    refine Eq.trans (ev_iload_n (pc := 55) k_143_55 rfl rfl) ?_
    refine Eq.trans (ev_aload_n (pc := 56) (x := 46) k_143_56 rfl rfl (by decide)) ?_
    refine Eq.trans (ev_getI (pc := 57) k_143_57 rfl zo_46.1) ?_
    refine Eq.trans (ev_vi (pc := 60) (as := [.ref 59, .int (h.1 46 26), .int ((zPI h3 46 18 (h3.1 46 20)).1 46 23)]) (rest := []) k_143_60 rfl zo_46 rfl rfl (Nat.le_of_ble_eq_true rfl) (Nat.le_of_ble_eq_true rfl)) (z_cbi fun x4 h4 => ?_)
    refine Eq.trans (ev_istore_n (pc := 63) (lv' := [some (.ref 46), some (.int (h.1 46 26)), some (.int x4)]) k_143_63 rfl (Nat.le_of_ble_eq_true rfl) rfl) ?_
    exact ev_mk kd_143_64 rfl
  · exact ev_mk kd_143_64 rfl

set_option maxRecDepth 100000 in
theorem E_Mo_takePerson_64 (sc : zSc) (d : Nat) (h : zHp) (v2 : Int32) : zE sc (d + 1) 143 64 [some (.ref 46), none, some (.int v2)] [] zGL h = some (some (.int v2), zGL, zPI h 46 26 ((h.1 46 26) + (1 : Int32))) := by
  refine Eq.trans (ev_aload_n (pc := 64) (x := 46) k_143_64 rfl rfl (by decide)) ?_
  refine Eq.trans (ev_dup (pc := 65) k_143_65 rfl rfl) ?_
  refine Eq.trans (ev_getI (pc := 66) k_143_66 rfl zo_46.1) ?_
  refine Eq.trans (ev_iconst (pc := 69) (v := 1) k_143_69 rfl (by decide)) ?_
  refine Eq.trans (ev_iadd (pc := 70) k_143_70 rfl) ?_
  refine Eq.trans (ev_putI (pc := 71) k_143_71 rfl zo_46.1) ?_
  refine Eq.trans (ev_iload_n (pc := 74) k_143_74 rfl rfl) ?_
  exact ev_ret_int k_143_75 rfl rt_143

set_option maxRecDepth 100000 in
theorem E_Mo_fault (sc : zSc) (d : Nat) (h : zHp)  : zRun sc d 144 [.ref 46] zGL h = some (some (.int (h.1 46 17)), zGL, h) := by
  have he : zEnt 144 [.ref 46] = [some (.ref 46)] := by unfold zEnt; rw [ml_144]; rfl
  unfold zRun
  rw [he]
  refine Eq.trans (ev_aload_n (pc := 0) (x := 46) k_144_0 rfl rfl (by decide)) ?_
  refine Eq.trans (ev_getI (pc := 1) k_144_1 rfl zo_46.1) ?_
  exact ev_ret_int k_144_4 rfl rt_144

set_option maxRecDepth 100000 in
theorem E_Mo_told (sc : zSc) (d : Nat) (h : zHp) (v1 : Int32) : zRun sc (d + 1) 145 [.ref 46, .int v1] zGL h = (if v1 = 0 then some (some (.int (h.1 46 0)), zGL, h) else (if v1 = 1 then some (some (.int (h.1 46 3)), zGL, h) else (if v1 = 2 then some (some (.int (h.1 46 5)), zGL, h) else (if v1 = 3 then some (some (.int (h.1 46 16)), zGL, h) else (if v1 = 4 then some (some (.int (h.1 46 12)), zGL, h) else (if v1 = 5 then some (some (.int (h.1 46 35)), zGL, h) else (if v1 = 6 then (zBi (zRun sc d 146 [.long (h.2.1 46 7)] zGL h) zGL fun x1 h1 => some (some (.int x1), zGL, h1)) else some (some (.int (-1000000002)), zGL, h)))))))) := by
  have he : zEnt 145 [.ref 46, .int v1] = [some (.ref 46), some (.int v1)] := by unfold zEnt; rw [ml_145]; rfl
  unfold zRun
  rw [he]
  refine Eq.trans (ev_iload_n (pc := 0) k_145_0 rfl rfl) ?_
  by_cases e0 : v1 = 0
  · rw [if_pos e0, e0]
    refine Eq.trans (ev_sw (pc := 1) (t := 44) k_145_1 rfl ⟨rfl, rfl⟩ (z_tsI (o := 43) (by decide) (by decide) (by decide))) ?_
    refine Eq.trans (ev_aload_n (pc := 44) (x := 46) k_145_44 rfl rfl (by decide)) ?_
    refine Eq.trans (ev_getI (pc := 45) k_145_45 rfl zo_46.1) ?_
    exact ev_ret_int k_145_48 rfl rt_145
  · rw [if_neg e0]
    by_cases e1 : v1 = 1
    · rw [if_pos e1, e1]
      refine Eq.trans (ev_sw (pc := 1) (t := 49) k_145_1 rfl ⟨rfl, rfl⟩ (z_tsI (o := 48) (by decide) (by decide) (by decide))) ?_
      refine Eq.trans (ev_aload_n (pc := 49) (x := 46) k_145_49 rfl rfl (by decide)) ?_
      refine Eq.trans (ev_getI (pc := 50) k_145_50 rfl zo_46.1) ?_
      exact ev_ret_int k_145_53 rfl rt_145
    · rw [if_neg e1]
      by_cases e2 : v1 = 2
      · rw [if_pos e2, e2]
        refine Eq.trans (ev_sw (pc := 1) (t := 54) k_145_1 rfl ⟨rfl, rfl⟩ (z_tsI (o := 53) (by decide) (by decide) (by decide))) ?_
        refine Eq.trans (ev_aload_n (pc := 54) (x := 46) k_145_54 rfl rfl (by decide)) ?_
        refine Eq.trans (ev_getI (pc := 55) k_145_55 rfl zo_46.1) ?_
        exact ev_ret_int k_145_58 rfl rt_145
      · rw [if_neg e2]
        by_cases e3 : v1 = 3
        · rw [if_pos e3, e3]
          refine Eq.trans (ev_sw (pc := 1) (t := 59) k_145_1 rfl ⟨rfl, rfl⟩ (z_tsI (o := 58) (by decide) (by decide) (by decide))) ?_
          refine Eq.trans (ev_aload_n (pc := 59) (x := 46) k_145_59 rfl rfl (by decide)) ?_
          refine Eq.trans (ev_getI (pc := 60) k_145_60 rfl zo_46.1) ?_
          exact ev_ret_int k_145_63 rfl rt_145
        · rw [if_neg e3]
          by_cases e4 : v1 = 4
          · rw [if_pos e4, e4]
            refine Eq.trans (ev_sw (pc := 1) (t := 64) k_145_1 rfl ⟨rfl, rfl⟩ (z_tsI (o := 63) (by decide) (by decide) (by decide))) ?_
            refine Eq.trans (ev_aload_n (pc := 64) (x := 46) k_145_64 rfl rfl (by decide)) ?_
            refine Eq.trans (ev_getI (pc := 65) k_145_65 rfl zo_46.1) ?_
            exact ev_ret_int k_145_68 rfl rt_145
          · rw [if_neg e4]
            by_cases e5 : v1 = 5
            · rw [if_pos e5, e5]
              refine Eq.trans (ev_sw (pc := 1) (t := 69) k_145_1 rfl ⟨rfl, rfl⟩ (z_tsI (o := 68) (by decide) (by decide) (by decide))) ?_
              refine Eq.trans (ev_aload_n (pc := 69) (x := 46) k_145_69 rfl rfl (by decide)) ?_
              refine Eq.trans (ev_getI (pc := 70) k_145_70 rfl zo_46.1) ?_
              exact ev_ret_int k_145_73 rfl rt_145
            · rw [if_neg e5]
              by_cases e6 : v1 = 6
              · rw [if_pos e6, e6]
                refine Eq.trans (ev_sw (pc := 1) (t := 74) k_145_1 rfl ⟨rfl, rfl⟩ (z_tsI (o := 73) (by decide) (by decide) (by decide))) ?_
                refine Eq.trans (ev_aload_n (pc := 74) (x := 46) k_145_74 rfl rfl (by decide)) ?_
                refine Eq.trans (ev_getL (pc := 75) k_145_75 rfl zo_46.1) ?_
                refine Eq.trans (ev_si (pc := 78) (as := [.long (h.2.1 46 7)]) (rest := []) k_145_78 rfl rfl rfl (Nat.le_of_ble_eq_true rfl) (Nat.le_of_ble_eq_true rfl)) (z_cbi fun x1 h1 => ?_)
                exact ev_ret_int k_145_81 rfl rt_145
              · rw [if_neg e6]
                have f0 : (v1).toInt ≠ 0 := fun z => e0 (Int32.toInt_inj.mp (z.trans (by decide)))
                have f1 : (v1).toInt ≠ 1 := fun z => e1 (Int32.toInt_inj.mp (z.trans (by decide)))
                have f2 : (v1).toInt ≠ 2 := fun z => e2 (Int32.toInt_inj.mp (z.trans (by decide)))
                have f3 : (v1).toInt ≠ 3 := fun z => e3 (Int32.toInt_inj.mp (z.trans (by decide)))
                have f4 : (v1).toInt ≠ 4 := fun z => e4 (Int32.toInt_inj.mp (z.trans (by decide)))
                have f5 : (v1).toInt ≠ 5 := fun z => e5 (Int32.toInt_inj.mp (z.trans (by decide)))
                have f6 : (v1).toInt ≠ 6 := fun z => e6 (Int32.toInt_inj.mp (z.trans (by decide)))
                refine Eq.trans (ev_sw (pc := 1) (t := 82) k_145_1 rfl ⟨rfl, rfl⟩ (z_tsO (by omega) (by decide))) ?_
                refine Eq.trans (ev_ldc (pc := 82) (v := (-1000000002)) k_145_82 rfl) ?_
                exact ev_ret_int k_145_84 rfl rt_145

set_option maxRecDepth 100000 in
theorem E_Mo_bits (sc : zSc) (d : Nat) (h : zHp) (w0 : Int64) : zRun sc d 146 [.long w0] zGL h = zE sc d 146 4 [some (.long w0), none, some (.int 0), some (.int 0)] [] zGL h := by
  have he : zEnt 146 [.long w0] = [some (.long w0), none, none, none] := by unfold zEnt; rw [ml_146]; rfl
  unfold zRun
  rw [he]
  refine Eq.trans (ev_iconst (pc := 0) (v := 0) k_146_0 rfl (by decide)) ?_
  refine Eq.trans (ev_istore_n (pc := 1) (lv' := [some (.long w0), none, some (.int 0), none]) k_146_1 rfl (Nat.le_of_ble_eq_true rfl) rfl) ?_
  refine Eq.trans (ev_iconst (pc := 2) (v := 0) k_146_2 rfl (by decide)) ?_
  refine Eq.trans (ev_istore_n (pc := 3) (lv' := [some (.long w0), none, some (.int 0), some (.int 0)]) k_146_3 rfl (Nat.le_of_ble_eq_true rfl) rfl) ?_
  exact ev_mk kd_146_4 rfl

set_option maxRecDepth 100000 in
theorem E_Mo_bits_4 (sc : zSc) (d : Nat) (h : zHp) (w0 : Int64) (v2 : Int32) (v3 : Int32) : zE sc d 146 4 [some (.long w0), none, some (.int v2), some (.int v3)] [] zGL h = (if v3 < (64 : Int32) then zE sc d 146 4 [some (.long w0), none, some (.int (v2 + (((w0 >>> (v3.toInt64 &&& 63)) &&& (1 : Int64)).toInt32))), some (.int (v3 + 1))] [] zGL h else some (some (.int v2), zGL, h)) := by
  refine Eq.trans (ev_iload_n (pc := 4) k_146_4 rfl rfl) ?_
  refine Eq.trans (ev_bipush (pc := 5) (v := 64) k_146_5 rfl (by decide)) ?_
  refine Eq.trans (ev_icge (pc := 7) k_146_7.1 rfl k_146_7.2) (z_ite ?_ ?_)
  · refine Eq.trans (ev_iload_n (pc := 10) k_146_10 rfl rfl) ?_
    refine Eq.trans (ev_lload_n (pc := 11) k_146_11 rfl rfl) ?_
    refine Eq.trans (ev_iload_n (pc := 12) k_146_12 rfl rfl) ?_
    refine Eq.trans (ev_lshr (pc := 13) k_146_13 rfl) ?_
    refine Eq.trans (ev_lconst (pc := 14) (v := 1) k_146_14 rfl (by decide)) ?_
    refine Eq.trans (ev_land (pc := 15) k_146_15 rfl) ?_
    refine Eq.trans (ev_l2i (pc := 16) k_146_16 rfl) ?_
    refine Eq.trans (ev_iadd (pc := 17) k_146_17 rfl) ?_
    refine Eq.trans (ev_istore_n (pc := 18) (lv' := [some (.long w0), none, some (.int (v2 + (((w0 >>> (v3.toInt64 &&& 63)) &&& (1 : Int64)).toInt32))), some (.int v3)]) k_146_18 rfl (Nat.le_of_ble_eq_true rfl) rfl) ?_
    refine Eq.trans (ev_iinc (pc := 19) (v := 1) (lv' := [some (.long w0), none, some (.int (v2 + (((w0 >>> (v3.toInt64 &&& 63)) &&& (1 : Int64)).toInt32))), some (.int (v3 + 1))]) k_146_19 rfl rfl (by decide) rfl) ?_
    refine Eq.trans (ev_goto (pc := 22) k_146_22.1 rfl k_146_22.2) ?_
    exact ev_mk kd_146_4 rfl
  · refine Eq.trans (ev_iload_n (pc := 25) k_146_25 rfl rfl) ?_
    exact ev_ret_int k_146_26 rfl rt_146

set_option maxRecDepth 100000 in
theorem E_Mo_fact (sc : zSc) (d : Nat) (h : zHp) (v1 : Int32) (v2 : Int32) : zRun sc (d + 1) 147 [.ref 46, .int v1, .int v2] zGL h = (zBi (zRun sc d 148 [.ref 46, .int v1] zGL h) zGL fun x1 h1 => (if x1 = 0 then some (some (.int (-1000000001)), zGL, h1) else (if v2 = 0 then (if zin v1 6 = true then some (some (.int (h1.1 47 v1.toNatClampNeg)), zGL, h1) else none) else (if v2 = (1 : Int32) then (if zin v1 6 = true then some (some (.int (h1.1 48 v1.toNatClampNeg)), zGL, h1) else none) else (if v2 = (2 : Int32) then (zBi (zRun sc d 149 [.ref 46, .int v1] zGL h1) zGL fun x2 h2 => some (some (.int x2), zGL, h2)) else some (some (.int (-1000000002)), zGL, h1)))))) := by
  have he : zEnt 147 [.ref 46, .int v1, .int v2] = [some (.ref 46), some (.int v1), some (.int v2)] := by unfold zEnt; rw [ml_147]; rfl
  unfold zRun
  rw [he]
  refine Eq.trans (ev_aload_n (pc := 0) (x := 46) k_147_0 rfl rfl (by decide)) ?_
  refine Eq.trans (ev_iload_n (pc := 1) k_147_1 rfl rfl) ?_
  refine Eq.trans (ev_vi (pc := 2) (as := [.int v1]) (rest := []) k_147_2 rfl zo_46 rfl rfl (Nat.le_of_ble_eq_true rfl) (Nat.le_of_ble_eq_true rfl)) (z_cbi fun x1 h1 => ?_)
  refine Eq.trans (ev_ifne (pc := 5) k_147_5.1 rfl k_147_5.2) (z_ite ?_ ?_)
  · refine Eq.trans (ev_ldc (pc := 8) (v := (-1000000001)) k_147_8 rfl) ?_
    exact ev_ret_int k_147_10 rfl rt_147
  · refine Eq.trans (ev_iload_n (pc := 11) k_147_11 rfl rfl) ?_
    refine Eq.trans (ev_ifne (pc := 12) k_147_12.1 rfl k_147_12.2) (z_ite ?_ ?_)
    · refine Eq.trans (ev_aload_n (pc := 15) (x := 46) k_147_15 rfl rfl (by decide)) ?_
      refine Eq.trans (ev_getR (pc := 16) (b := 47) k_147_16 rfl zo_46.1 zg_46_1) ?_
      refine Eq.trans (ev_iload_n (pc := 19) k_147_19 rfl rfl) ?_
      refine Eq.trans (ev_iald_c (pc := 20) k_147_20 rfl za_47) (z_it1 ?_)
      refine Eq.trans (ev_goto (pc := 21) k_147_21.1 rfl k_147_21.2) ?_
      refine Eq.trans (ev_mk (pc := 53) (lv' := [none, none, none]) kd_147_53 rfl) ?_
      exact ev_ret_int k_147_53 rfl rt_147
    · refine Eq.trans (ev_iload_n (pc := 24) k_147_24 rfl rfl) ?_
      refine Eq.trans (ev_iconst (pc := 25) (v := 1) k_147_25 rfl (by decide)) ?_
      refine Eq.trans (ev_icne (pc := 26) k_147_26.1 rfl k_147_26.2) (z_ite ?_ ?_)
      · refine Eq.trans (ev_aload_n (pc := 29) (x := 46) k_147_29 rfl rfl (by decide)) ?_
        refine Eq.trans (ev_getR (pc := 30) (b := 48) k_147_30 rfl zo_46.1 zg_46_2) ?_
        refine Eq.trans (ev_iload_n (pc := 33) k_147_33 rfl rfl) ?_
        refine Eq.trans (ev_iald_c (pc := 34) k_147_34 rfl za_48) (z_it1 ?_)
        refine Eq.trans (ev_goto (pc := 35) k_147_35.1 rfl k_147_35.2) ?_
        refine Eq.trans (ev_mk (pc := 53) (lv' := [none, none, none]) kd_147_53 rfl) ?_
        exact ev_ret_int k_147_53 rfl rt_147
      · refine Eq.trans (ev_iload_n (pc := 38) k_147_38 rfl rfl) ?_
        refine Eq.trans (ev_iconst (pc := 39) (v := 2) k_147_39 rfl (by decide)) ?_
        refine Eq.trans (ev_icne (pc := 40) k_147_40.1 rfl k_147_40.2) (z_ite ?_ ?_)
        · refine Eq.trans (ev_aload_n (pc := 43) (x := 46) k_147_43 rfl rfl (by decide)) ?_
          refine Eq.trans (ev_iload_n (pc := 44) k_147_44 rfl rfl) ?_
          refine Eq.trans (ev_vi (pc := 45) (as := [.int v1]) (rest := []) k_147_45 rfl zo_46 rfl rfl (Nat.le_of_ble_eq_true rfl) (Nat.le_of_ble_eq_true rfl)) (z_cbi fun x2 h2 => ?_)
          refine Eq.trans (ev_goto (pc := 48) k_147_48.1 rfl k_147_48.2) ?_
          refine Eq.trans (ev_mk (pc := 53) (lv' := [none, none, none]) kd_147_53 rfl) ?_
          exact ev_ret_int k_147_53 rfl rt_147
        · refine Eq.trans (ev_ldc (pc := 51) (v := (-1000000002)) k_147_51 rfl) ?_
          refine Eq.trans (ev_mk (pc := 53) (lv' := [none, none, none]) kd_147_53 rfl) ?_
          exact ev_ret_int k_147_53 rfl rt_147

set_option maxRecDepth 100000 in
theorem E_Mo_isFact (sc : zSc) (d : Nat) (h : zHp) (v1 : Int32) : zRun sc (d + 1) 148 [.ref 46, .int v1] zGL h = (zBi (zRun sc d 132 [.long v1.toInt64, .long 0, .long (((h.1 46 0) - (1 : Int32)).toInt64)] zGL h) zGL fun x1 h1 => (if x1 = 0 ∨ x1 = 1 then some (some (.int x1), zGL, h1) else none)) := by
  have he : zEnt 148 [.ref 46, .int v1] = [some (.ref 46), some (.int v1)] := by unfold zEnt; rw [ml_148]; rfl
  unfold zRun
  rw [he]
  refine Eq.trans (ev_iload_n (pc := 0) k_148_0 rfl rfl) ?_
  refine Eq.trans (ev_i2l (pc := 1) k_148_1 rfl) ?_
  refine Eq.trans (ev_lconst (pc := 2) (v := 0) k_148_2 rfl (by decide)) ?_
  refine Eq.trans (ev_aload_n (pc := 3) (x := 46) k_148_3 rfl rfl (by decide)) ?_
  refine Eq.trans (ev_getI (pc := 4) k_148_4 rfl zo_46.1) ?_
  refine Eq.trans (ev_iconst (pc := 7) (v := 1) k_148_7 rfl (by decide)) ?_
  refine Eq.trans (ev_isub (pc := 8) k_148_8 rfl) ?_
  refine Eq.trans (ev_i2l (pc := 9) k_148_9 rfl) ?_
  refine Eq.trans (ev_si (pc := 10) (as := [.long v1.toInt64, .long 0, .long (((h.1 46 0) - (1 : Int32)).toInt64)]) (rest := []) k_148_10 rfl rfl rfl (Nat.le_of_ble_eq_true rfl) (Nat.le_of_ble_eq_true rfl)) (z_cbi fun x1 h1 => ?_)
  exact ev_ret_bool k_148_13 rfl rt_148

set_option maxRecDepth 100000 in
theorem E_Mo_knowers (sc : zSc) (d : Nat) (h : zHp) (v1 : Int32) : zRun sc (d + 1) 149 [.ref 46, .int v1] zGL h = zE sc (d + 1) 149 4 [some (.ref 46), some (.int v1), some (.int 0), some (.int 0)] [] zGL h := by
  have he : zEnt 149 [.ref 46, .int v1] = [some (.ref 46), some (.int v1), none, none] := by unfold zEnt; rw [ml_149]; rfl
  unfold zRun
  rw [he]
  refine Eq.trans (ev_iconst (pc := 0) (v := 0) k_149_0 rfl (by decide)) ?_
  refine Eq.trans (ev_istore_n (pc := 1) (lv' := [some (.ref 46), some (.int v1), some (.int 0), none]) k_149_1 rfl (Nat.le_of_ble_eq_true rfl) rfl) ?_
  refine Eq.trans (ev_iconst (pc := 2) (v := 0) k_149_2 rfl (by decide)) ?_
  refine Eq.trans (ev_istore_n (pc := 3) (lv' := [some (.ref 46), some (.int v1), some (.int 0), some (.int 0)]) k_149_3 rfl (Nat.le_of_ble_eq_true rfl) rfl) ?_
  exact ev_mk kd_149_4 rfl


set_option maxRecDepth 100000 in
theorem E_Mo_findPlan (sc : zSc) (d : Nat) (h : zHp) (v1 : Int32) (v2 : Int32) : zRun sc (d + 1) 180 [.ref 46, .int v1, .int v2] zGL h = zE sc (d + 1) 180 9 [some (.ref 46), some (.int v1), some (.int v2), some (.int 0), none] [] zGL (zPI h 65 0 (-1)) := by
  have he : zEnt 180 [.ref 46, .int v1, .int v2] = [some (.ref 46), some (.int v1), some (.int v2), none, none] := by unfold zEnt; rw [ml_180]; rfl
  unfold zRun
  rw [he]
  refine Eq.trans (ev_iconst (pc := 0) (v := 0) k_180_0 rfl (by decide)) ?_
  refine Eq.trans (ev_istore_n (pc := 1) (lv' := [some (.ref 46), some (.int v1), some (.int v2), some (.int 0), none]) k_180_1 rfl (Nat.le_of_ble_eq_true rfl) rfl) ?_
  refine Eq.trans (ev_aload_n (pc := 2) (x := 46) k_180_2 rfl rfl (by decide)) ?_
  refine Eq.trans (ev_getR (pc := 3) (b := 65) k_180_3 rfl zo_46.1 zg_46_34) ?_
  refine Eq.trans (ev_iconst (pc := 6) (v := 0) k_180_6 rfl (by decide)) ?_
  refine Eq.trans (ev_iconst (pc := 7) (v := (-1)) k_180_7 rfl (by decide)) ?_
  refine Eq.trans (ev_iast_k (pc := 8) (m := 0) k_180_8 rfl za_65 (by decide)) ?_
  exact ev_mk kd_180_9 rfl

set_option maxRecDepth 100000 in
theorem E_Mo_findPlan_9 (sc : zSc) (d : Nat) (h : zHp) (v1 : Int32) (v2 : Int32) (v3 : Int32) : zE sc (d + 1) 180 9 [some (.ref 46), some (.int v1), some (.int v2), some (.int v3), none] [] zGL h = (if v3 < 0 then some (some (.int 0), zGL, h) else (if zin v3 7 = true then (if zin v3 7 = true then (if (v2 &&& (((h.1 61 v3.toNatClampNeg) &&& (h.1 62 v3.toNatClampNeg)) ^^^ ((-1) : Int32))) = 0 then zE sc (d + 1) 180 38 [some (.ref 46), some (.int v1), some (.int v2), some (.int v3), none] [.int 1] zGL h else zE sc (d + 1) 180 38 [some (.ref 46), some (.int v1), some (.int v2), some (.int v3), none] [.int 0] zGL h) else none) else none)) := by
  refine Eq.trans (ev_iload_n (pc := 9) k_180_9 rfl rfl) ?_
  refine Eq.trans (ev_iflt (pc := 10) k_180_10.1 rfl k_180_10.2) (z_ite ?_ ?_)
  · refine Eq.trans (ev_iconst (pc := 140) (v := 0) k_180_140 rfl (by decide)) ?_
    exact ev_ret_b1 k_180_141 rfl rt_180 (by decide)
  · refine Eq.trans (ev_iload_n (pc := 13) k_180_13 rfl rfl) ?_
    refine Eq.trans (ev_aload_n (pc := 14) (x := 46) k_180_14 rfl rfl (by decide)) ?_
    refine Eq.trans (ev_getR (pc := 15) (b := 61) k_180_15 rfl zo_46.1 zg_46_30) ?_
    refine Eq.trans (ev_iload_n (pc := 18) k_180_18 rfl rfl) ?_
    refine Eq.trans (ev_iald_c (pc := 19) k_180_19 rfl za_61) (z_it1 ?_)
    refine Eq.trans (ev_aload_n (pc := 20) (x := 46) k_180_20 rfl rfl (by decide)) ?_
    refine Eq.trans (ev_getR (pc := 21) (b := 62) k_180_21 rfl zo_46.1 zg_46_31) ?_
    refine Eq.trans (ev_iload_n (pc := 24) k_180_24 rfl rfl) ?_
    refine Eq.trans (ev_iald_c (pc := 25) k_180_25 rfl za_62) (z_it1 ?_)
    refine Eq.trans (ev_iand (pc := 26) k_180_26 rfl) ?_
    refine Eq.trans (ev_iconst (pc := 27) (v := (-1)) k_180_27 rfl (by decide)) ?_
    refine Eq.trans (ev_ixor (pc := 28) k_180_28 rfl) ?_
    refine Eq.trans (ev_iand (pc := 29) k_180_29 rfl) ?_
    refine Eq.trans (ev_ifne (pc := 30) k_180_30.1 rfl k_180_30.2) (z_ite ?_ ?_)
    · refine Eq.trans (ev_iconst (pc := 33) (v := 1) k_180_33 rfl (by decide)) ?_
      refine Eq.trans (ev_goto (pc := 34) k_180_34.1 rfl k_180_34.2) ?_
      exact ev_mk kd_180_38 rfl
    · refine Eq.trans (ev_iconst (pc := 37) (v := 0) k_180_37 rfl (by decide)) ?_
      exact ev_mk kd_180_38 rfl

set_option maxRecDepth 100000 in
theorem E_Mo_findPlan_38 (sc : zSc) (d : Nat) (h : zHp) (v1 : Int32) (v2 : Int32) (v3 : Int32) (s0 : Int32) : zE sc (d + 1) 180 38 [some (.ref 46), some (.int v1), some (.int v2), some (.int v3), none] [.int s0] zGL h = (if v3 = v1 then (if s0 = 0 then zE sc (d + 1) 180 52 [some (.ref 46), some (.int v1), some (.int v2), some (.int v3), none] [] zGL h else some (some (.int 1), zGL, h)) else zE sc (d + 1) 180 52 [some (.ref 46), some (.int v1), some (.int v2), some (.int v3), none] [] zGL h) := by
  refine Eq.trans (ev_istore (pc := 38) (lv' := [some (.ref 46), some (.int v1), some (.int v2), some (.int v3), some (.int s0)]) k_180_38 rfl (Nat.le_of_ble_eq_true rfl) rfl) ?_
  refine Eq.trans (ev_iload_n (pc := 40) k_180_40 rfl rfl) ?_
  refine Eq.trans (ev_iload_n (pc := 41) k_180_41 rfl rfl) ?_
  refine Eq.trans (ev_icne (pc := 42) k_180_42.1 rfl k_180_42.2) (z_ite ?_ ?_)
  · refine Eq.trans (ev_iload (pc := 45) k_180_45 rfl rfl) ?_
    refine Eq.trans (ev_ifeq (pc := 47) k_180_47.1 rfl k_180_47.2) (z_ite ?_ ?_)
    · exact ev_mk kd_180_52 rfl
    · refine Eq.trans (ev_iconst (pc := 50) (v := 1) k_180_50 rfl (by decide)) ?_
      exact ev_ret_b1 k_180_51 rfl rt_180 (by decide)
  · exact ev_mk kd_180_52 rfl

set_option maxRecDepth 100000 in
theorem E_Mo_findPlan_52 (sc : zSc) (d : Nat) (h : zHp) (v1 : Int32) (v2 : Int32) (v3 : Int32) : zE sc (d + 1) 180 52 [some (.ref 46), some (.int v1), some (.int v2), some (.int v3), none] [] zGL h = (if zin v3 7 = true then (if zin v3 7 = true then zE sc (d + 1) 180 62 [some (.ref 46), some (.int v1), some (.int v2), some (.int v3), none] [] zGL (zPI h 65 v3.toNatClampNeg ((h.1 65 v3.toNatClampNeg) + (1 : Int32))) else none) else none) := by
  refine Eq.trans (ev_aload_n (pc := 52) (x := 46) k_180_52 rfl rfl (by decide)) ?_
  refine Eq.trans (ev_getR (pc := 53) (b := 65) k_180_53 rfl zo_46.1 zg_46_34) ?_
  refine Eq.trans (ev_iload_n (pc := 56) k_180_56 rfl rfl) ?_
  refine Eq.trans (ev_dup2 (pc := 57) k_180_57 rfl rfl rfl) ?_
  refine Eq.trans (ev_iald_c (pc := 58) k_180_58 rfl za_65) (z_it1 ?_)
  refine Eq.trans (ev_iconst (pc := 59) (v := 1) k_180_59 rfl (by decide)) ?_
  refine Eq.trans (ev_iadd (pc := 60) k_180_60 rfl) ?_
  refine Eq.trans (ev_iast_c (pc := 61) k_180_61 rfl za_65) (z_it1 ?_)
  exact ev_mk kd_180_62 rfl

set_option maxRecDepth 100000 in
theorem E_Mo_findPlan_62 (sc : zSc) (d : Nat) (h : zHp) (v1 : Int32) (v2 : Int32) (v3 : Int32) : zE sc (d + 1) 180 62 [some (.ref 46), some (.int v1), some (.int v2), some (.int v3), none] [] zGL h = (if v3 < v1 then (if zin v3 7 = true then (if (h.1 65 v3.toNatClampNeg) < (12 : Int32) then (if zin v3 7 = true then (zBi (zRun sc d 181 [.ref 46, .int v3, .int (h.1 65 v3.toNatClampNeg)] zGL h) zGL fun x1 h1 => (if x1 = 0 then (if zin v3 7 = true then (if zin v3 7 = true then zE sc (d + 1) 180 62 [some (.ref 46), some (.int v1), some (.int v2), some (.int v3), none] [] zGL (zPI h1 65 v3.toNatClampNeg ((h1.1 65 v3.toNatClampNeg) + (1 : Int32))) else none) else none) else zE sc (d + 1) 180 105 [some (.ref 46), some (.int v1), some (.int v2), some (.int v3), none] [] zGL h1)) else none) else zE sc (d + 1) 180 105 [some (.ref 46), some (.int v1), some (.int v2), some (.int v3), none] [] zGL h) else none) else zE sc (d + 1) 180 105 [some (.ref 46), some (.int v1), some (.int v2), some (.int v3), none] [] zGL h) := by
  refine Eq.trans (ev_iload_n (pc := 62) k_180_62 rfl rfl) ?_
  refine Eq.trans (ev_iload_n (pc := 63) k_180_63 rfl rfl) ?_
  refine Eq.trans (ev_icge (pc := 64) k_180_64.1 rfl k_180_64.2) (z_ite ?_ ?_)
  · refine Eq.trans (ev_aload_n (pc := 67) (x := 46) k_180_67 rfl rfl (by decide)) ?_
    refine Eq.trans (ev_getR (pc := 68) (b := 65) k_180_68 rfl zo_46.1 zg_46_34) ?_
    refine Eq.trans (ev_iload_n (pc := 71) k_180_71 rfl rfl) ?_
    refine Eq.trans (ev_iald_c (pc := 72) k_180_72 rfl za_65) (z_it1 ?_)
    refine Eq.trans (ev_bipush (pc := 73) (v := 12) k_180_73 rfl (by decide)) ?_
    refine Eq.trans (ev_icge (pc := 75) k_180_75.1 rfl k_180_75.2) (z_ite ?_ ?_)
    · refine Eq.trans (ev_aload_n (pc := 78) (x := 46) k_180_78 rfl rfl (by decide)) ?_
      refine Eq.trans (ev_iload_n (pc := 79) k_180_79 rfl rfl) ?_
      refine Eq.trans (ev_aload_n (pc := 80) (x := 46) k_180_80 rfl rfl (by decide)) ?_
      refine Eq.trans (ev_getR (pc := 81) (b := 65) k_180_81 rfl zo_46.1 zg_46_34) ?_
      refine Eq.trans (ev_iload_n (pc := 84) k_180_84 rfl rfl) ?_
      refine Eq.trans (ev_iald_c (pc := 85) k_180_85 rfl za_65) (z_it1 ?_)
      refine Eq.trans (ev_vi (pc := 86) (as := [.int v3, .int (h.1 65 v3.toNatClampNeg)]) (rest := []) k_180_86 rfl zo_46 rfl rfl (Nat.le_of_ble_eq_true rfl) (Nat.le_of_ble_eq_true rfl)) (z_cbi fun x1 h1 => ?_)
      refine Eq.trans (ev_ifne (pc := 89) k_180_89.1 rfl k_180_89.2) (z_ite ?_ ?_)
      · refine Eq.trans (ev_aload_n (pc := 92) (x := 46) k_180_92 rfl rfl (by decide)) ?_
        refine Eq.trans (ev_getR (pc := 93) (b := 65) k_180_93 rfl zo_46.1 zg_46_34) ?_
        refine Eq.trans (ev_iload_n (pc := 96) k_180_96 rfl rfl) ?_
        refine Eq.trans (ev_dup2 (pc := 97) k_180_97 rfl rfl rfl) ?_
        refine Eq.trans (ev_iald_c (pc := 98) k_180_98 rfl za_65) (z_it1 ?_)
        refine Eq.trans (ev_iconst (pc := 99) (v := 1) k_180_99 rfl (by decide)) ?_
        refine Eq.trans (ev_iadd (pc := 100) k_180_100 rfl) ?_
        refine Eq.trans (ev_iast_c (pc := 101) k_180_101 rfl za_65) (z_it1 ?_)
        refine Eq.trans (ev_goto (pc := 102) k_180_102.1 rfl k_180_102.2) ?_
        exact ev_mk kd_180_62 rfl
      · exact ev_mk kd_180_105 rfl
    · exact ev_mk kd_180_105 rfl
  · exact ev_mk kd_180_105 rfl

set_option maxRecDepth 100000 in
theorem E_Mo_findPlan_105 (sc : zSc) (d : Nat) (h : zHp) (v1 : Int32) (v2 : Int32) (v3 : Int32) : zE sc (d + 1) 180 105 [some (.ref 46), some (.int v1), some (.int v2), some (.int v3), none] [] zGL h = (if v3 < v1 then (if zin v3 7 = true then (if (h.1 65 v3.toNatClampNeg) < (12 : Int32) then (if zin (v3 + 1) 7 = true then zE sc (d + 1) 180 9 [some (.ref 46), some (.int v1), some (.int v2), some (.int (v3 + 1)), none] [] zGL (zPI h 65 (v3 + 1).toNatClampNeg (-1)) else none) else zE sc (d + 1) 180 9 [some (.ref 46), some (.int v1), some (.int v2), some (.int (v3 + (-1))), none] [] zGL h) else none) else zE sc (d + 1) 180 9 [some (.ref 46), some (.int v1), some (.int v2), some (.int (v3 + (-1))), none] [] zGL h) := by
  refine Eq.trans (ev_iload_n (pc := 105) k_180_105 rfl rfl) ?_
  refine Eq.trans (ev_iload_n (pc := 106) k_180_106 rfl rfl) ?_
  refine Eq.trans (ev_icge (pc := 107) k_180_107.1 rfl k_180_107.2) (z_ite ?_ ?_)
  · refine Eq.trans (ev_aload_n (pc := 110) (x := 46) k_180_110 rfl rfl (by decide)) ?_
    refine Eq.trans (ev_getR (pc := 111) (b := 65) k_180_111 rfl zo_46.1 zg_46_34) ?_
    refine Eq.trans (ev_iload_n (pc := 114) k_180_114 rfl rfl) ?_
    refine Eq.trans (ev_iald_c (pc := 115) k_180_115 rfl za_65) (z_it1 ?_)
    refine Eq.trans (ev_bipush (pc := 116) (v := 12) k_180_116 rfl (by decide)) ?_
    refine Eq.trans (ev_icge (pc := 118) k_180_118.1 rfl k_180_118.2) (z_ite ?_ ?_)
    · refine Eq.trans (ev_iinc (pc := 121) (v := 1) (lv' := [some (.ref 46), some (.int v1), some (.int v2), some (.int (v3 + 1)), none]) k_180_121 rfl rfl (by decide) rfl) ?_
      refine Eq.trans (ev_aload_n (pc := 124) (x := 46) k_180_124 rfl rfl (by decide)) ?_
      refine Eq.trans (ev_getR (pc := 125) (b := 65) k_180_125 rfl zo_46.1 zg_46_34) ?_
      refine Eq.trans (ev_iload_n (pc := 128) k_180_128 rfl rfl) ?_
      refine Eq.trans (ev_iconst (pc := 129) (v := (-1)) k_180_129 rfl (by decide)) ?_
      refine Eq.trans (ev_iast_c (pc := 130) k_180_130 rfl za_65) (z_it1 ?_)
      refine Eq.trans (ev_goto (pc := 131) k_180_131.1 rfl k_180_131.2) ?_
      refine Eq.trans (ev_goto (pc := 137) k_180_137.1 rfl k_180_137.2) ?_
      exact ev_mk kd_180_9 rfl
    · refine Eq.trans (ev_iinc (pc := 134) (v := (-1)) (lv' := [some (.ref 46), some (.int v1), some (.int v2), some (.int (v3 + (-1))), none]) k_180_134 rfl rfl (by decide) rfl) ?_
      refine Eq.trans (ev_goto (pc := 137) k_180_137.1 rfl k_180_137.2) ?_
      exact ev_mk kd_180_9 rfl
  · refine Eq.trans (ev_iinc (pc := 134) (v := (-1)) (lv' := [some (.ref 46), some (.int v1), some (.int v2), some (.int (v3 + (-1))), none]) k_180_134 rfl rfl (by decide) rfl) ?_
    refine Eq.trans (ev_goto (pc := 137) k_180_137.1 rfl k_180_137.2) ?_
    exact ev_mk kd_180_9 rfl

set_option maxRecDepth 100000 in
theorem E_Mo_tryAt (sc : zSc) (d : Nat) (h : zHp) (v1 : Int32) (v2 : Int32) : zRun sc (d + 1) 181 [.ref 46, .int v1, .int v2] zGL h = (if v2 < (6 : Int32) then zE sc (d + 1) 181 16 [some (.ref 46), some (.int v1), none, some (.int (v2 - v2 / (6 : Int32) * (6 : Int32))), none, none, none, none, none, none, none, none, none] [.int 1] zGL h else zE sc (d + 1) 181 16 [some (.ref 46), some (.int v1), none, some (.int (v2 - v2 / (6 : Int32) * (6 : Int32))), none, none, none, none, none, none, none, none, none] [.int 0] zGL h) := by
  have he : zEnt 181 [.ref 46, .int v1, .int v2] = [some (.ref 46), some (.int v1), some (.int v2), none, none, none, none, none, none, none, none, none, none] := by unfold zEnt; rw [ml_181]; rfl
  unfold zRun
  rw [he]
  refine Eq.trans (ev_iload_n (pc := 0) k_181_0 rfl rfl) ?_
  refine Eq.trans (ev_bipush (pc := 1) (v := 6) k_181_1 rfl (by decide)) ?_
  refine Eq.trans (ev_irem (pc := 3) k_181_3 rfl (by decide)) ?_
  refine Eq.trans (ev_istore_n (pc := 4) (lv' := [some (.ref 46), some (.int v1), some (.int v2), some (.int (v2 - v2 / (6 : Int32) * (6 : Int32))), none, none, none, none, none, none, none, none, none]) k_181_4 rfl (Nat.le_of_ble_eq_true rfl) rfl) ?_
  refine Eq.trans (ev_iload_n (pc := 5) k_181_5 rfl rfl) ?_
  refine Eq.trans (ev_bipush (pc := 6) (v := 6) k_181_6 rfl (by decide)) ?_
  refine Eq.trans (ev_icge (pc := 8) k_181_8.1 rfl k_181_8.2) (z_ite ?_ ?_)
  · refine Eq.trans (ev_iconst (pc := 11) (v := 1) k_181_11 rfl (by decide)) ?_
    refine Eq.trans (ev_goto (pc := 12) k_181_12.1 rfl k_181_12.2) ?_
    exact ev_mk kd_181_16 rfl
  · refine Eq.trans (ev_iconst (pc := 15) (v := 0) k_181_15 rfl (by decide)) ?_
    exact ev_mk kd_181_16 rfl

set_option maxRecDepth 100000 in
theorem E_Mo_tryAt_16 (sc : zSc) (d : Nat) (h : zHp) (v1 : Int32) (v3 : Int32) (s0 : Int32) : zE sc (d + 1) 181 16 [some (.ref 46), some (.int v1), none, some (.int v3), none, none, none, none, none, none, none, none, none] [.int s0] zGL h = (if s0 = 0 then (if zin v1 7 = true then zE sc (d + 1) 181 38 [some (.ref 46), some (.int v1), none, some (.int v3), some (.int s0), none, none, none, none, none, none, none, none] [.int (h.1 62 v1.toNatClampNeg)] zGL h else none) else (if zin v1 7 = true then zE sc (d + 1) 181 38 [some (.ref 46), some (.int v1), none, some (.int v3), some (.int s0), none, none, none, none, none, none, none, none] [.int (h.1 61 v1.toNatClampNeg)] zGL h else none)) := by
  refine Eq.trans (ev_istore (pc := 16) (lv' := [some (.ref 46), some (.int v1), none, some (.int v3), some (.int s0), none, none, none, none, none, none, none, none]) k_181_16 rfl (Nat.le_of_ble_eq_true rfl) rfl) ?_
  refine Eq.trans (ev_iload (pc := 18) k_181_18 rfl rfl) ?_
  refine Eq.trans (ev_ifeq (pc := 20) k_181_20.1 rfl k_181_20.2) (z_ite ?_ ?_)
  · refine Eq.trans (ev_aload_n (pc := 32) (x := 46) k_181_32 rfl rfl (by decide)) ?_
    refine Eq.trans (ev_getR (pc := 33) (b := 62) k_181_33 rfl zo_46.1 zg_46_31) ?_
    refine Eq.trans (ev_iload_n (pc := 36) k_181_36 rfl rfl) ?_
    refine Eq.trans (ev_iald_c (pc := 37) k_181_37 rfl za_62) (z_it1 ?_)
    exact ev_mk kd_181_38 rfl
  · refine Eq.trans (ev_aload_n (pc := 23) (x := 46) k_181_23 rfl rfl (by decide)) ?_
    refine Eq.trans (ev_getR (pc := 24) (b := 61) k_181_24 rfl zo_46.1 zg_46_30) ?_
    refine Eq.trans (ev_iload_n (pc := 27) k_181_27 rfl rfl) ?_
    refine Eq.trans (ev_iald_c (pc := 28) k_181_28 rfl za_61) (z_it1 ?_)
    refine Eq.trans (ev_goto (pc := 29) k_181_29.1 rfl k_181_29.2) ?_
    exact ev_mk kd_181_38 rfl

set_option maxRecDepth 100000 in
theorem E_Mo_tryAt_38 (sc : zSc) (d : Nat) (h : zHp) (v1 : Int32) (v3 : Int32) (v4 : Int32) (s0 : Int32) : zE sc (d + 1) 181 38 [some (.ref 46), some (.int v1), none, some (.int v3), some (.int v4), none, none, none, none, none, none, none, none] [.int s0] zGL h = (if v4 = 0 then (if zin v1 7 = true then zE sc (d + 1) 181 60 [some (.ref 46), some (.int v1), none, some (.int v3), some (.int v4), some (.int s0), none, none, none, none, none, none, none] [.long (h.2.1 64 v1.toNatClampNeg)] zGL h else none) else (if zin v1 7 = true then zE sc (d + 1) 181 60 [some (.ref 46), some (.int v1), none, some (.int v3), some (.int v4), some (.int s0), none, none, none, none, none, none, none] [.long (h.2.1 63 v1.toNatClampNeg)] zGL h else none)) := by
  refine Eq.trans (ev_istore (pc := 38) (lv' := [some (.ref 46), some (.int v1), none, some (.int v3), some (.int v4), some (.int s0), none, none, none, none, none, none, none]) k_181_38 rfl (Nat.le_of_ble_eq_true rfl) rfl) ?_
  refine Eq.trans (ev_iload (pc := 40) k_181_40 rfl rfl) ?_
  refine Eq.trans (ev_ifeq (pc := 42) k_181_42.1 rfl k_181_42.2) (z_ite ?_ ?_)
  · refine Eq.trans (ev_aload_n (pc := 54) (x := 46) k_181_54 rfl rfl (by decide)) ?_
    refine Eq.trans (ev_getR (pc := 55) (b := 64) k_181_55 rfl zo_46.1 zg_46_33) ?_
    refine Eq.trans (ev_iload_n (pc := 58) k_181_58 rfl rfl) ?_
    refine Eq.trans (ev_lald_c (pc := 59) k_181_59 rfl za_64) (z_it1 ?_)
    exact ev_mk kd_181_60 rfl
  · refine Eq.trans (ev_aload_n (pc := 45) (x := 46) k_181_45 rfl rfl (by decide)) ?_
    refine Eq.trans (ev_getR (pc := 46) (b := 63) k_181_46 rfl zo_46.1 zg_46_32) ?_
    refine Eq.trans (ev_iload_n (pc := 49) k_181_49 rfl rfl) ?_
    refine Eq.trans (ev_lald_c (pc := 50) k_181_50 rfl za_63) (z_it1 ?_)
    refine Eq.trans (ev_goto (pc := 51) k_181_51.1 rfl k_181_51.2) ?_
    exact ev_mk kd_181_60 rfl

set_option maxRecDepth 100000 in
theorem E_Mo_tryAt_60 (sc : zSc) (d : Nat) (h : zHp) (v1 : Int32) (v3 : Int32) (v4 : Int32) (v5 : Int32) (s0 : Int64) : zE sc (d + 1) 181 60 [some (.ref 46), some (.int v1), none, some (.int v3), some (.int v4), some (.int v5), none, none, none, none, none, none, none] [.long s0] zGL h = (if v3 < (h.1 46 0) then (zBi (zRun sc d 129 [.int v5, .int v3] zGL h) zGL fun x1 h1 => (if x1 = 0 then some (some (.int 0), zGL, h1) else (zBi (zRun sc d 153 [.ref 46, .long s0] zGL h1) zGL fun x2 h2 => (zBi (zRun sc d 162 [.int x2, .long s0] zGL h2) zGL fun x3 h3 => (zBi (zRun sc d 129 [.int x3, .int v3] zGL h3) zGL fun x4 h4 => (if x4 = 0 then some (some (.int 0), zGL, h4) else (if v4 = 0 then (if zin v1 7 = true then zE sc (d + 1) 181 119 [some (.ref 46), some (.int v1), none, some (.int v3), some (.int v4), none, some (.long s0), none, none, none, none, none, none] [.int (h4.1 61 v1.toNatClampNeg)] zGL h4 else none) else (if zin v1 7 = true then zE sc (d + 1) 181 119 [some (.ref 46), some (.int v1), none, some (.int v3), some (.int v4), none, some (.long s0), none, none, none, none, none, none] [.int (h4.1 62 v1.toNatClampNeg)] zGL h4 else none)))))))) else some (some (.int 0), zGL, h)) := by
  refine Eq.trans (ev_lstore (pc := 60) (lv' := [some (.ref 46), some (.int v1), none, some (.int v3), some (.int v4), some (.int v5), some (.long s0), none, none, none, none, none, none]) k_181_60 rfl (Nat.le_of_ble_eq_true rfl) rfl) ?_
  refine Eq.trans (ev_iload_n (pc := 62) k_181_62 rfl rfl) ?_
  refine Eq.trans (ev_aload_n (pc := 63) (x := 46) k_181_63 rfl rfl (by decide)) ?_
  refine Eq.trans (ev_getI (pc := 64) k_181_64 rfl zo_46.1) ?_
  refine Eq.trans (ev_icge (pc := 67) k_181_67.1 rfl k_181_67.2) (z_ite ?_ ?_)
  · refine Eq.trans (ev_iload (pc := 70) k_181_70 rfl rfl) ?_
    refine Eq.trans (ev_iload_n (pc := 72) k_181_72 rfl rfl) ?_
    refine Eq.trans (ev_si (pc := 73) (as := [.int v5, .int v3]) (rest := []) k_181_73 rfl rfl rfl (Nat.le_of_ble_eq_true rfl) (Nat.le_of_ble_eq_true rfl)) (z_cbi fun x1 h1 => ?_)
    refine Eq.trans (ev_ifeq (pc := 76) k_181_76.1 rfl k_181_76.2) (z_ite ?_ ?_)
    · refine Eq.trans (ev_mk (pc := 97) (lv' := [none, none, none, none, none, none, none, none, none, none, none, none, none]) kd_181_97 rfl) ?_
      refine Eq.trans (ev_iconst (pc := 97) (v := 0) k_181_97 rfl (by decide)) ?_
      exact ev_ret_b1 k_181_98 rfl rt_181 (by decide)
    · refine Eq.trans (ev_aload_n (pc := 79) (x := 46) k_181_79 rfl rfl (by decide)) ?_
      refine Eq.trans (ev_lload (pc := 80) k_181_80 rfl rfl) ?_
      refine Eq.trans (ev_vi (pc := 82) (as := [.long s0]) (rest := []) k_181_82 rfl zo_46 rfl rfl (Nat.le_of_ble_eq_true rfl) (Nat.le_of_ble_eq_true rfl)) (z_cbi fun x2 h2 => ?_)
      refine Eq.trans (ev_lload (pc := 85) k_181_85 rfl rfl) ?_
      refine Eq.trans (ev_si (pc := 87) (as := [.int x2, .long s0]) (rest := []) k_181_87 rfl rfl rfl (Nat.le_of_ble_eq_true rfl) (Nat.le_of_ble_eq_true rfl)) (z_cbi fun x3 h3 => ?_)
      refine Eq.trans (ev_iload_n (pc := 90) k_181_90 rfl rfl) ?_
      refine Eq.trans (ev_si (pc := 91) (as := [.int x3, .int v3]) (rest := []) k_181_91 rfl rfl rfl (Nat.le_of_ble_eq_true rfl) (Nat.le_of_ble_eq_true rfl)) (z_cbi fun x4 h4 => ?_)
      refine Eq.trans (ev_ifne (pc := 94) k_181_94.1 rfl k_181_94.2) (z_ite ?_ ?_)
      · refine Eq.trans (ev_mk (pc := 97) (lv' := [none, none, none, none, none, none, none, none, none, none, none, none, none]) kd_181_97 rfl) ?_
        refine Eq.trans (ev_iconst (pc := 97) (v := 0) k_181_97 rfl (by decide)) ?_
        exact ev_ret_b1 k_181_98 rfl rt_181 (by decide)
      · refine Eq.trans (ev_iload (pc := 99) k_181_99 rfl rfl) ?_
        refine Eq.trans (ev_ifeq (pc := 101) k_181_101.1 rfl k_181_101.2) (z_ite ?_ ?_)
        · refine Eq.trans (ev_aload_n (pc := 113) (x := 46) k_181_113 rfl rfl (by decide)) ?_
          refine Eq.trans (ev_getR (pc := 114) (b := 61) k_181_114 rfl zo_46.1 zg_46_30) ?_
          refine Eq.trans (ev_iload_n (pc := 117) k_181_117 rfl rfl) ?_
          refine Eq.trans (ev_iald_c (pc := 118) k_181_118 rfl za_61) (z_it1 ?_)
          exact ev_mk kd_181_119 rfl
        · refine Eq.trans (ev_aload_n (pc := 104) (x := 46) k_181_104 rfl rfl (by decide)) ?_
          refine Eq.trans (ev_getR (pc := 105) (b := 62) k_181_105 rfl zo_46.1 zg_46_31) ?_
          refine Eq.trans (ev_iload_n (pc := 108) k_181_108 rfl rfl) ?_
          refine Eq.trans (ev_iald_c (pc := 109) k_181_109 rfl za_62) (z_it1 ?_)
          refine Eq.trans (ev_goto (pc := 110) k_181_110.1 rfl k_181_110.2) ?_
          exact ev_mk kd_181_119 rfl
  · refine Eq.trans (ev_mk (pc := 97) (lv' := [none, none, none, none, none, none, none, none, none, none, none, none, none]) kd_181_97 rfl) ?_
    refine Eq.trans (ev_iconst (pc := 97) (v := 0) k_181_97 rfl (by decide)) ?_
    exact ev_ret_b1 k_181_98 rfl rt_181 (by decide)

set_option maxRecDepth 100000 in
theorem E_Mo_tryAt_119 (sc : zSc) (d : Nat) (h : zHp) (v1 : Int32) (v3 : Int32) (v4 : Int32) (w6 : Int64) (s0 : Int32) : zE sc (d + 1) 181 119 [some (.ref 46), some (.int v1), none, some (.int v3), some (.int v4), none, some (.long w6), none, none, none, none, none, none] [.int s0] zGL h = (zBi (zRun sc d 129 [.int s0, .int v3] zGL h) zGL fun x1 h1 => (zBj (zRun sc d 168 [.ref 46, .long w6, .int v3, .int x1] zGL h1) zGL fun x2 h2 => (zBj (zRun sc d 173 [.ref 46, .long x2, .int v3] zGL h2) zGL fun x3 h3 => (if v4 = 0 then (if zin v1 7 = true then zE sc (d + 1) 181 162 [some (.ref 46), some (.int v1), none, some (.int v3), some (.int v4), none, none, none, none, some (.long x3), none, none, none] [.long (h3.2.1 63 v1.toNatClampNeg), .ref 46] zGL h3 else none) else (if zin v1 7 = true then zE sc (d + 1) 181 162 [some (.ref 46), some (.int v1), none, some (.int v3), some (.int v4), none, none, none, none, some (.long x3), none, none, none] [.long (h3.2.1 64 v1.toNatClampNeg), .ref 46] zGL h3 else none))))) := by
  refine Eq.trans (ev_istore (pc := 119) (lv' := [some (.ref 46), some (.int v1), none, some (.int v3), some (.int v4), none, some (.long w6), none, some (.int s0), none, none, none, none]) k_181_119 rfl (Nat.le_of_ble_eq_true rfl) rfl) ?_
  refine Eq.trans (ev_aload_n (pc := 121) (x := 46) k_181_121 rfl rfl (by decide)) ?_
  refine Eq.trans (ev_aload_n (pc := 122) (x := 46) k_181_122 rfl rfl (by decide)) ?_
  refine Eq.trans (ev_lload (pc := 123) k_181_123 rfl rfl) ?_
  refine Eq.trans (ev_iload_n (pc := 125) k_181_125 rfl rfl) ?_
  refine Eq.trans (ev_iload (pc := 126) k_181_126 rfl rfl) ?_
  refine Eq.trans (ev_iload_n (pc := 128) k_181_128 rfl rfl) ?_
  refine Eq.trans (ev_si (pc := 129) (as := [.int s0, .int v3]) (rest := [.int v3, .long w6, .ref 46, .ref 46]) k_181_129 rfl rfl rfl (Nat.le_of_ble_eq_true rfl) (Nat.le_of_ble_eq_true rfl)) (z_cbi fun x1 h1 => ?_)
  refine Eq.trans (ev_vj (pc := 132) (as := [.long w6, .int v3, .int x1]) (rest := [.ref 46]) k_181_132 rfl zo_46 rfl rfl (Nat.le_of_ble_eq_true rfl) (Nat.le_of_ble_eq_true rfl)) (z_cbj fun x2 h2 => ?_)
  refine Eq.trans (ev_iload_n (pc := 135) k_181_135 rfl rfl) ?_
  refine Eq.trans (ev_vj (pc := 136) (as := [.long x2, .int v3]) (rest := []) k_181_136 rfl zo_46 rfl rfl (Nat.le_of_ble_eq_true rfl) (Nat.le_of_ble_eq_true rfl)) (z_cbj fun x3 h3 => ?_)
  refine Eq.trans (ev_lstore (pc := 139) (lv' := [some (.ref 46), some (.int v1), none, some (.int v3), some (.int v4), none, some (.long w6), none, some (.int s0), some (.long x3), none, none, none]) k_181_139 rfl (Nat.le_of_ble_eq_true rfl) rfl) ?_
  refine Eq.trans (ev_aload_n (pc := 141) (x := 46) k_181_141 rfl rfl (by decide)) ?_
  refine Eq.trans (ev_iload (pc := 142) k_181_142 rfl rfl) ?_
  refine Eq.trans (ev_ifeq (pc := 144) k_181_144.1 rfl k_181_144.2) (z_ite ?_ ?_)
  · refine Eq.trans (ev_aload_n (pc := 156) (x := 46) k_181_156 rfl rfl (by decide)) ?_
    refine Eq.trans (ev_getR (pc := 157) (b := 63) k_181_157 rfl zo_46.1 zg_46_32) ?_
    refine Eq.trans (ev_iload_n (pc := 160) k_181_160 rfl rfl) ?_
    refine Eq.trans (ev_lald_c (pc := 161) k_181_161 rfl za_63) (z_it1 ?_)
    exact ev_mk kd_181_162 rfl
  · refine Eq.trans (ev_aload_n (pc := 147) (x := 46) k_181_147 rfl rfl (by decide)) ?_
    refine Eq.trans (ev_getR (pc := 148) (b := 64) k_181_148 rfl zo_46.1 zg_46_33) ?_
    refine Eq.trans (ev_iload_n (pc := 151) k_181_151 rfl rfl) ?_
    refine Eq.trans (ev_lald_c (pc := 152) k_181_152 rfl za_64) (z_it1 ?_)
    refine Eq.trans (ev_goto (pc := 153) k_181_153.1 rfl k_181_153.2) ?_
    exact ev_mk kd_181_162 rfl

set_option maxRecDepth 100000 in
theorem E_Mo_tryAt_162 (sc : zSc) (d : Nat) (h : zHp) (v1 : Int32) (v3 : Int32) (v4 : Int32) (w9 : Int64) (s0 : Int64) : zE sc (d + 1) 181 162 [some (.ref 46), some (.int v1), none, some (.int v3), some (.int v4), none, none, none, none, some (.long w9), none, none, none] [.long s0, .ref 46] zGL h = (zBj (zRun sc d 168 [.ref 46, .long s0, .int v3, .int 1] zGL h) zGL fun x1 h1 => (if v4 = 0 then (if zin v1 7 = true then (if zin ((h1.1 61 v1.toNatClampNeg) ||| ((1 : Int32) <<< (v3 &&& 31))) 64 = true then zE sc (d + 1) 181 205 [some (.ref 46), some (.int v1), none, some (.int v3), some (.int v4), none, none, none, none, some (.long w9), none, some (.long x1), none] [.int (h1.1 50 ((h1.1 61 v1.toNatClampNeg) ||| ((1 : Int32) <<< (v3 &&& 31))).toNatClampNeg), .int (v1 + (1 : Int32)), .ref 61] zGL h1 else none) else none) else (if zin v1 7 = true then zE sc (d + 1) 181 205 [some (.ref 46), some (.int v1), none, some (.int v3), some (.int v4), none, none, none, none, some (.long w9), none, some (.long x1), none] [.int (h1.1 61 v1.toNatClampNeg), .int (v1 + (1 : Int32)), .ref 61] zGL h1 else none))) := by
  refine Eq.trans (ev_iload_n (pc := 162) k_181_162 rfl rfl) ?_
  refine Eq.trans (ev_iconst (pc := 163) (v := 1) k_181_163 rfl (by decide)) ?_
  refine Eq.trans (ev_vj (pc := 164) (as := [.long s0, .int v3, .int 1]) (rest := []) k_181_164 rfl zo_46 rfl rfl (Nat.le_of_ble_eq_true rfl) (Nat.le_of_ble_eq_true rfl)) (z_cbj fun x1 h1 => ?_)
  refine Eq.trans (ev_lstore (pc := 167) (lv' := [some (.ref 46), some (.int v1), none, some (.int v3), some (.int v4), none, none, none, none, some (.long w9), none, some (.long x1), none]) k_181_167 rfl (Nat.le_of_ble_eq_true rfl) rfl) ?_
  refine Eq.trans (ev_aload_n (pc := 169) (x := 46) k_181_169 rfl rfl (by decide)) ?_
  refine Eq.trans (ev_getR (pc := 170) (b := 61) k_181_170 rfl zo_46.1 zg_46_30) ?_
  refine Eq.trans (ev_iload_n (pc := 173) k_181_173 rfl rfl) ?_
  refine Eq.trans (ev_iconst (pc := 174) (v := 1) k_181_174 rfl (by decide)) ?_
  refine Eq.trans (ev_iadd (pc := 175) k_181_175 rfl) ?_
  refine Eq.trans (ev_iload (pc := 176) k_181_176 rfl rfl) ?_
  refine Eq.trans (ev_ifeq (pc := 178) k_181_178.1 rfl k_181_178.2) (z_ite ?_ ?_)
  · refine Eq.trans (ev_aload_n (pc := 190) (x := 46) k_181_190 rfl rfl (by decide)) ?_
    refine Eq.trans (ev_getR (pc := 191) (b := 50) k_181_191 rfl zo_46.1 zg_46_6) ?_
    refine Eq.trans (ev_aload_n (pc := 194) (x := 46) k_181_194 rfl rfl (by decide)) ?_
    refine Eq.trans (ev_getR (pc := 195) (b := 61) k_181_195 rfl zo_46.1 zg_46_30) ?_
    refine Eq.trans (ev_iload_n (pc := 198) k_181_198 rfl rfl) ?_
    refine Eq.trans (ev_iald_c (pc := 199) k_181_199 rfl za_61) (z_it1 ?_)
    refine Eq.trans (ev_iconst (pc := 200) (v := 1) k_181_200 rfl (by decide)) ?_
    refine Eq.trans (ev_iload_n (pc := 201) k_181_201 rfl rfl) ?_
    refine Eq.trans (ev_ishl (pc := 202) k_181_202 rfl) ?_
    refine Eq.trans (ev_ior (pc := 203) k_181_203 rfl) ?_
    refine Eq.trans (ev_iald_c (pc := 204) k_181_204 rfl za_50) (z_it1 ?_)
    exact ev_mk kd_181_205 rfl
  · refine Eq.trans (ev_aload_n (pc := 181) (x := 46) k_181_181 rfl rfl (by decide)) ?_
    refine Eq.trans (ev_getR (pc := 182) (b := 61) k_181_182 rfl zo_46.1 zg_46_30) ?_
    refine Eq.trans (ev_iload_n (pc := 185) k_181_185 rfl rfl) ?_
    refine Eq.trans (ev_iald_c (pc := 186) k_181_186 rfl za_61) (z_it1 ?_)
    refine Eq.trans (ev_goto (pc := 187) k_181_187.1 rfl k_181_187.2) ?_
    exact ev_mk kd_181_205 rfl

set_option maxRecDepth 100000 in
theorem E_Mo_tryAt_205 (sc : zSc) (d : Nat) (h : zHp) (v1 : Int32) (v3 : Int32) (v4 : Int32) (w9 : Int64) (w11 : Int64) (s0 : Int32) (s1 : Int32) : zE sc (d + 1) 181 205 [some (.ref 46), some (.int v1), none, some (.int v3), some (.int v4), none, none, none, none, some (.long w9), none, some (.long w11), none] [.int s0, .int s1, .ref 61] zGL h = (if zin s1 7 = true then (if v4 = 0 then (if zin v1 7 = true then zE sc (d + 1) 181 242 [some (.ref 46), some (.int v1), none, none, some (.int v4), none, none, none, none, some (.long w9), none, some (.long w11), none] [.int ((zPI h 61 s1.toNatClampNeg s0).1 62 v1.toNatClampNeg), .int (v1 + (1 : Int32)), .ref 62] zGL (zPI h 61 s1.toNatClampNeg s0) else none) else (if zin v1 7 = true then (if zin (((zPI h 61 s1.toNatClampNeg s0).1 62 v1.toNatClampNeg) ||| ((1 : Int32) <<< (v3 &&& 31))) 64 = true then zE sc (d + 1) 181 242 [some (.ref 46), some (.int v1), none, none, some (.int v4), none, none, none, none, some (.long w9), none, some (.long w11), none] [.int ((zPI h 61 s1.toNatClampNeg s0).1 50 (((zPI h 61 s1.toNatClampNeg s0).1 62 v1.toNatClampNeg) ||| ((1 : Int32) <<< (v3 &&& 31))).toNatClampNeg), .int (v1 + (1 : Int32)), .ref 62] zGL (zPI h 61 s1.toNatClampNeg s0) else none) else none)) else none) := by
  refine Eq.trans (ev_iast_c (pc := 205) k_181_205 rfl za_61) (z_it1 ?_)
  refine Eq.trans (ev_aload_n (pc := 206) (x := 46) k_181_206 rfl rfl (by decide)) ?_
  refine Eq.trans (ev_getR (pc := 207) (b := 62) k_181_207 rfl zo_46.1 zg_46_31) ?_
  refine Eq.trans (ev_iload_n (pc := 210) k_181_210 rfl rfl) ?_
  refine Eq.trans (ev_iconst (pc := 211) (v := 1) k_181_211 rfl (by decide)) ?_
  refine Eq.trans (ev_iadd (pc := 212) k_181_212 rfl) ?_
  refine Eq.trans (ev_iload (pc := 213) k_181_213 rfl rfl) ?_
  refine Eq.trans (ev_ifeq (pc := 215) k_181_215.1 rfl k_181_215.2) (z_ite ?_ ?_)
  · refine Eq.trans (ev_aload_n (pc := 236) (x := 46) k_181_236 rfl rfl (by decide)) ?_
    refine Eq.trans (ev_getR (pc := 237) (b := 62) k_181_237 rfl zo_46.1 zg_46_31) ?_
    refine Eq.trans (ev_iload_n (pc := 240) k_181_240 rfl rfl) ?_
    refine Eq.trans (ev_iald_c (pc := 241) k_181_241 rfl za_62) (z_it1 ?_)
    exact ev_mk kd_181_242 rfl
  · refine Eq.trans (ev_aload_n (pc := 218) (x := 46) k_181_218 rfl rfl (by decide)) ?_
    refine Eq.trans (ev_getR (pc := 219) (b := 50) k_181_219 rfl zo_46.1 zg_46_6) ?_
    refine Eq.trans (ev_aload_n (pc := 222) (x := 46) k_181_222 rfl rfl (by decide)) ?_
    refine Eq.trans (ev_getR (pc := 223) (b := 62) k_181_223 rfl zo_46.1 zg_46_31) ?_
    refine Eq.trans (ev_iload_n (pc := 226) k_181_226 rfl rfl) ?_
    refine Eq.trans (ev_iald_c (pc := 227) k_181_227 rfl za_62) (z_it1 ?_)
    refine Eq.trans (ev_iconst (pc := 228) (v := 1) k_181_228 rfl (by decide)) ?_
    refine Eq.trans (ev_iload_n (pc := 229) k_181_229 rfl rfl) ?_
    refine Eq.trans (ev_ishl (pc := 230) k_181_230 rfl) ?_
    refine Eq.trans (ev_ior (pc := 231) k_181_231 rfl) ?_
    refine Eq.trans (ev_iald_c (pc := 232) k_181_232 rfl za_50) (z_it1 ?_)
    refine Eq.trans (ev_goto (pc := 233) k_181_233.1 rfl k_181_233.2) ?_
    exact ev_mk kd_181_242 rfl

set_option maxRecDepth 100000 in
theorem E_Mo_tryAt_242 (sc : zSc) (d : Nat) (h : zHp) (v1 : Int32) (v4 : Int32) (w9 : Int64) (w11 : Int64) (s0 : Int32) (s1 : Int32) : zE sc (d + 1) 181 242 [some (.ref 46), some (.int v1), none, none, some (.int v4), none, none, none, none, some (.long w9), none, some (.long w11), none] [.int s0, .int s1, .ref 62] zGL h = (if zin s1 7 = true then (if v4 = 0 then zE sc (d + 1) 181 262 [some (.ref 46), some (.int v1), none, none, some (.int v4), none, none, none, none, some (.long w9), none, some (.long w11), none] [.long w11, .int (v1 + (1 : Int32)), .ref 63] zGL (zPI h 62 s1.toNatClampNeg s0) else zE sc (d + 1) 181 262 [some (.ref 46), some (.int v1), none, none, some (.int v4), none, none, none, none, some (.long w9), none, some (.long w11), none] [.long w9, .int (v1 + (1 : Int32)), .ref 63] zGL (zPI h 62 s1.toNatClampNeg s0)) else none) := by
  refine Eq.trans (ev_iast_c (pc := 242) k_181_242 rfl za_62) (z_it1 ?_)
  refine Eq.trans (ev_aload_n (pc := 243) (x := 46) k_181_243 rfl rfl (by decide)) ?_
  refine Eq.trans (ev_getR (pc := 244) (b := 63) k_181_244 rfl zo_46.1 zg_46_32) ?_
  refine Eq.trans (ev_iload_n (pc := 247) k_181_247 rfl rfl) ?_
  refine Eq.trans (ev_iconst (pc := 248) (v := 1) k_181_248 rfl (by decide)) ?_
  refine Eq.trans (ev_iadd (pc := 249) k_181_249 rfl) ?_
  refine Eq.trans (ev_iload (pc := 250) k_181_250 rfl rfl) ?_
  refine Eq.trans (ev_ifeq (pc := 252) k_181_252.1 rfl k_181_252.2) (z_ite ?_ ?_)
  · refine Eq.trans (ev_lload (pc := 260) k_181_260 rfl rfl) ?_
    exact ev_mk kd_181_262 rfl
  · refine Eq.trans (ev_lload (pc := 255) k_181_255 rfl rfl) ?_
    refine Eq.trans (ev_goto (pc := 257) k_181_257.1 rfl k_181_257.2) ?_
    exact ev_mk kd_181_262 rfl

set_option maxRecDepth 100000 in
theorem E_Mo_tryAt_262 (sc : zSc) (d : Nat) (h : zHp) (v1 : Int32) (v4 : Int32) (w9 : Int64) (w11 : Int64) (s0 : Int64) (s1 : Int32) : zE sc (d + 1) 181 262 [some (.ref 46), some (.int v1), none, none, some (.int v4), none, none, none, none, some (.long w9), none, some (.long w11), none] [.long s0, .int s1, .ref 63] zGL h = (if zin s1 7 = true then (if v4 = 0 then (if zin (v1 + (1 : Int32)) 7 = true then some (some (.int 1), zGL, zPL (zPL h 63 s1.toNatClampNeg s0) 64 (v1 + (1 : Int32)).toNatClampNeg w9) else none) else (if zin (v1 + (1 : Int32)) 7 = true then some (some (.int 1), zGL, zPL (zPL h 63 s1.toNatClampNeg s0) 64 (v1 + (1 : Int32)).toNatClampNeg w11) else none)) else none) := by
  refine Eq.trans (ev_last_c (pc := 262) k_181_262 rfl za_63) (z_it1 ?_)
  refine Eq.trans (ev_aload_n (pc := 263) (x := 46) k_181_263 rfl rfl (by decide)) ?_
  refine Eq.trans (ev_getR (pc := 264) (b := 64) k_181_264 rfl zo_46.1 zg_46_33) ?_
  refine Eq.trans (ev_iload_n (pc := 267) k_181_267 rfl rfl) ?_
  refine Eq.trans (ev_iconst (pc := 268) (v := 1) k_181_268 rfl (by decide)) ?_
  refine Eq.trans (ev_iadd (pc := 269) k_181_269 rfl) ?_
  refine Eq.trans (ev_iload (pc := 270) k_181_270 rfl rfl) ?_
  refine Eq.trans (ev_ifeq (pc := 272) k_181_272.1 rfl k_181_272.2) (z_ite ?_ ?_)
  · refine Eq.trans (ev_lload (pc := 280) k_181_280 rfl rfl) ?_
    refine Eq.trans (ev_mk (pc := 282) (lv' := [none, none, none, none, none, none, none, none, none, none, none, none, none]) kd_181_282 rfl) ?_
    refine Eq.trans (ev_last_c (pc := 282) k_181_282 rfl za_64) (z_it1 ?_)
    refine Eq.trans (ev_iconst (pc := 283) (v := 1) k_181_283 rfl (by decide)) ?_
    exact ev_ret_b1 k_181_284 rfl rt_181 (by decide)
  · refine Eq.trans (ev_lload (pc := 275) k_181_275 rfl rfl) ?_
    refine Eq.trans (ev_goto (pc := 277) k_181_277.1 rfl k_181_277.2) ?_
    refine Eq.trans (ev_mk (pc := 282) (lv' := [none, none, none, none, none, none, none, none, none, none, none, none, none]) kd_181_282 rfl) ?_
    refine Eq.trans (ev_last_c (pc := 282) k_181_282 rfl za_64) (z_it1 ?_)
    refine Eq.trans (ev_iconst (pc := 283) (v := 1) k_181_283 rfl (by decide)) ?_
    exact ev_ret_b1 k_181_284 rfl rt_181 (by decide)

set_option maxRecDepth 100000 in
theorem E_Mo_hats (sc : zSc) (d : Nat) (h : zHp) (v1 : Int32) : zRun sc (d + 1) 182 [.ref 46, .int v1] zGL h = (zBi (zRun sc d 132 [.long v1.toInt64, .long 1, .long 6] zGL h) zGL fun x1 h1 => (if x1 = 0 then some (some (.int (-1000000002)), zGL, h1) else zE sc (d + 1) 182 17 [some (.ref 46), some (.int v1), some (.int 2)] [] zGL h1)) := by
  have he : zEnt 182 [.ref 46, .int v1] = [some (.ref 46), some (.int v1), none] := by unfold zEnt; rw [ml_182]; rfl
  unfold zRun
  rw [he]
  refine Eq.trans (ev_iload_n (pc := 0) k_182_0 rfl rfl) ?_
  refine Eq.trans (ev_i2l (pc := 1) k_182_1 rfl) ?_
  refine Eq.trans (ev_lconst (pc := 2) (v := 1) k_182_2 rfl (by decide)) ?_
  refine Eq.trans (ev_ldc2 (pc := 3) (v := 6) k_182_3 rfl) ?_
  refine Eq.trans (ev_si (pc := 6) (as := [.long v1.toInt64, .long 1, .long 6]) (rest := []) k_182_6 rfl rfl rfl (Nat.le_of_ble_eq_true rfl) (Nat.le_of_ble_eq_true rfl)) (z_cbi fun x1 h1 => ?_)
  refine Eq.trans (ev_ifne (pc := 9) k_182_9.1 rfl k_182_9.2) (z_ite ?_ ?_)
  · refine Eq.trans (ev_ldc (pc := 12) (v := (-1000000002)) k_182_12 rfl) ?_
    exact ev_ret_int k_182_14 rfl rt_182
  · refine Eq.trans (ev_iconst (pc := 15) (v := 2) k_182_15 rfl (by decide)) ?_
    refine Eq.trans (ev_istore_n (pc := 16) (lv' := [some (.ref 46), some (.int v1), some (.int 2)]) k_182_16 rfl (Nat.le_of_ble_eq_true rfl) rfl) ?_
    exact ev_mk kd_182_17 rfl

set_option maxRecDepth 100000 in
theorem E_Mo_hats_17 (sc : zSc) (d : Nat) (h : zHp) (v1 : Int32) (v2 : Int32) : zE sc (d + 1) 182 17 [some (.ref 46), some (.int v1), some (.int v2)] [] zGL h = (if v2 < (100 : Int32) then (zBi (zRun sc d 183 [.ref 46, .int v2, .int v1] zGL h) zGL fun x1 h1 => (if x1 = 0 then zE sc (d + 1) 182 17 [some (.ref 46), some (.int v1), some (.int (v2 + 1))] [] zGL h1 else some (some (.int v2), zGL, h1))) else some (some (.int (-1)), zGL, h)) := by
  refine Eq.trans (ev_iload_n (pc := 17) k_182_17 rfl rfl) ?_
  refine Eq.trans (ev_bipush (pc := 18) (v := 100) k_182_18 rfl (by decide)) ?_
  refine Eq.trans (ev_icge (pc := 20) k_182_20.1 rfl k_182_20.2) (z_ite ?_ ?_)
  · refine Eq.trans (ev_aload_n (pc := 23) (x := 46) k_182_23 rfl rfl (by decide)) ?_
    refine Eq.trans (ev_iload_n (pc := 24) k_182_24 rfl rfl) ?_
    refine Eq.trans (ev_iload_n (pc := 25) k_182_25 rfl rfl) ?_
    refine Eq.trans (ev_vi (pc := 26) (as := [.int v2, .int v1]) (rest := []) k_182_26 rfl zo_46 rfl rfl (Nat.le_of_ble_eq_true rfl) (Nat.le_of_ble_eq_true rfl)) (z_cbi fun x1 h1 => ?_)
    refine Eq.trans (ev_ifeq (pc := 29) k_182_29.1 rfl k_182_29.2) (z_ite ?_ ?_)
    · refine Eq.trans (ev_iinc (pc := 34) (v := 1) (lv' := [some (.ref 46), some (.int v1), some (.int (v2 + 1))]) k_182_34 rfl rfl (by decide) rfl) ?_
      refine Eq.trans (ev_goto (pc := 37) k_182_37.1 rfl k_182_37.2) ?_
      exact ev_mk kd_182_17 rfl
    · refine Eq.trans (ev_iload_n (pc := 32) k_182_32 rfl rfl) ?_
      exact ev_ret_int k_182_33 rfl rt_182
  · refine Eq.trans (ev_iconst (pc := 40) (v := (-1)) k_182_40 rfl (by decide)) ?_
    exact ev_ret_int k_182_41 rfl rt_182

set_option maxRecDepth 100000 in
theorem E_Mo_parts (sc : zSc) (d : Nat) (h : zHp) (v1 : Int32) (v2 : Int32) : zRun sc (d + 1) 183 [.ref 46, .int v1, .int v2] zGL h = zE sc (d + 1) 183 5 [some (.ref 46), some (.int v1), some (.int v2), some (.int 1), some (.int 0), none, none, none] [] zGL h := by
  have he : zEnt 183 [.ref 46, .int v1, .int v2] = [some (.ref 46), some (.int v1), some (.int v2), none, none, none, none, none] := by unfold zEnt; rw [ml_183]; rfl
  unfold zRun
  rw [he]
  refine Eq.trans (ev_iconst (pc := 0) (v := 1) k_183_0 rfl (by decide)) ?_
  refine Eq.trans (ev_istore_n (pc := 1) (lv' := [some (.ref 46), some (.int v1), some (.int v2), some (.int 1), none, none, none, none]) k_183_1 rfl (Nat.le_of_ble_eq_true rfl) rfl) ?_
  refine Eq.trans (ev_iconst (pc := 2) (v := 0) k_183_2 rfl (by decide)) ?_
  refine Eq.trans (ev_istore (pc := 3) (lv' := [some (.ref 46), some (.int v1), some (.int v2), some (.int 1), some (.int 0), none, none, none]) k_183_3 rfl (Nat.le_of_ble_eq_true rfl) rfl) ?_
  exact ev_mk kd_183_5 rfl

set_option maxRecDepth 100000 in
theorem E_Mo_parts_5 (sc : zSc) (d : Nat) (h : zHp) (v1 : Int32) (v2 : Int32) (v3 : Int32) (v4 : Int32) : zE sc (d + 1) 183 5 [some (.ref 46), some (.int v1), some (.int v2), some (.int v3), some (.int v4), none, none, none] [] zGL h = (if v4 < ((1 : Int32) <<< (((2 : Int32) * (h.1 46 0)) &&& 31)) then (if v3 = 0 then (if v3 = 0 ∨ v3 = 1 then some (some (.int v3), zGL, h) else none) else (if (((h.2.1 46 7) >>> ((v4 >>> ((h.1 46 0) &&& 31)).toInt64 &&& 63)) &&& (1 : Int64)) = (1 : Int64) then (if (((h.2.1 46 7) >>> ((v4 &&& (((1 : Int32) <<< ((h.1 46 0) &&& 31)) - (1 : Int32))).toInt64 &&& 63)) &&& (1 : Int64)) = (1 : Int64) then zE sc (d + 1) 183 77 [some (.ref 46), some (.int v1), some (.int v2), none, some (.int v4), some (.int (v4 >>> ((h.1 46 0) &&& 31))), some (.int (v4 &&& (((1 : Int32) <<< ((h.1 46 0) &&& 31)) - (1 : Int32)))), none] [.int 1] zGL h else zE sc (d + 1) 183 76 [some (.ref 46), some (.int v1), some (.int v2), none, some (.int v4), some (.int (v4 >>> ((h.1 46 0) &&& 31))), some (.int (v4 &&& (((1 : Int32) <<< ((h.1 46 0) &&& 31)) - (1 : Int32)))), none] [] zGL h) else zE sc (d + 1) 183 76 [some (.ref 46), some (.int v1), some (.int v2), none, some (.int v4), some (.int (v4 >>> ((h.1 46 0) &&& 31))), some (.int (v4 &&& (((1 : Int32) <<< ((h.1 46 0) &&& 31)) - (1 : Int32)))), none] [] zGL h)) else (if v3 = 0 ∨ v3 = 1 then some (some (.int v3), zGL, h) else none)) := by
  refine Eq.trans (ev_iload (pc := 5) k_183_5 rfl rfl) ?_
  refine Eq.trans (ev_iconst (pc := 7) (v := 1) k_183_7 rfl (by decide)) ?_
  refine Eq.trans (ev_iconst (pc := 8) (v := 2) k_183_8 rfl (by decide)) ?_
  refine Eq.trans (ev_aload_n (pc := 9) (x := 46) k_183_9 rfl rfl (by decide)) ?_
  refine Eq.trans (ev_getI (pc := 10) k_183_10 rfl zo_46.1) ?_
  refine Eq.trans (ev_imul (pc := 13) k_183_13 rfl) ?_
  refine Eq.trans (ev_ishl (pc := 14) k_183_14 rfl) ?_
  refine Eq.trans (ev_icge (pc := 15) k_183_15.1 rfl k_183_15.2) (z_ite ?_ ?_)
  · refine Eq.trans (ev_iload_n (pc := 18) k_183_18 rfl rfl) ?_
    refine Eq.trans (ev_ifeq (pc := 19) k_183_19.1 rfl k_183_19.2) (z_ite ?_ ?_)
    · refine Eq.trans (ev_mk (pc := 132) (lv' := [none, none, none, some (.int v3), none, none, none, none]) kd_183_132 rfl) ?_
      refine Eq.trans (ev_iload_n (pc := 132) k_183_132 rfl rfl) ?_
      exact ev_ret_bool k_183_133 rfl rt_183
    · refine Eq.trans (ev_iload (pc := 22) k_183_22 rfl rfl) ?_
      refine Eq.trans (ev_aload_n (pc := 24) (x := 46) k_183_24 rfl rfl (by decide)) ?_
      refine Eq.trans (ev_getI (pc := 25) k_183_25 rfl zo_46.1) ?_
      refine Eq.trans (ev_ishr (pc := 28) k_183_28 rfl) ?_
      refine Eq.trans (ev_istore (pc := 29) (lv' := [some (.ref 46), some (.int v1), some (.int v2), some (.int v3), some (.int v4), some (.int (v4 >>> ((h.1 46 0) &&& 31))), none, none]) k_183_29 rfl (Nat.le_of_ble_eq_true rfl) rfl) ?_
      refine Eq.trans (ev_iload (pc := 31) k_183_31 rfl rfl) ?_
      refine Eq.trans (ev_iconst (pc := 33) (v := 1) k_183_33 rfl (by decide)) ?_
      refine Eq.trans (ev_aload_n (pc := 34) (x := 46) k_183_34 rfl rfl (by decide)) ?_
      refine Eq.trans (ev_getI (pc := 35) k_183_35 rfl zo_46.1) ?_
      refine Eq.trans (ev_ishl (pc := 38) k_183_38 rfl) ?_
      refine Eq.trans (ev_iconst (pc := 39) (v := 1) k_183_39 rfl (by decide)) ?_
      refine Eq.trans (ev_isub (pc := 40) k_183_40 rfl) ?_
      refine Eq.trans (ev_iand (pc := 41) k_183_41 rfl) ?_
      refine Eq.trans (ev_istore (pc := 42) (lv' := [some (.ref 46), some (.int v1), some (.int v2), some (.int v3), some (.int v4), some (.int (v4 >>> ((h.1 46 0) &&& 31))), some (.int (v4 &&& (((1 : Int32) <<< ((h.1 46 0) &&& 31)) - (1 : Int32)))), none]) k_183_42 rfl (Nat.le_of_ble_eq_true rfl) rfl) ?_
      refine Eq.trans (ev_aload_n (pc := 44) (x := 46) k_183_44 rfl rfl (by decide)) ?_
      refine Eq.trans (ev_getL (pc := 45) k_183_45 rfl zo_46.1) ?_
      refine Eq.trans (ev_iload (pc := 48) k_183_48 rfl rfl) ?_
      refine Eq.trans (ev_lshr (pc := 50) k_183_50 rfl) ?_
      refine Eq.trans (ev_lconst (pc := 51) (v := 1) k_183_51 rfl (by decide)) ?_
      refine Eq.trans (ev_land (pc := 52) k_183_52 rfl) ?_
      refine Eq.trans (ev_lconst (pc := 53) (v := 1) k_183_53 rfl (by decide)) ?_
      refine Eq.trans (ev_lcmp (pc := 54) k_183_54 rfl) ?_
      refine Eq.trans (ev_ilne (pc := 55) k_183_55.1 rfl k_183_55.2) (z_ite ?_ ?_)
      · refine Eq.trans (ev_aload_n (pc := 58) (x := 46) k_183_58 rfl rfl (by decide)) ?_
        refine Eq.trans (ev_getL (pc := 59) k_183_59 rfl zo_46.1) ?_
        refine Eq.trans (ev_iload (pc := 62) k_183_62 rfl rfl) ?_
        refine Eq.trans (ev_lshr (pc := 64) k_183_64 rfl) ?_
        refine Eq.trans (ev_lconst (pc := 65) (v := 1) k_183_65 rfl (by decide)) ?_
        refine Eq.trans (ev_land (pc := 66) k_183_66 rfl) ?_
        refine Eq.trans (ev_lconst (pc := 67) (v := 1) k_183_67 rfl (by decide)) ?_
        refine Eq.trans (ev_lcmp (pc := 68) k_183_68 rfl) ?_
        refine Eq.trans (ev_ilne (pc := 69) k_183_69.1 rfl k_183_69.2) (z_ite ?_ ?_)
        · refine Eq.trans (ev_iconst (pc := 72) (v := 1) k_183_72 rfl (by decide)) ?_
          refine Eq.trans (ev_goto (pc := 73) k_183_73.1 rfl k_183_73.2) ?_
          exact ev_mk kd_183_77 rfl
        · exact ev_mk kd_183_76 rfl
      · exact ev_mk kd_183_76 rfl
  · refine Eq.trans (ev_mk (pc := 132) (lv' := [none, none, none, some (.int v3), none, none, none, none]) kd_183_132 rfl) ?_
    refine Eq.trans (ev_iload_n (pc := 132) k_183_132 rfl rfl) ?_
    exact ev_ret_bool k_183_133 rfl rt_183

set_option maxRecDepth 100000 in
theorem E_Mo_parts_76 (sc : zSc) (d : Nat) (h : zHp) (v1 : Int32) (v2 : Int32) (v4 : Int32) (v5 : Int32) (v6 : Int32) : zE sc (d + 1) 183 76 [some (.ref 46), some (.int v1), some (.int v2), none, some (.int v4), some (.int v5), some (.int v6), none] [] zGL h = zE sc (d + 1) 183 77 [some (.ref 46), some (.int v1), some (.int v2), none, some (.int v4), some (.int v5), some (.int v6), none] [.int 0] zGL h := by
  refine Eq.trans (ev_iconst (pc := 76) (v := 0) k_183_76 rfl (by decide)) ?_
  exact ev_mk kd_183_77 rfl

set_option maxRecDepth 100000 in
theorem E_Mo_parts_77 (sc : zSc) (d : Nat) (h : zHp) (v1 : Int32) (v2 : Int32) (v4 : Int32) (v5 : Int32) (v6 : Int32) (s0 : Int32) : zE sc (d + 1) 183 77 [some (.ref 46), some (.int v1), some (.int v2), none, some (.int v4), some (.int v5), some (.int v6), none] [.int s0] zGL h = (if s0 = 0 then zE sc (d + 1) 183 5 [some (.ref 46), some (.int v1), some (.int v2), some (.int 1), some (.int (v4 + 1)), none, none, none] [] zGL h else (zBi (zRun sc d 146 [.long ((v5 ^^^ v6).toInt64)] zGL h) zGL fun x1 h1 => (zBi (zRun sc d 132 [.long x1.toInt64, .long 1, .long v2.toInt64] zGL h1) zGL fun x2 h2 => (if x2 = 0 then zE sc (d + 1) 183 5 [some (.ref 46), some (.int v1), some (.int v2), some (.int 1), some (.int (v4 + 1)), none, none, none] [] zGL h2 else (zBi (zRun sc d 128 [.ref 46, .int v5, .int v1] zGL h2) zGL fun x3 h3 => (zBi (zRun sc d 128 [.ref 46, .int v6, .int v1] zGL h3) zGL fun x4 h4 => (if x3 = x4 then zE sc (d + 1) 183 5 [some (.ref 46), some (.int v1), some (.int v2), some (.int 0), some (.int (v4 + 1)), none, none, none] [] zGL h4 else zE sc (d + 1) 183 5 [some (.ref 46), some (.int v1), some (.int v2), some (.int 1), some (.int (v4 + 1)), none, none, none] [] zGL h4))))))) := by
  refine Eq.trans (ev_istore (pc := 77) (lv' := [some (.ref 46), some (.int v1), some (.int v2), none, some (.int v4), some (.int v5), some (.int v6), some (.int s0)]) k_183_77 rfl (Nat.le_of_ble_eq_true rfl) rfl) ?_
  refine Eq.trans (ev_iload (pc := 79) k_183_79 rfl rfl) ?_
  refine Eq.trans (ev_ifeq (pc := 81) k_183_81.1 rfl k_183_81.2) (z_ite ?_ ?_)
  · refine Eq.trans (ev_mk (pc := 120) (lv' := [some (.ref 46), some (.int v1), some (.int v2), none, some (.int v4), none, none, none]) kd_183_120 rfl) ?_
    refine Eq.trans (ev_iconst (pc := 120) (v := 1) k_183_120 rfl (by decide)) ?_
    refine Eq.trans (ev_goto (pc := 121) k_183_121.1 rfl k_183_121.2) ?_
    refine Eq.trans (ev_istore_n (pc := 125) (lv' := [some (.ref 46), some (.int v1), some (.int v2), some (.int 1), some (.int v4), none, none, none]) k_183_125 rfl (Nat.le_of_ble_eq_true rfl) rfl) ?_
    refine Eq.trans (ev_iinc (pc := 126) (v := 1) (lv' := [some (.ref 46), some (.int v1), some (.int v2), some (.int 1), some (.int (v4 + 1)), none, none, none]) k_183_126 rfl rfl (by decide) rfl) ?_
    refine Eq.trans (ev_goto (pc := 129) k_183_129.1 rfl k_183_129.2) ?_
    exact ev_mk kd_183_5 rfl
  · refine Eq.trans (ev_iload (pc := 84) k_183_84 rfl rfl) ?_
    refine Eq.trans (ev_iload (pc := 86) k_183_86 rfl rfl) ?_
    refine Eq.trans (ev_ixor (pc := 88) k_183_88 rfl) ?_
    refine Eq.trans (ev_i2l (pc := 89) k_183_89 rfl) ?_
    refine Eq.trans (ev_si (pc := 90) (as := [.long ((v5 ^^^ v6).toInt64)]) (rest := []) k_183_90 rfl rfl rfl (Nat.le_of_ble_eq_true rfl) (Nat.le_of_ble_eq_true rfl)) (z_cbi fun x1 h1 => ?_)
    refine Eq.trans (ev_i2l (pc := 93) k_183_93 rfl) ?_
    refine Eq.trans (ev_lconst (pc := 94) (v := 1) k_183_94 rfl (by decide)) ?_
    refine Eq.trans (ev_iload_n (pc := 95) k_183_95 rfl rfl) ?_
    refine Eq.trans (ev_i2l (pc := 96) k_183_96 rfl) ?_
    refine Eq.trans (ev_si (pc := 97) (as := [.long x1.toInt64, .long 1, .long v2.toInt64]) (rest := []) k_183_97 rfl rfl rfl (Nat.le_of_ble_eq_true rfl) (Nat.le_of_ble_eq_true rfl)) (z_cbi fun x2 h2 => ?_)
    refine Eq.trans (ev_ifeq (pc := 100) k_183_100.1 rfl k_183_100.2) (z_ite ?_ ?_)
    · refine Eq.trans (ev_mk (pc := 120) (lv' := [some (.ref 46), some (.int v1), some (.int v2), none, some (.int v4), none, none, none]) kd_183_120 rfl) ?_
      refine Eq.trans (ev_iconst (pc := 120) (v := 1) k_183_120 rfl (by decide)) ?_
      refine Eq.trans (ev_goto (pc := 121) k_183_121.1 rfl k_183_121.2) ?_
      refine Eq.trans (ev_istore_n (pc := 125) (lv' := [some (.ref 46), some (.int v1), some (.int v2), some (.int 1), some (.int v4), none, none, none]) k_183_125 rfl (Nat.le_of_ble_eq_true rfl) rfl) ?_
      refine Eq.trans (ev_iinc (pc := 126) (v := 1) (lv' := [some (.ref 46), some (.int v1), some (.int v2), some (.int 1), some (.int (v4 + 1)), none, none, none]) k_183_126 rfl rfl (by decide) rfl) ?_
      refine Eq.trans (ev_goto (pc := 129) k_183_129.1 rfl k_183_129.2) ?_
      exact ev_mk kd_183_5 rfl
    · refine Eq.trans (ev_aload_n (pc := 103) (x := 46) k_183_103 rfl rfl (by decide)) ?_
      refine Eq.trans (ev_iload (pc := 104) k_183_104 rfl rfl) ?_
      refine Eq.trans (ev_iload_n (pc := 106) k_183_106 rfl rfl) ?_
      refine Eq.trans (ev_vi (pc := 107) (as := [.int v5, .int v1]) (rest := []) k_183_107 rfl zo_46 rfl rfl (Nat.le_of_ble_eq_true rfl) (Nat.le_of_ble_eq_true rfl)) (z_cbi fun x3 h3 => ?_)
      refine Eq.trans (ev_aload_n (pc := 110) (x := 46) k_183_110 rfl rfl (by decide)) ?_
      refine Eq.trans (ev_iload (pc := 111) k_183_111 rfl rfl) ?_
      refine Eq.trans (ev_iload_n (pc := 113) k_183_113 rfl rfl) ?_
      refine Eq.trans (ev_vi (pc := 114) (as := [.int v6, .int v1]) (rest := [.int x3]) k_183_114 rfl zo_46 rfl rfl (Nat.le_of_ble_eq_true rfl) (Nat.le_of_ble_eq_true rfl)) (z_cbi fun x4 h4 => ?_)
      refine Eq.trans (ev_iceq (pc := 117) k_183_117.1 rfl k_183_117.2) (z_ite ?_ ?_)
      · refine Eq.trans (ev_iconst (pc := 124) (v := 0) k_183_124 rfl (by decide)) ?_
        refine Eq.trans (ev_mk (pc := 125) (lv' := [some (.ref 46), some (.int v1), some (.int v2), none, some (.int v4), none, none, none]) kd_183_125 rfl) ?_
        refine Eq.trans (ev_istore_n (pc := 125) (lv' := [some (.ref 46), some (.int v1), some (.int v2), some (.int 0), some (.int v4), none, none, none]) k_183_125 rfl (Nat.le_of_ble_eq_true rfl) rfl) ?_
        refine Eq.trans (ev_iinc (pc := 126) (v := 1) (lv' := [some (.ref 46), some (.int v1), some (.int v2), some (.int 0), some (.int (v4 + 1)), none, none, none]) k_183_126 rfl rfl (by decide) rfl) ?_
        refine Eq.trans (ev_goto (pc := 129) k_183_129.1 rfl k_183_129.2) ?_
        exact ev_mk kd_183_5 rfl
      · refine Eq.trans (ev_mk (pc := 120) (lv' := [some (.ref 46), some (.int v1), some (.int v2), none, some (.int v4), none, none, none]) kd_183_120 rfl) ?_
        refine Eq.trans (ev_iconst (pc := 120) (v := 1) k_183_120 rfl (by decide)) ?_
        refine Eq.trans (ev_goto (pc := 121) k_183_121.1 rfl k_183_121.2) ?_
        refine Eq.trans (ev_istore_n (pc := 125) (lv' := [some (.ref 46), some (.int v1), some (.int v2), some (.int 1), some (.int v4), none, none, none]) k_183_125 rfl (Nat.le_of_ble_eq_true rfl) rfl) ?_
        refine Eq.trans (ev_iinc (pc := 126) (v := 1) (lv' := [some (.ref 46), some (.int v1), some (.int v2), some (.int 1), some (.int (v4 + 1)), none, none, none]) k_183_126 rfl rfl (by decide) rfl) ?_
        refine Eq.trans (ev_goto (pc := 129) k_183_129.1 rfl k_183_129.2) ?_
        exact ev_mk kd_183_5 rfl

set_option maxRecDepth 100000 in
theorem E_Mo_common (sc : zSc) (d : Nat) (h : zHp) (v1 : Int32) (v2 : Int32) (v3 : Int32) : zRun sc (d + 1) 184 [.ref 46, .int v1, .int v2, .int v3] zGL h = (zBi (zRun sc d 157 [.ref 46, .int v2, .int v3] zGL h) zGL fun x1 h1 => (if x1 = 0 then some (some (.int (-1000000001)), zGL, h1) else (zBi (zRun sc d 157 [.ref 46, .int v1, .int v2] zGL h1) zGL fun x2 h2 => (if x2 = 0 then some (some (.int (-1000000001)), zGL, h2) else (if v1 = v3 then some (some (.int (-1000000001)), zGL, h2) else (zBi (zRun sc d 160 [.ref 46, .int v1, .int v2] zGL h2) zGL fun x3 h3 => (zBi (zRun sc d 160 [.ref 46, .int v1, .int v3] zGL h3) zGL fun x4 h4 => some (some (.int (x3 &&& x4)), zGL, h4)))))))) := by
  have he : zEnt 184 [.ref 46, .int v1, .int v2, .int v3] = [some (.ref 46), some (.int v1), some (.int v2), some (.int v3)] := by unfold zEnt; rw [ml_184]; rfl
  unfold zRun
  rw [he]
  refine Eq.trans (ev_aload_n (pc := 0) (x := 46) k_184_0 rfl rfl (by decide)) ?_
  refine Eq.trans (ev_iload_n (pc := 1) k_184_1 rfl rfl) ?_
  refine Eq.trans (ev_iload_n (pc := 2) k_184_2 rfl rfl) ?_
  refine Eq.trans (ev_vi (pc := 3) (as := [.int v2, .int v3]) (rest := []) k_184_3 rfl zo_46 rfl rfl (Nat.le_of_ble_eq_true rfl) (Nat.le_of_ble_eq_true rfl)) (z_cbi fun x1 h1 => ?_)
  refine Eq.trans (ev_ifeq (pc := 6) k_184_6.1 rfl k_184_6.2) (z_ite ?_ ?_)
  · refine Eq.trans (ev_mk (pc := 23) (lv' := [none, none, none, none]) kd_184_23 rfl) ?_
    refine Eq.trans (ev_ldc (pc := 23) (v := (-1000000001)) k_184_23 rfl) ?_
    exact ev_ret_int k_184_25 rfl rt_184
  · refine Eq.trans (ev_aload_n (pc := 9) (x := 46) k_184_9 rfl rfl (by decide)) ?_
    refine Eq.trans (ev_iload_n (pc := 10) k_184_10 rfl rfl) ?_
    refine Eq.trans (ev_iload_n (pc := 11) k_184_11 rfl rfl) ?_
    refine Eq.trans (ev_vi (pc := 12) (as := [.int v1, .int v2]) (rest := []) k_184_12 rfl zo_46 rfl rfl (Nat.le_of_ble_eq_true rfl) (Nat.le_of_ble_eq_true rfl)) (z_cbi fun x2 h2 => ?_)
    refine Eq.trans (ev_ifeq (pc := 15) k_184_15.1 rfl k_184_15.2) (z_ite ?_ ?_)
    · refine Eq.trans (ev_mk (pc := 23) (lv' := [none, none, none, none]) kd_184_23 rfl) ?_
      refine Eq.trans (ev_ldc (pc := 23) (v := (-1000000001)) k_184_23 rfl) ?_
      exact ev_ret_int k_184_25 rfl rt_184
    · refine Eq.trans (ev_iload_n (pc := 18) k_184_18 rfl rfl) ?_
      refine Eq.trans (ev_iload_n (pc := 19) k_184_19 rfl rfl) ?_
      refine Eq.trans (ev_icne (pc := 20) k_184_20.1 rfl k_184_20.2) (z_ite ?_ ?_)
      · refine Eq.trans (ev_mk (pc := 23) (lv' := [none, none, none, none]) kd_184_23 rfl) ?_
        refine Eq.trans (ev_ldc (pc := 23) (v := (-1000000001)) k_184_23 rfl) ?_
        exact ev_ret_int k_184_25 rfl rt_184
      · refine Eq.trans (ev_aload_n (pc := 26) (x := 46) k_184_26 rfl rfl (by decide)) ?_
        refine Eq.trans (ev_iload_n (pc := 27) k_184_27 rfl rfl) ?_
        refine Eq.trans (ev_iload_n (pc := 28) k_184_28 rfl rfl) ?_
        refine Eq.trans (ev_vi (pc := 29) (as := [.int v1, .int v2]) (rest := []) k_184_29 rfl zo_46 rfl rfl (Nat.le_of_ble_eq_true rfl) (Nat.le_of_ble_eq_true rfl)) (z_cbi fun x3 h3 => ?_)
        refine Eq.trans (ev_aload_n (pc := 32) (x := 46) k_184_32 rfl rfl (by decide)) ?_
        refine Eq.trans (ev_iload_n (pc := 33) k_184_33 rfl rfl) ?_
        refine Eq.trans (ev_iload_n (pc := 34) k_184_34 rfl rfl) ?_
        refine Eq.trans (ev_vi (pc := 35) (as := [.int v1, .int v3]) (rest := [.int x3]) k_184_35 rfl zo_46 rfl rfl (Nat.le_of_ble_eq_true rfl) (Nat.le_of_ble_eq_true rfl)) (z_cbi fun x4 h4 => ?_)
        refine Eq.trans (ev_iand (pc := 38) k_184_38 rfl) ?_
        exact ev_ret_int k_184_39 rfl rt_184

set_option maxRecDepth 100000 in
theorem E_Mo_knew (sc : zSc) (d : Nat) (h : zHp) (v1 : Int32) (v2 : Int32) : zRun sc (d + 1) 185 [.ref 46, .int v1, .int v2] zGL h = (zBi (zRun sc d 151 [.ref 46, .int v1] zGL h) zGL fun x1 h1 => (if x1 = 0 then some (some (.int (-1000000001)), zGL, h1) else (if zin v1 5 = true then (zBj (zRun sc d 130 [.ref 46, .int (h1.1 52 v1.toNatClampNeg)] zGL h1) zGL fun x2 h2 => zE sc (d + 1) 185 28 [some (.ref 46), some (.int v1), some (.int v2), some (.long x2), none, some (.long 0), none, some (.int 0)] [] zGL h2) else none))) := by
  have he : zEnt 185 [.ref 46, .int v1, .int v2] = [some (.ref 46), some (.int v1), some (.int v2), none, none, none, none, none] := by unfold zEnt; rw [ml_185]; rfl
  unfold zRun
  rw [he]
  refine Eq.trans (ev_aload_n (pc := 0) (x := 46) k_185_0 rfl rfl (by decide)) ?_
  refine Eq.trans (ev_iload_n (pc := 1) k_185_1 rfl rfl) ?_
  refine Eq.trans (ev_vi (pc := 2) (as := [.int v1]) (rest := []) k_185_2 rfl zo_46 rfl rfl (Nat.le_of_ble_eq_true rfl) (Nat.le_of_ble_eq_true rfl)) (z_cbi fun x1 h1 => ?_)
  refine Eq.trans (ev_ifne (pc := 5) k_185_5.1 rfl k_185_5.2) (z_ite ?_ ?_)
  · refine Eq.trans (ev_ldc (pc := 8) (v := (-1000000001)) k_185_8 rfl) ?_
    exact ev_ret_int k_185_10 rfl rt_185
  · refine Eq.trans (ev_aload_n (pc := 11) (x := 46) k_185_11 rfl rfl (by decide)) ?_
    refine Eq.trans (ev_aload_n (pc := 12) (x := 46) k_185_12 rfl rfl (by decide)) ?_
    refine Eq.trans (ev_getR (pc := 13) (b := 52) k_185_13 rfl zo_46.1 zg_46_9) ?_
    refine Eq.trans (ev_iload_n (pc := 16) k_185_16 rfl rfl) ?_
    refine Eq.trans (ev_iald_c (pc := 17) k_185_17 rfl za_52) (z_it1 ?_)
    refine Eq.trans (ev_vj (pc := 18) (as := [.int (h1.1 52 v1.toNatClampNeg)]) (rest := []) k_185_18 rfl zo_46 rfl rfl (Nat.le_of_ble_eq_true rfl) (Nat.le_of_ble_eq_true rfl)) (z_cbj fun x2 h2 => ?_)
    refine Eq.trans (ev_lstore_n (pc := 21) (lv' := [some (.ref 46), some (.int v1), some (.int v2), some (.long x2), none, none, none, none]) k_185_21 rfl (Nat.le_of_ble_eq_true rfl) rfl) ?_
    refine Eq.trans (ev_lconst (pc := 22) (v := 0) k_185_22 rfl (by decide)) ?_
    refine Eq.trans (ev_lstore (pc := 23) (lv' := [some (.ref 46), some (.int v1), some (.int v2), some (.long x2), none, some (.long 0), none, none]) k_185_23 rfl (Nat.le_of_ble_eq_true rfl) rfl) ?_
    refine Eq.trans (ev_iconst (pc := 25) (v := 0) k_185_25 rfl (by decide)) ?_
    refine Eq.trans (ev_istore (pc := 26) (lv' := [some (.ref 46), some (.int v1), some (.int v2), some (.long x2), none, some (.long 0), none, some (.int 0)]) k_185_26 rfl (Nat.le_of_ble_eq_true rfl) rfl) ?_
    exact ev_mk kd_185_28 rfl

set_option maxRecDepth 100000 in
theorem E_Mo_knew_28 (sc : zSc) (d : Nat) (h : zHp) (v1 : Int32) (v2 : Int32) (w3 : Int64) (w5 : Int64) (v7 : Int32) : zE sc (d + 1) 185 28 [some (.ref 46), some (.int v1), some (.int v2), some (.long w3), none, some (.long w5), none, some (.int v7)] [] zGL h = (if v7 < ((1 : Int32) <<< ((h.1 46 0) &&& 31)) then (if ((w3 >>> (v7.toInt64 &&& 63)) &&& (1 : Int64)) = (1 : Int64) then (zBi (zRun sc d 186 [.ref 46, .int v1, .int v7] zGL h) zGL fun x1 h1 => (if x1 = 0 then zE sc (d + 1) 185 28 [some (.ref 46), some (.int v1), some (.int v2), some (.long w3), none, some (.long (w5 ||| (0 : Int64))), none, some (.int (v7 + 1))] [] zGL h1 else zE sc (d + 1) 185 28 [some (.ref 46), some (.int v1), some (.int v2), some (.long w3), none, some (.long (w5 ||| ((1 : Int64) <<< (v7.toInt64 &&& 63)))), none, some (.int (v7 + 1))] [] zGL h1)) else zE sc (d + 1) 185 28 [some (.ref 46), some (.int v1), some (.int v2), some (.long w3), none, some (.long (w5 ||| (0 : Int64))), none, some (.int (v7 + 1))] [] zGL h) else (zBi (zRun sc d 158 [.ref 46, .long w5, .int v2] zGL h) zGL fun x2 h2 => some (some (.int x2), zGL, h2))) := by
  refine Eq.trans (ev_iload (pc := 28) k_185_28 rfl rfl) ?_
  refine Eq.trans (ev_iconst (pc := 30) (v := 1) k_185_30 rfl (by decide)) ?_
  refine Eq.trans (ev_aload_n (pc := 31) (x := 46) k_185_31 rfl rfl (by decide)) ?_
  refine Eq.trans (ev_getI (pc := 32) k_185_32 rfl zo_46.1) ?_
  refine Eq.trans (ev_ishl (pc := 35) k_185_35 rfl) ?_
  refine Eq.trans (ev_icge (pc := 36) k_185_36.1 rfl k_185_36.2) (z_ite ?_ ?_)
  · refine Eq.trans (ev_lload (pc := 39) k_185_39 rfl rfl) ?_
    refine Eq.trans (ev_lload_n (pc := 41) k_185_41 rfl rfl) ?_
    refine Eq.trans (ev_iload (pc := 42) k_185_42 rfl rfl) ?_
    refine Eq.trans (ev_lshr (pc := 44) k_185_44 rfl) ?_
    refine Eq.trans (ev_lconst (pc := 45) (v := 1) k_185_45 rfl (by decide)) ?_
    refine Eq.trans (ev_land (pc := 46) k_185_46 rfl) ?_
    refine Eq.trans (ev_lconst (pc := 47) (v := 1) k_185_47 rfl (by decide)) ?_
    refine Eq.trans (ev_lcmp (pc := 48) k_185_48 rfl) ?_
    refine Eq.trans (ev_ilne (pc := 49) k_185_49.1 rfl k_185_49.2) (z_ite ?_ ?_)
    · refine Eq.trans (ev_aload_n (pc := 52) (x := 46) k_185_52 rfl rfl (by decide)) ?_
      refine Eq.trans (ev_iload_n (pc := 53) k_185_53 rfl rfl) ?_
      refine Eq.trans (ev_iload (pc := 54) k_185_54 rfl rfl) ?_
      refine Eq.trans (ev_vi (pc := 56) (as := [.int v1, .int v7]) (rest := [.long w5]) k_185_56 rfl zo_46 rfl rfl (Nat.le_of_ble_eq_true rfl) (Nat.le_of_ble_eq_true rfl)) (z_cbi fun x1 h1 => ?_)
      refine Eq.trans (ev_ifeq (pc := 59) k_185_59.1 rfl k_185_59.2) (z_ite ?_ ?_)
      · refine Eq.trans (ev_mk (pc := 69) (lv' := [some (.ref 46), some (.int v1), some (.int v2), some (.long w3), none, none, none, some (.int v7)]) kd_185_69 rfl) ?_
        refine Eq.trans (ev_lconst (pc := 69) (v := 0) k_185_69 rfl (by decide)) ?_
        refine Eq.trans (ev_lor (pc := 70) k_185_70 rfl) ?_
        refine Eq.trans (ev_lstore (pc := 71) (lv' := [some (.ref 46), some (.int v1), some (.int v2), some (.long w3), none, some (.long (w5 ||| (0 : Int64))), none, some (.int v7)]) k_185_71 rfl (Nat.le_of_ble_eq_true rfl) rfl) ?_
        refine Eq.trans (ev_iinc (pc := 73) (v := 1) (lv' := [some (.ref 46), some (.int v1), some (.int v2), some (.long w3), none, some (.long (w5 ||| (0 : Int64))), none, some (.int (v7 + 1))]) k_185_73 rfl rfl (by decide) rfl) ?_
        refine Eq.trans (ev_goto (pc := 76) k_185_76.1 rfl k_185_76.2) ?_
        exact ev_mk kd_185_28 rfl
      · refine Eq.trans (ev_lconst (pc := 62) (v := 1) k_185_62 rfl (by decide)) ?_
        refine Eq.trans (ev_iload (pc := 63) k_185_63 rfl rfl) ?_
        refine Eq.trans (ev_lshl (pc := 65) k_185_65 rfl) ?_
        refine Eq.trans (ev_goto (pc := 66) k_185_66.1 rfl k_185_66.2) ?_
        refine Eq.trans (ev_mk (pc := 70) (lv' := [some (.ref 46), some (.int v1), some (.int v2), some (.long w3), none, none, none, some (.int v7)]) kd_185_70 rfl) ?_
        refine Eq.trans (ev_lor (pc := 70) k_185_70 rfl) ?_
        refine Eq.trans (ev_lstore (pc := 71) (lv' := [some (.ref 46), some (.int v1), some (.int v2), some (.long w3), none, some (.long (w5 ||| ((1 : Int64) <<< (v7.toInt64 &&& 63)))), none, some (.int v7)]) k_185_71 rfl (Nat.le_of_ble_eq_true rfl) rfl) ?_
        refine Eq.trans (ev_iinc (pc := 73) (v := 1) (lv' := [some (.ref 46), some (.int v1), some (.int v2), some (.long w3), none, some (.long (w5 ||| ((1 : Int64) <<< (v7.toInt64 &&& 63)))), none, some (.int (v7 + 1))]) k_185_73 rfl rfl (by decide) rfl) ?_
        refine Eq.trans (ev_goto (pc := 76) k_185_76.1 rfl k_185_76.2) ?_
        exact ev_mk kd_185_28 rfl
    · refine Eq.trans (ev_mk (pc := 69) (lv' := [some (.ref 46), some (.int v1), some (.int v2), some (.long w3), none, none, none, some (.int v7)]) kd_185_69 rfl) ?_
      refine Eq.trans (ev_lconst (pc := 69) (v := 0) k_185_69 rfl (by decide)) ?_
      refine Eq.trans (ev_lor (pc := 70) k_185_70 rfl) ?_
      refine Eq.trans (ev_lstore (pc := 71) (lv' := [some (.ref 46), some (.int v1), some (.int v2), some (.long w3), none, some (.long (w5 ||| (0 : Int64))), none, some (.int v7)]) k_185_71 rfl (Nat.le_of_ble_eq_true rfl) rfl) ?_
      refine Eq.trans (ev_iinc (pc := 73) (v := 1) (lv' := [some (.ref 46), some (.int v1), some (.int v2), some (.long w3), none, some (.long (w5 ||| (0 : Int64))), none, some (.int (v7 + 1))]) k_185_73 rfl rfl (by decide) rfl) ?_
      refine Eq.trans (ev_goto (pc := 76) k_185_76.1 rfl k_185_76.2) ?_
      exact ev_mk kd_185_28 rfl
  · refine Eq.trans (ev_aload_n (pc := 79) (x := 46) k_185_79 rfl rfl (by decide)) ?_
    refine Eq.trans (ev_lload (pc := 80) k_185_80 rfl rfl) ?_
    refine Eq.trans (ev_iload_n (pc := 82) k_185_82 rfl rfl) ?_
    refine Eq.trans (ev_vi (pc := 83) (as := [.long w5, .int v2]) (rest := []) k_185_83 rfl zo_46 rfl rfl (Nat.le_of_ble_eq_true rfl) (Nat.le_of_ble_eq_true rfl)) (z_cbi fun x2 h2 => ?_)
    exact ev_ret_int k_185_86 rfl rt_185

set_option maxRecDepth 100000 in
theorem E_Mo_couldKnow (sc : zSc) (d : Nat) (h : zHp) (v1 : Int32) (v2 : Int32) : zRun sc (d + 1) 186 [.ref 46, .int v1, .int v2] zGL h = zE sc (d + 1) 186 5 [some (.ref 46), some (.int v1), none, some (.int v2), some (.int 0), none, none] [] zGL h := by
  have he : zEnt 186 [.ref 46, .int v1, .int v2] = [some (.ref 46), some (.int v1), some (.int v2), none, none, none, none] := by unfold zEnt; rw [ml_186]; rfl
  unfold zRun
  rw [he]
  refine Eq.trans (ev_iload_n (pc := 0) k_186_0 rfl rfl) ?_
  refine Eq.trans (ev_istore_n (pc := 1) (lv' := [some (.ref 46), some (.int v1), some (.int v2), some (.int v2), none, none, none]) k_186_1 rfl (Nat.le_of_ble_eq_true rfl) rfl) ?_
  refine Eq.trans (ev_iconst (pc := 2) (v := 0) k_186_2 rfl (by decide)) ?_
  refine Eq.trans (ev_istore (pc := 3) (lv' := [some (.ref 46), some (.int v1), some (.int v2), some (.int v2), some (.int 0), none, none]) k_186_3 rfl (Nat.le_of_ble_eq_true rfl) rfl) ?_
  exact ev_mk kd_186_5 rfl

set_option maxRecDepth 100000 in
theorem E_Mo_couldKnow_5 (sc : zSc) (d : Nat) (h : zHp) (v1 : Int32) (v3 : Int32) (v4 : Int32) : zE sc (d + 1) 186 5 [some (.ref 46), some (.int v1), none, some (.int v3), some (.int v4), none, none] [] zGL h = (if v4 < (h.1 46 12) then (if zin (((5 : Int32) * v4) + (2 : Int32)) 300 = true then (if zin ((5 : Int32) * v4) 300 = true then (if (h.1 55 ((5 : Int32) * v4).toNatClampNeg) = v1 then (zBi (zRun sc d 129 [.int v3, .int (h.1 55 (((5 : Int32) * v4) + (2 : Int32)).toNatClampNeg)] zGL h) zGL fun x1 h1 => (if x1 = 0 then some (some (.int 0), zGL, h1) else zE sc (d + 1) 186 51 [some (.ref 46), some (.int v1), none, some (.int v3), some (.int v4), some (.int (h.1 55 (((5 : Int32) * v4) + (2 : Int32)).toNatClampNeg)), none] [] zGL h1)) else zE sc (d + 1) 186 51 [some (.ref 46), some (.int v1), none, some (.int v3), some (.int v4), some (.int (h.1 55 (((5 : Int32) * v4) + (2 : Int32)).toNatClampNeg)), none] [] zGL h) else none) else none) else some (some (.int 1), zGL, h)) := by
  refine Eq.trans (ev_iload (pc := 5) k_186_5 rfl rfl) ?_
  refine Eq.trans (ev_aload_n (pc := 7) (x := 46) k_186_7 rfl rfl (by decide)) ?_
  refine Eq.trans (ev_getI (pc := 8) k_186_8 rfl zo_46.1) ?_
  refine Eq.trans (ev_icge (pc := 11) k_186_11.1 rfl k_186_11.2) (z_ite ?_ ?_)
  · refine Eq.trans (ev_aload_n (pc := 14) (x := 46) k_186_14 rfl rfl (by decide)) ?_
    refine Eq.trans (ev_getR (pc := 15) (b := 55) k_186_15 rfl zo_46.1 zg_46_13) ?_
    refine Eq.trans (ev_iconst (pc := 18) (v := 5) k_186_18 rfl (by decide)) ?_
    refine Eq.trans (ev_iload (pc := 19) k_186_19 rfl rfl) ?_
    refine Eq.trans (ev_imul (pc := 21) k_186_21 rfl) ?_
    refine Eq.trans (ev_iconst (pc := 22) (v := 2) k_186_22 rfl (by decide)) ?_
    refine Eq.trans (ev_iadd (pc := 23) k_186_23 rfl) ?_
    refine Eq.trans (ev_iald_c (pc := 24) k_186_24 rfl za_55) (z_it1 ?_)
    refine Eq.trans (ev_istore (pc := 25) (lv' := [some (.ref 46), some (.int v1), none, some (.int v3), some (.int v4), some (.int (h.1 55 (((5 : Int32) * v4) + (2 : Int32)).toNatClampNeg)), none]) k_186_25 rfl (Nat.le_of_ble_eq_true rfl) rfl) ?_
    refine Eq.trans (ev_aload_n (pc := 27) (x := 46) k_186_27 rfl rfl (by decide)) ?_
    refine Eq.trans (ev_getR (pc := 28) (b := 55) k_186_28 rfl zo_46.1 zg_46_13) ?_
    refine Eq.trans (ev_iconst (pc := 31) (v := 5) k_186_31 rfl (by decide)) ?_
    refine Eq.trans (ev_iload (pc := 32) k_186_32 rfl rfl) ?_
    refine Eq.trans (ev_imul (pc := 34) k_186_34 rfl) ?_
    refine Eq.trans (ev_iald_c (pc := 35) k_186_35 rfl za_55) (z_it1 ?_)
    refine Eq.trans (ev_iload_n (pc := 36) k_186_36 rfl rfl) ?_
    refine Eq.trans (ev_icne (pc := 37) k_186_37.1 rfl k_186_37.2) (z_ite ?_ ?_)
    · refine Eq.trans (ev_iload_n (pc := 40) k_186_40 rfl rfl) ?_
      refine Eq.trans (ev_iload (pc := 41) k_186_41 rfl rfl) ?_
      refine Eq.trans (ev_si (pc := 43) (as := [.int v3, .int (h.1 55 (((5 : Int32) * v4) + (2 : Int32)).toNatClampNeg)]) (rest := []) k_186_43 rfl rfl rfl (Nat.le_of_ble_eq_true rfl) (Nat.le_of_ble_eq_true rfl)) (z_cbi fun x1 h1 => ?_)
      refine Eq.trans (ev_ifne (pc := 46) k_186_46.1 rfl k_186_46.2) (z_ite ?_ ?_)
      · refine Eq.trans (ev_iconst (pc := 49) (v := 0) k_186_49 rfl (by decide)) ?_
        exact ev_ret_b1 k_186_50 rfl rt_186 (by decide)
      · exact ev_mk kd_186_51 rfl
    · exact ev_mk kd_186_51 rfl
  · refine Eq.trans (ev_iconst (pc := 154) (v := 1) k_186_154 rfl (by decide)) ?_
    exact ev_ret_b1 k_186_155 rfl rt_186 (by decide)

set_option maxRecDepth 100000 in
theorem E_Mo_couldKnow_51 (sc : zSc) (d : Nat) (h : zHp) (v1 : Int32) (v3 : Int32) (v4 : Int32) (v5 : Int32) : zE sc (d + 1) 186 51 [some (.ref 46), some (.int v1), none, some (.int v3), some (.int v4), some (.int v5), none] [] zGL h = (if zin (((5 : Int32) * v4) + (1 : Int32)) 300 = true then (if (h.1 55 (((5 : Int32) * v4) + (1 : Int32)).toNatClampNeg) = v1 then zE sc (d + 1) 186 71 [some (.ref 46), some (.int v1), none, some (.int v3), some (.int v4), some (.int v5), none] [.int 1] zGL h else zE sc (d + 1) 186 71 [some (.ref 46), some (.int v1), none, some (.int v3), some (.int v4), some (.int v5), none] [.int 0] zGL h) else none) := by
  refine Eq.trans (ev_aload_n (pc := 51) (x := 46) k_186_51 rfl rfl (by decide)) ?_
  refine Eq.trans (ev_getR (pc := 52) (b := 55) k_186_52 rfl zo_46.1 zg_46_13) ?_
  refine Eq.trans (ev_iconst (pc := 55) (v := 5) k_186_55 rfl (by decide)) ?_
  refine Eq.trans (ev_iload (pc := 56) k_186_56 rfl rfl) ?_
  refine Eq.trans (ev_imul (pc := 58) k_186_58 rfl) ?_
  refine Eq.trans (ev_iconst (pc := 59) (v := 1) k_186_59 rfl (by decide)) ?_
  refine Eq.trans (ev_iadd (pc := 60) k_186_60 rfl) ?_
  refine Eq.trans (ev_iald_c (pc := 61) k_186_61 rfl za_55) (z_it1 ?_)
  refine Eq.trans (ev_iload_n (pc := 62) k_186_62 rfl rfl) ?_
  refine Eq.trans (ev_icne (pc := 63) k_186_63.1 rfl k_186_63.2) (z_ite ?_ ?_)
  · refine Eq.trans (ev_iconst (pc := 66) (v := 1) k_186_66 rfl (by decide)) ?_
    refine Eq.trans (ev_goto (pc := 67) k_186_67.1 rfl k_186_67.2) ?_
    exact ev_mk kd_186_71 rfl
  · refine Eq.trans (ev_iconst (pc := 70) (v := 0) k_186_70 rfl (by decide)) ?_
    exact ev_mk kd_186_71 rfl

set_option maxRecDepth 100000 in
theorem E_Mo_couldKnow_71 (sc : zSc) (d : Nat) (h : zHp) (v1 : Int32) (v3 : Int32) (v4 : Int32) (v5 : Int32) (s0 : Int32) : zE sc (d + 1) 186 71 [some (.ref 46), some (.int v1), none, some (.int v3), some (.int v4), some (.int v5), none] [.int s0] zGL h = (if s0 = 0 then zE sc (d + 1) 186 109 [some (.ref 46), some (.int v1), none, some (.int v3), some (.int v4), some (.int v5), some (.int s0)] [] zGL h else (zBi (zRun sc d 129 [.int v3, .int v5] zGL h) zGL fun x1 h1 => (if zin (((5 : Int32) * v4) + (4 : Int32)) 300 = true then (if (h1.1 55 (((5 : Int32) * v4) + (4 : Int32)).toNatClampNeg) = (1 : Int32) then zE sc (d + 1) 186 104 [some (.ref 46), some (.int v1), none, some (.int v3), some (.int v4), some (.int v5), some (.int s0)] [.int 1, .int x1] zGL h1 else zE sc (d + 1) 186 104 [some (.ref 46), some (.int v1), none, some (.int v3), some (.int v4), some (.int v5), some (.int s0)] [.int 0, .int x1] zGL h1) else none))) := by
  refine Eq.trans (ev_istore (pc := 71) (lv' := [some (.ref 46), some (.int v1), none, some (.int v3), some (.int v4), some (.int v5), some (.int s0)]) k_186_71 rfl (Nat.le_of_ble_eq_true rfl) rfl) ?_
  refine Eq.trans (ev_iload (pc := 73) k_186_73 rfl rfl) ?_
  refine Eq.trans (ev_ifeq (pc := 75) k_186_75.1 rfl k_186_75.2) (z_ite ?_ ?_)
  · exact ev_mk kd_186_109 rfl
  · refine Eq.trans (ev_iload_n (pc := 78) k_186_78 rfl rfl) ?_
    refine Eq.trans (ev_iload (pc := 79) k_186_79 rfl rfl) ?_
    refine Eq.trans (ev_si (pc := 81) (as := [.int v3, .int v5]) (rest := []) k_186_81 rfl rfl rfl (Nat.le_of_ble_eq_true rfl) (Nat.le_of_ble_eq_true rfl)) (z_cbi fun x1 h1 => ?_)
    refine Eq.trans (ev_aload_n (pc := 84) (x := 46) k_186_84 rfl rfl (by decide)) ?_
    refine Eq.trans (ev_getR (pc := 85) (b := 55) k_186_85 rfl zo_46.1 zg_46_13) ?_
    refine Eq.trans (ev_iconst (pc := 88) (v := 5) k_186_88 rfl (by decide)) ?_
    refine Eq.trans (ev_iload (pc := 89) k_186_89 rfl rfl) ?_
    refine Eq.trans (ev_imul (pc := 91) k_186_91 rfl) ?_
    refine Eq.trans (ev_iconst (pc := 92) (v := 4) k_186_92 rfl (by decide)) ?_
    refine Eq.trans (ev_iadd (pc := 93) k_186_93 rfl) ?_
    refine Eq.trans (ev_iald_c (pc := 94) k_186_94 rfl za_55) (z_it1 ?_)
    refine Eq.trans (ev_iconst (pc := 95) (v := 1) k_186_95 rfl (by decide)) ?_
    refine Eq.trans (ev_icne (pc := 96) k_186_96.1 rfl k_186_96.2) (z_ite ?_ ?_)
    · refine Eq.trans (ev_iconst (pc := 99) (v := 1) k_186_99 rfl (by decide)) ?_
      refine Eq.trans (ev_goto (pc := 100) k_186_100.1 rfl k_186_100.2) ?_
      exact ev_mk kd_186_104 rfl
    · refine Eq.trans (ev_iconst (pc := 103) (v := 0) k_186_103 rfl (by decide)) ?_
      exact ev_mk kd_186_104 rfl

set_option maxRecDepth 100000 in
theorem E_Mo_couldKnow_104 (sc : zSc) (d : Nat) (h : zHp) (v1 : Int32) (v3 : Int32) (v4 : Int32) (v5 : Int32) (v6 : Int32) (s0 : Int32) (s1 : Int32) : zE sc (d + 1) 186 104 [some (.ref 46), some (.int v1), none, some (.int v3), some (.int v4), some (.int v5), some (.int v6)] [.int s0, .int s1] zGL h = (if s1 = s0 then zE sc (d + 1) 186 109 [some (.ref 46), some (.int v1), none, some (.int v3), some (.int v4), some (.int v5), some (.int v6)] [] zGL h else some (some (.int 0), zGL, h)) := by
  refine Eq.trans (ev_iceq (pc := 104) k_186_104.1 rfl k_186_104.2) (z_ite ?_ ?_)
  · exact ev_mk kd_186_109 rfl
  · refine Eq.trans (ev_iconst (pc := 107) (v := 0) k_186_107 rfl (by decide)) ?_
    exact ev_ret_b1 k_186_108 rfl rt_186 (by decide)

set_option maxRecDepth 100000 in
theorem E_Mo_couldKnow_109 (sc : zSc) (d : Nat) (h : zHp) (v1 : Int32) (v3 : Int32) (v4 : Int32) (v5 : Int32) (v6 : Int32) : zE sc (d + 1) 186 109 [some (.ref 46), some (.int v1), none, some (.int v3), some (.int v4), some (.int v5), some (.int v6)] [] zGL h = (if v6 = 0 then (if zin (((5 : Int32) * v4) + (3 : Int32)) 300 = true then (zBi (zRun sc d 129 [.int (h.1 55 (((5 : Int32) * v4) + (3 : Int32)).toNatClampNeg), .int v1] zGL h) zGL fun x1 h1 => (if x1 = 0 then zE sc (d + 1) 186 5 [some (.ref 46), some (.int v1), none, some (.int v3), some (.int (v4 + 1)), none, none] [] zGL h1 else zE sc (d + 1) 186 132 [some (.ref 46), some (.int v1), none, some (.int v3), some (.int v4), some (.int v5), none] [] zGL h1)) else none) else zE sc (d + 1) 186 132 [some (.ref 46), some (.int v1), none, some (.int v3), some (.int v4), some (.int v5), none] [] zGL h) := by
  refine Eq.trans (ev_iload (pc := 109) k_186_109 rfl rfl) ?_
  refine Eq.trans (ev_ifne (pc := 111) k_186_111.1 rfl k_186_111.2) (z_ite ?_ ?_)
  · refine Eq.trans (ev_aload_n (pc := 114) (x := 46) k_186_114 rfl rfl (by decide)) ?_
    refine Eq.trans (ev_getR (pc := 115) (b := 55) k_186_115 rfl zo_46.1 zg_46_13) ?_
    refine Eq.trans (ev_iconst (pc := 118) (v := 5) k_186_118 rfl (by decide)) ?_
    refine Eq.trans (ev_iload (pc := 119) k_186_119 rfl rfl) ?_
    refine Eq.trans (ev_imul (pc := 121) k_186_121 rfl) ?_
    refine Eq.trans (ev_iconst (pc := 122) (v := 3) k_186_122 rfl (by decide)) ?_
    refine Eq.trans (ev_iadd (pc := 123) k_186_123 rfl) ?_
    refine Eq.trans (ev_iald_c (pc := 124) k_186_124 rfl za_55) (z_it1 ?_)
    refine Eq.trans (ev_iload_n (pc := 125) k_186_125 rfl rfl) ?_
    refine Eq.trans (ev_si (pc := 126) (as := [.int (h.1 55 (((5 : Int32) * v4) + (3 : Int32)).toNatClampNeg), .int v1]) (rest := []) k_186_126 rfl rfl rfl (Nat.le_of_ble_eq_true rfl) (Nat.le_of_ble_eq_true rfl)) (z_cbi fun x1 h1 => ?_)
    refine Eq.trans (ev_ifeq (pc := 129) k_186_129.1 rfl k_186_129.2) (z_ite ?_ ?_)
    · refine Eq.trans (ev_iload_n (pc := 146) k_186_146 rfl rfl) ?_
      refine Eq.trans (ev_mk (pc := 147) (lv' := [some (.ref 46), some (.int v1), none, none, some (.int v4), none, none]) kd_186_147 rfl) ?_
      refine Eq.trans (ev_istore_n (pc := 147) (lv' := [some (.ref 46), some (.int v1), none, some (.int v3), some (.int v4), none, none]) k_186_147 rfl (Nat.le_of_ble_eq_true rfl) rfl) ?_
      refine Eq.trans (ev_iinc (pc := 148) (v := 1) (lv' := [some (.ref 46), some (.int v1), none, some (.int v3), some (.int (v4 + 1)), none, none]) k_186_148 rfl rfl (by decide) rfl) ?_
      refine Eq.trans (ev_goto (pc := 151) k_186_151.1 rfl k_186_151.2) ?_
      exact ev_mk kd_186_5 rfl
    · exact ev_mk kd_186_132 rfl
  · exact ev_mk kd_186_132 rfl

set_option maxRecDepth 100000 in
theorem E_Mo_couldKnow_132 (sc : zSc) (d : Nat) (h : zHp) (v1 : Int32) (v3 : Int32) (v4 : Int32) (v5 : Int32) : zE sc (d + 1) 186 132 [some (.ref 46), some (.int v1), none, some (.int v3), some (.int v4), some (.int v5), none] [] zGL h = (if zin (v3 ||| ((1 : Int32) <<< (v5 &&& 31))) 64 = true then zE sc (d + 1) 186 5 [some (.ref 46), some (.int v1), none, some (.int (h.1 50 (v3 ||| ((1 : Int32) <<< (v5 &&& 31))).toNatClampNeg)), some (.int (v4 + 1)), none, none] [] zGL h else none) := by
  refine Eq.trans (ev_aload_n (pc := 132) (x := 46) k_186_132 rfl rfl (by decide)) ?_
  refine Eq.trans (ev_getR (pc := 133) (b := 50) k_186_133 rfl zo_46.1 zg_46_6) ?_
  refine Eq.trans (ev_iload_n (pc := 136) k_186_136 rfl rfl) ?_
  refine Eq.trans (ev_iconst (pc := 137) (v := 1) k_186_137 rfl (by decide)) ?_
  refine Eq.trans (ev_iload (pc := 138) k_186_138 rfl rfl) ?_
  refine Eq.trans (ev_ishl (pc := 140) k_186_140 rfl) ?_
  refine Eq.trans (ev_ior (pc := 141) k_186_141 rfl) ?_
  refine Eq.trans (ev_iald_c (pc := 142) k_186_142 rfl za_50) (z_it1 ?_)
  refine Eq.trans (ev_goto (pc := 143) k_186_143.1 rfl k_186_143.2) ?_
  refine Eq.trans (ev_mk (pc := 147) (lv' := [some (.ref 46), some (.int v1), none, none, some (.int v4), none, none]) kd_186_147 rfl) ?_
  refine Eq.trans (ev_istore_n (pc := 147) (lv' := [some (.ref 46), some (.int v1), none, some (.int (h.1 50 (v3 ||| ((1 : Int32) <<< (v5 &&& 31))).toNatClampNeg)), some (.int v4), none, none]) k_186_147 rfl (Nat.le_of_ble_eq_true rfl) rfl) ?_
  refine Eq.trans (ev_iinc (pc := 148) (v := 1) (lv' := [some (.ref 46), some (.int v1), none, some (.int (h.1 50 (v3 ||| ((1 : Int32) <<< (v5 &&& 31))).toNatClampNeg)), some (.int (v4 + 1)), none, none]) k_186_148 rfl rfl (by decide) rfl) ?_
  refine Eq.trans (ev_goto (pc := 151) k_186_151.1 rfl k_186_151.2) ?_
  exact ev_mk kd_186_5 rfl

set_option maxRecDepth 100000 in
theorem E_Mo_bore (sc : zSc) (d : Nat) (h : zHp)  : zRun sc (d + 1) 187 [.ref 46] zGL h = zE sc (d + 1) 187 6 [some (.ref 46), some (.int (-1)), some (.int 0), some (.int 0), none, none] [] zGL h := by
  have he : zEnt 187 [.ref 46] = [some (.ref 46), none, none, none, none, none] := by unfold zEnt; rw [ml_187]; rfl
  unfold zRun
  rw [he]
  refine Eq.trans (ev_iconst (pc := 0) (v := (-1)) k_187_0 rfl (by decide)) ?_
  refine Eq.trans (ev_istore_n (pc := 1) (lv' := [some (.ref 46), some (.int (-1)), none, none, none, none]) k_187_1 rfl (Nat.le_of_ble_eq_true rfl) rfl) ?_
  refine Eq.trans (ev_iconst (pc := 2) (v := 0) k_187_2 rfl (by decide)) ?_
  refine Eq.trans (ev_istore_n (pc := 3) (lv' := [some (.ref 46), some (.int (-1)), some (.int 0), none, none, none]) k_187_3 rfl (Nat.le_of_ble_eq_true rfl) rfl) ?_
  refine Eq.trans (ev_iconst (pc := 4) (v := 0) k_187_4 rfl (by decide)) ?_
  refine Eq.trans (ev_istore_n (pc := 5) (lv' := [some (.ref 46), some (.int (-1)), some (.int 0), some (.int 0), none, none]) k_187_5 rfl (Nat.le_of_ble_eq_true rfl) rfl) ?_
  exact ev_mk kd_187_6 rfl

set_option maxRecDepth 100000 in
theorem E_Mo_bore_6 (sc : zSc) (d : Nat) (h : zHp) (v1 : Int32) (v2 : Int32) (v3 : Int32) : zE sc (d + 1) 187 6 [some (.ref 46), some (.int v1), some (.int v2), some (.int v3), none, none] [] zGL h = (if v3 < (h.1 46 3) then zE sc (d + 1) 187 20 [some (.ref 46), some (.int v1), some (.int v2), some (.int v3), some (.int 0), some (.int 0)] [] zGL h else some (some (.int v1), zGL, h)) := by
  refine Eq.trans (ev_iload_n (pc := 6) k_187_6 rfl rfl) ?_
  refine Eq.trans (ev_aload_n (pc := 7) (x := 46) k_187_7 rfl rfl (by decide)) ?_
  refine Eq.trans (ev_getI (pc := 8) k_187_8 rfl zo_46.1) ?_
  refine Eq.trans (ev_icge (pc := 11) k_187_11.1 rfl k_187_11.2) (z_ite ?_ ?_)
  · refine Eq.trans (ev_iconst (pc := 14) (v := 0) k_187_14 rfl (by decide)) ?_
    refine Eq.trans (ev_istore (pc := 15) (lv' := [some (.ref 46), some (.int v1), some (.int v2), some (.int v3), some (.int 0), none]) k_187_15 rfl (Nat.le_of_ble_eq_true rfl) rfl) ?_
    refine Eq.trans (ev_iconst (pc := 17) (v := 0) k_187_17 rfl (by decide)) ?_
    refine Eq.trans (ev_istore (pc := 18) (lv' := [some (.ref 46), some (.int v1), some (.int v2), some (.int v3), some (.int 0), some (.int 0)]) k_187_18 rfl (Nat.le_of_ble_eq_true rfl) rfl) ?_
    exact ev_mk kd_187_20 rfl
  · refine Eq.trans (ev_iload_n (pc := 119) k_187_119 rfl rfl) ?_
    exact ev_ret_int k_187_120 rfl rt_187

set_option maxRecDepth 100000 in
theorem E_Mo_bore_20 (sc : zSc) (d : Nat) (h : zHp) (v1 : Int32) (v2 : Int32) (v3 : Int32) (v4 : Int32) (v5 : Int32) : zE sc (d + 1) 187 20 [some (.ref 46), some (.int v1), some (.int v2), some (.int v3), some (.int v4), some (.int v5)] [] zGL h = (if v5 < (h.1 46 3) then (if v3 = v5 then zE sc (d + 1) 187 20 [some (.ref 46), some (.int v1), some (.int v2), some (.int v3), some (.int (v4 + (0 : Int32))), some (.int (v5 + 1))] [] zGL h else (zBi (zRun sc d 160 [.ref 46, .int v3, .int v5] zGL h) zGL fun x1 h1 => (zBi (zRun sc d 146 [.long x1.toInt64] zGL h1) zGL fun x2 h2 => (zBi (zRun sc d 163 [.ref 46, .int v3, .int v5] zGL h2) zGL fun x3 h3 => (zBi (zRun sc d 146 [.long x3.toInt64] zGL h3) zGL fun x4 h4 => zE sc (d + 1) 187 20 [some (.ref 46), some (.int v1), some (.int v2), some (.int v3), some (.int (v4 + (x2 + x4))), some (.int (v5 + 1))] [] zGL h4))))) else (if v1 < 0 then zE sc (d + 1) 187 83 [some (.ref 46), some (.int v1), some (.int v2), some (.int v3), some (.int v4), none] [] zGL h else (if v4 < v2 then zE sc (d + 1) 187 83 [some (.ref 46), some (.int v1), some (.int v2), some (.int v3), some (.int v4), none] [] zGL h else zE sc (d + 1) 187 88 [some (.ref 46), some (.int v1), some (.int v2), some (.int v3), some (.int v4), none] [.int 0] zGL h))) := by
  refine Eq.trans (ev_iload (pc := 20) k_187_20 rfl rfl) ?_
  refine Eq.trans (ev_aload_n (pc := 22) (x := 46) k_187_22 rfl rfl (by decide)) ?_
  refine Eq.trans (ev_getI (pc := 23) k_187_23 rfl zo_46.1) ?_
  refine Eq.trans (ev_icge (pc := 26) k_187_26.1 rfl k_187_26.2) (z_ite ?_ ?_)
  · refine Eq.trans (ev_iload (pc := 29) k_187_29 rfl rfl) ?_
    refine Eq.trans (ev_iload_n (pc := 31) k_187_31 rfl rfl) ?_
    refine Eq.trans (ev_iload (pc := 32) k_187_32 rfl rfl) ?_
    refine Eq.trans (ev_icne (pc := 34) k_187_34.1 rfl k_187_34.2) (z_ite ?_ ?_)
    · refine Eq.trans (ev_iconst (pc := 37) (v := 0) k_187_37 rfl (by decide)) ?_
      refine Eq.trans (ev_goto (pc := 38) k_187_38.1 rfl k_187_38.2) ?_
      refine Eq.trans (ev_mk (pc := 64) (lv' := [some (.ref 46), some (.int v1), some (.int v2), some (.int v3), none, some (.int v5)]) kd_187_64 rfl) ?_
      refine Eq.trans (ev_iadd (pc := 64) k_187_64 rfl) ?_
      refine Eq.trans (ev_istore (pc := 65) (lv' := [some (.ref 46), some (.int v1), some (.int v2), some (.int v3), some (.int (v4 + (0 : Int32))), some (.int v5)]) k_187_65 rfl (Nat.le_of_ble_eq_true rfl) rfl) ?_
      refine Eq.trans (ev_iinc (pc := 67) (v := 1) (lv' := [some (.ref 46), some (.int v1), some (.int v2), some (.int v3), some (.int (v4 + (0 : Int32))), some (.int (v5 + 1))]) k_187_67 rfl rfl (by decide) rfl) ?_
      refine Eq.trans (ev_goto (pc := 70) k_187_70.1 rfl k_187_70.2) ?_
      exact ev_mk kd_187_20 rfl
    · refine Eq.trans (ev_aload_n (pc := 41) (x := 46) k_187_41 rfl rfl (by decide)) ?_
      refine Eq.trans (ev_iload_n (pc := 42) k_187_42 rfl rfl) ?_
      refine Eq.trans (ev_iload (pc := 43) k_187_43 rfl rfl) ?_
      refine Eq.trans (ev_vi (pc := 45) (as := [.int v3, .int v5]) (rest := [.int v4]) k_187_45 rfl zo_46 rfl rfl (Nat.le_of_ble_eq_true rfl) (Nat.le_of_ble_eq_true rfl)) (z_cbi fun x1 h1 => ?_)
      refine Eq.trans (ev_i2l (pc := 48) k_187_48 rfl) ?_
      refine Eq.trans (ev_si (pc := 49) (as := [.long x1.toInt64]) (rest := [.int v4]) k_187_49 rfl rfl rfl (Nat.le_of_ble_eq_true rfl) (Nat.le_of_ble_eq_true rfl)) (z_cbi fun x2 h2 => ?_)
      refine Eq.trans (ev_aload_n (pc := 52) (x := 46) k_187_52 rfl rfl (by decide)) ?_
      refine Eq.trans (ev_iload_n (pc := 53) k_187_53 rfl rfl) ?_
      refine Eq.trans (ev_iload (pc := 54) k_187_54 rfl rfl) ?_
      refine Eq.trans (ev_vi (pc := 56) (as := [.int v3, .int v5]) (rest := [.int x2, .int v4]) k_187_56 rfl zo_46 rfl rfl (Nat.le_of_ble_eq_true rfl) (Nat.le_of_ble_eq_true rfl)) (z_cbi fun x3 h3 => ?_)
      refine Eq.trans (ev_i2l (pc := 59) k_187_59 rfl) ?_
      refine Eq.trans (ev_si (pc := 60) (as := [.long x3.toInt64]) (rest := [.int x2, .int v4]) k_187_60 rfl rfl rfl (Nat.le_of_ble_eq_true rfl) (Nat.le_of_ble_eq_true rfl)) (z_cbi fun x4 h4 => ?_)
      refine Eq.trans (ev_iadd (pc := 63) k_187_63 rfl) ?_
      refine Eq.trans (ev_mk (pc := 64) (lv' := [some (.ref 46), some (.int v1), some (.int v2), some (.int v3), none, some (.int v5)]) kd_187_64 rfl) ?_
      refine Eq.trans (ev_iadd (pc := 64) k_187_64 rfl) ?_
      refine Eq.trans (ev_istore (pc := 65) (lv' := [some (.ref 46), some (.int v1), some (.int v2), some (.int v3), some (.int (v4 + (x2 + x4))), some (.int v5)]) k_187_65 rfl (Nat.le_of_ble_eq_true rfl) rfl) ?_
      refine Eq.trans (ev_iinc (pc := 67) (v := 1) (lv' := [some (.ref 46), some (.int v1), some (.int v2), some (.int v3), some (.int (v4 + (x2 + x4))), some (.int (v5 + 1))]) k_187_67 rfl rfl (by decide) rfl) ?_
      refine Eq.trans (ev_goto (pc := 70) k_187_70.1 rfl k_187_70.2) ?_
      exact ev_mk kd_187_20 rfl
  · refine Eq.trans (ev_iload_n (pc := 73) k_187_73 rfl rfl) ?_
    refine Eq.trans (ev_iflt (pc := 74) k_187_74.1 rfl k_187_74.2) (z_ite ?_ ?_)
    · exact ev_mk kd_187_83 rfl
    · refine Eq.trans (ev_iload (pc := 77) k_187_77 rfl rfl) ?_
      refine Eq.trans (ev_iload_n (pc := 79) k_187_79 rfl rfl) ?_
      refine Eq.trans (ev_icge (pc := 80) k_187_80.1 rfl k_187_80.2) (z_ite ?_ ?_)
      · exact ev_mk kd_187_83 rfl
      · refine Eq.trans (ev_iconst (pc := 87) (v := 0) k_187_87 rfl (by decide)) ?_
        exact ev_mk kd_187_88 rfl

set_option maxRecDepth 100000 in
theorem E_Mo_bore_83 (sc : zSc) (d : Nat) (h : zHp) (v1 : Int32) (v2 : Int32) (v3 : Int32) (v4 : Int32) : zE sc (d + 1) 187 83 [some (.ref 46), some (.int v1), some (.int v2), some (.int v3), some (.int v4), none] [] zGL h = zE sc (d + 1) 187 88 [some (.ref 46), some (.int v1), some (.int v2), some (.int v3), some (.int v4), none] [.int 1] zGL h := by
  refine Eq.trans (ev_iconst (pc := 83) (v := 1) k_187_83 rfl (by decide)) ?_
  refine Eq.trans (ev_goto (pc := 84) k_187_84.1 rfl k_187_84.2) ?_
  exact ev_mk kd_187_88 rfl

set_option maxRecDepth 100000 in
theorem E_Mo_bore_88 (sc : zSc) (d : Nat) (h : zHp) (v1 : Int32) (v2 : Int32) (v3 : Int32) (v4 : Int32) (s0 : Int32) : zE sc (d + 1) 187 88 [some (.ref 46), some (.int v1), some (.int v2), some (.int v3), some (.int v4), none] [.int s0] zGL h = (if s0 = 0 then zE sc (d + 1) 187 100 [some (.ref 46), none, some (.int v2), some (.int v3), some (.int v4), some (.int s0)] [.int v1] zGL h else zE sc (d + 1) 187 100 [some (.ref 46), none, some (.int v2), some (.int v3), some (.int v4), some (.int s0)] [.int v3] zGL h) := by
  refine Eq.trans (ev_istore (pc := 88) (lv' := [some (.ref 46), some (.int v1), some (.int v2), some (.int v3), some (.int v4), some (.int s0)]) k_187_88 rfl (Nat.le_of_ble_eq_true rfl) rfl) ?_
  refine Eq.trans (ev_iload (pc := 90) k_187_90 rfl rfl) ?_
  refine Eq.trans (ev_ifeq (pc := 92) k_187_92.1 rfl k_187_92.2) (z_ite ?_ ?_)
  · refine Eq.trans (ev_iload_n (pc := 99) k_187_99 rfl rfl) ?_
    exact ev_mk kd_187_100 rfl
  · refine Eq.trans (ev_iload_n (pc := 95) k_187_95 rfl rfl) ?_
    refine Eq.trans (ev_goto (pc := 96) k_187_96.1 rfl k_187_96.2) ?_
    exact ev_mk kd_187_100 rfl

set_option maxRecDepth 100000 in
theorem E_Mo_bore_100 (sc : zSc) (d : Nat) (h : zHp) (v2 : Int32) (v3 : Int32) (v4 : Int32) (v5 : Int32) (s0 : Int32) : zE sc (d + 1) 187 100 [some (.ref 46), none, some (.int v2), some (.int v3), some (.int v4), some (.int v5)] [.int s0] zGL h = (if v5 = 0 then zE sc (d + 1) 187 6 [some (.ref 46), some (.int s0), some (.int v2), some (.int (v3 + 1)), none, none] [] zGL h else zE sc (d + 1) 187 6 [some (.ref 46), some (.int s0), some (.int v4), some (.int (v3 + 1)), none, none] [] zGL h) := by
  refine Eq.trans (ev_istore_n (pc := 100) (lv' := [some (.ref 46), some (.int s0), some (.int v2), some (.int v3), some (.int v4), some (.int v5)]) k_187_100 rfl (Nat.le_of_ble_eq_true rfl) rfl) ?_
  refine Eq.trans (ev_iload (pc := 101) k_187_101 rfl rfl) ?_
  refine Eq.trans (ev_ifeq (pc := 103) k_187_103.1 rfl k_187_103.2) (z_ite ?_ ?_)
  · refine Eq.trans (ev_iload_n (pc := 111) k_187_111 rfl rfl) ?_
    refine Eq.trans (ev_mk (pc := 112) (lv' := [some (.ref 46), some (.int s0), none, some (.int v3), none, none]) kd_187_112 rfl) ?_
    refine Eq.trans (ev_istore_n (pc := 112) (lv' := [some (.ref 46), some (.int s0), some (.int v2), some (.int v3), none, none]) k_187_112 rfl (Nat.le_of_ble_eq_true rfl) rfl) ?_
    refine Eq.trans (ev_iinc (pc := 113) (v := 1) (lv' := [some (.ref 46), some (.int s0), some (.int v2), some (.int (v3 + 1)), none, none]) k_187_113 rfl rfl (by decide) rfl) ?_
    refine Eq.trans (ev_goto (pc := 116) k_187_116.1 rfl k_187_116.2) ?_
    exact ev_mk kd_187_6 rfl
  · refine Eq.trans (ev_iload (pc := 106) k_187_106 rfl rfl) ?_
    refine Eq.trans (ev_goto (pc := 108) k_187_108.1 rfl k_187_108.2) ?_
    refine Eq.trans (ev_mk (pc := 112) (lv' := [some (.ref 46), some (.int s0), none, some (.int v3), none, none]) kd_187_112 rfl) ?_
    refine Eq.trans (ev_istore_n (pc := 112) (lv' := [some (.ref 46), some (.int s0), some (.int v4), some (.int v3), none, none]) k_187_112 rfl (Nat.le_of_ble_eq_true rfl) rfl) ?_
    refine Eq.trans (ev_iinc (pc := 113) (v := 1) (lv' := [some (.ref 46), some (.int s0), some (.int v4), some (.int (v3 + 1)), none, none]) k_187_113 rfl rfl (by decide) rfl) ?_
    refine Eq.trans (ev_goto (pc := 116) k_187_116.1 rfl k_187_116.2) ?_
    exact ev_mk kd_187_6 rfl

set_option maxRecDepth 100000 in
theorem E_Mo_log (sc : zSc) (d : Nat) (h : zHp) (v1 : Int32) (v2 : Int32) : zRun sc (d + 1) 188 [.ref 46, .int v1, .int v2] zGL h = (zBi (zRun sc d 132 [.long v2.toInt64, .long 0, .long 4] zGL h) zGL fun x1 h1 => (if x1 = 0 then some (some (.int (-1000000002)), zGL, h1) else (zBi (zRun sc d 132 [.long v1.toInt64, .long 0, .long (((h1.1 46 12) - (1 : Int32)).toInt64)] zGL h1) zGL fun x2 h2 => (if x2 = 0 then some (some (.int (-1)), zGL, h2) else (if zin (((5 : Int32) * v1) + v2) 300 = true then some (some (.int (h2.1 55 (((5 : Int32) * v1) + v2).toNatClampNeg)), zGL, h2) else none))))) := by
  have he : zEnt 188 [.ref 46, .int v1, .int v2] = [some (.ref 46), some (.int v1), some (.int v2)] := by unfold zEnt; rw [ml_188]; rfl
  unfold zRun
  rw [he]
  refine Eq.trans (ev_iload_n (pc := 0) k_188_0 rfl rfl) ?_
  refine Eq.trans (ev_i2l (pc := 1) k_188_1 rfl) ?_
  refine Eq.trans (ev_lconst (pc := 2) (v := 0) k_188_2 rfl (by decide)) ?_
  refine Eq.trans (ev_ldc2 (pc := 3) (v := 4) k_188_3 rfl) ?_
  refine Eq.trans (ev_si (pc := 6) (as := [.long v2.toInt64, .long 0, .long 4]) (rest := []) k_188_6 rfl rfl rfl (Nat.le_of_ble_eq_true rfl) (Nat.le_of_ble_eq_true rfl)) (z_cbi fun x1 h1 => ?_)
  refine Eq.trans (ev_ifne (pc := 9) k_188_9.1 rfl k_188_9.2) (z_ite ?_ ?_)
  · refine Eq.trans (ev_ldc (pc := 12) (v := (-1000000002)) k_188_12 rfl) ?_
    exact ev_ret_int k_188_14 rfl rt_188
  · refine Eq.trans (ev_iload_n (pc := 15) k_188_15 rfl rfl) ?_
    refine Eq.trans (ev_i2l (pc := 16) k_188_16 rfl) ?_
    refine Eq.trans (ev_lconst (pc := 17) (v := 0) k_188_17 rfl (by decide)) ?_
    refine Eq.trans (ev_aload_n (pc := 18) (x := 46) k_188_18 rfl rfl (by decide)) ?_
    refine Eq.trans (ev_getI (pc := 19) k_188_19 rfl zo_46.1) ?_
    refine Eq.trans (ev_iconst (pc := 22) (v := 1) k_188_22 rfl (by decide)) ?_
    refine Eq.trans (ev_isub (pc := 23) k_188_23 rfl) ?_
    refine Eq.trans (ev_i2l (pc := 24) k_188_24 rfl) ?_
    refine Eq.trans (ev_si (pc := 25) (as := [.long v1.toInt64, .long 0, .long (((h1.1 46 12) - (1 : Int32)).toInt64)]) (rest := []) k_188_25 rfl rfl rfl (Nat.le_of_ble_eq_true rfl) (Nat.le_of_ble_eq_true rfl)) (z_cbi fun x2 h2 => ?_)
    refine Eq.trans (ev_ifeq (pc := 28) k_188_28.1 rfl k_188_28.2) (z_ite ?_ ?_)
    · refine Eq.trans (ev_iconst (pc := 44) (v := (-1)) k_188_44 rfl (by decide)) ?_
      refine Eq.trans (ev_mk (pc := 45) (lv' := [none, none, none]) kd_188_45 rfl) ?_
      exact ev_ret_int k_188_45 rfl rt_188
    · refine Eq.trans (ev_aload_n (pc := 31) (x := 46) k_188_31 rfl rfl (by decide)) ?_
      refine Eq.trans (ev_getR (pc := 32) (b := 55) k_188_32 rfl zo_46.1 zg_46_13) ?_
      refine Eq.trans (ev_iconst (pc := 35) (v := 5) k_188_35 rfl (by decide)) ?_
      refine Eq.trans (ev_iload_n (pc := 36) k_188_36 rfl rfl) ?_
      refine Eq.trans (ev_imul (pc := 37) k_188_37 rfl) ?_
      refine Eq.trans (ev_iload_n (pc := 38) k_188_38 rfl rfl) ?_
      refine Eq.trans (ev_iadd (pc := 39) k_188_39 rfl) ?_
      refine Eq.trans (ev_iald_c (pc := 40) k_188_40 rfl za_55) (z_it1 ?_)
      refine Eq.trans (ev_goto (pc := 41) k_188_41.1 rfl k_188_41.2) ?_
      refine Eq.trans (ev_mk (pc := 45) (lv' := [none, none, none]) kd_188_45 rfl) ?_
      exact ev_ret_int k_188_45 rfl rt_188

set_option maxRecDepth 100000 in
theorem E_Mo_write (sc : zSc) (d : Nat) (h : zHp) (v1 : Int32) (v2 : Int32) (v3 : Int32) : zRun sc (d + 1) 189 [.ref 46, .int v1, .int v2, .int v3] zGL h = (zBi (zRun sc d 157 [.ref 46, .int v1, .int v2] zGL h) zGL fun x1 h1 => (if x1 = 0 then some (some (.int (-1000000001)), zGL, h1) else (zBi (zRun sc d 148 [.ref 46, .int v3] zGL h1) zGL fun x2 h2 => (if x2 = 0 then some (some (.int (-1000000001)), zGL, h2) else (if (h2.1 46 35) = (30 : Int32) then some (some (.int (-1000000004)), zGL, h2) else (if zin (h2.1 46 35) 30 = true then (if zin ((zPI h2 66 (h2.1 46 35).toNatClampNeg v1).1 46 35) 30 = true then (if zin ((zPI (zPI h2 66 (h2.1 46 35).toNatClampNeg v1) 67 ((zPI h2 66 (h2.1 46 35).toNatClampNeg v1).1 46 35).toNatClampNeg v2).1 46 35) 30 = true then some (some (.int ((zPI (zPI (zPI (zPI h2 66 (h2.1 46 35).toNatClampNeg v1) 67 ((zPI h2 66 (h2.1 46 35).toNatClampNeg v1).1 46 35).toNatClampNeg v2) 68 ((zPI (zPI h2 66 (h2.1 46 35).toNatClampNeg v1) 67 ((zPI h2 66 (h2.1 46 35).toNatClampNeg v1).1 46 35).toNatClampNeg v2).1 46 35).toNatClampNeg v3) 46 35 (((zPI (zPI (zPI h2 66 (h2.1 46 35).toNatClampNeg v1) 67 ((zPI h2 66 (h2.1 46 35).toNatClampNeg v1).1 46 35).toNatClampNeg v2) 68 ((zPI (zPI h2 66 (h2.1 46 35).toNatClampNeg v1) 67 ((zPI h2 66 (h2.1 46 35).toNatClampNeg v1).1 46 35).toNatClampNeg v2).1 46 35).toNatClampNeg v3).1 46 35) + (1 : Int32))).1 46 35)), zGL, zPI (zPI (zPI (zPI h2 66 (h2.1 46 35).toNatClampNeg v1) 67 ((zPI h2 66 (h2.1 46 35).toNatClampNeg v1).1 46 35).toNatClampNeg v2) 68 ((zPI (zPI h2 66 (h2.1 46 35).toNatClampNeg v1) 67 ((zPI h2 66 (h2.1 46 35).toNatClampNeg v1).1 46 35).toNatClampNeg v2).1 46 35).toNatClampNeg v3) 46 35 (((zPI (zPI (zPI h2 66 (h2.1 46 35).toNatClampNeg v1) 67 ((zPI h2 66 (h2.1 46 35).toNatClampNeg v1).1 46 35).toNatClampNeg v2) 68 ((zPI (zPI h2 66 (h2.1 46 35).toNatClampNeg v1) 67 ((zPI h2 66 (h2.1 46 35).toNatClampNeg v1).1 46 35).toNatClampNeg v2).1 46 35).toNatClampNeg v3).1 46 35) + (1 : Int32))) else none) else none) else none)))))) := by
  have he : zEnt 189 [.ref 46, .int v1, .int v2, .int v3] = [some (.ref 46), some (.int v1), some (.int v2), some (.int v3)] := by unfold zEnt; rw [ml_189]; rfl
  unfold zRun
  rw [he]
  refine Eq.trans (ev_aload_n (pc := 0) (x := 46) k_189_0 rfl rfl (by decide)) ?_
  refine Eq.trans (ev_iload_n (pc := 1) k_189_1 rfl rfl) ?_
  refine Eq.trans (ev_iload_n (pc := 2) k_189_2 rfl rfl) ?_
  refine Eq.trans (ev_vi (pc := 3) (as := [.int v1, .int v2]) (rest := []) k_189_3 rfl zo_46 rfl rfl (Nat.le_of_ble_eq_true rfl) (Nat.le_of_ble_eq_true rfl)) (z_cbi fun x1 h1 => ?_)
  refine Eq.trans (ev_ifeq (pc := 6) k_189_6.1 rfl k_189_6.2) (z_ite ?_ ?_)
  · refine Eq.trans (ev_mk (pc := 17) (lv' := [none, none, none, none]) kd_189_17 rfl) ?_
    refine Eq.trans (ev_ldc (pc := 17) (v := (-1000000001)) k_189_17 rfl) ?_
    exact ev_ret_int k_189_19 rfl rt_189
  · refine Eq.trans (ev_aload_n (pc := 9) (x := 46) k_189_9 rfl rfl (by decide)) ?_
    refine Eq.trans (ev_iload_n (pc := 10) k_189_10 rfl rfl) ?_
    refine Eq.trans (ev_vi (pc := 11) (as := [.int v3]) (rest := []) k_189_11 rfl zo_46 rfl rfl (Nat.le_of_ble_eq_true rfl) (Nat.le_of_ble_eq_true rfl)) (z_cbi fun x2 h2 => ?_)
    refine Eq.trans (ev_ifne (pc := 14) k_189_14.1 rfl k_189_14.2) (z_ite ?_ ?_)
    · refine Eq.trans (ev_mk (pc := 17) (lv' := [none, none, none, none]) kd_189_17 rfl) ?_
      refine Eq.trans (ev_ldc (pc := 17) (v := (-1000000001)) k_189_17 rfl) ?_
      exact ev_ret_int k_189_19 rfl rt_189
    · refine Eq.trans (ev_aload_n (pc := 20) (x := 46) k_189_20 rfl rfl (by decide)) ?_
      refine Eq.trans (ev_getI (pc := 21) k_189_21 rfl zo_46.1) ?_
      refine Eq.trans (ev_bipush (pc := 24) (v := 30) k_189_24 rfl (by decide)) ?_
      refine Eq.trans (ev_icne (pc := 26) k_189_26.1 rfl k_189_26.2) (z_ite ?_ ?_)
      · refine Eq.trans (ev_ldc (pc := 29) (v := (-1000000004)) k_189_29 rfl) ?_
        exact ev_ret_int k_189_31 rfl rt_189
      · refine Eq.trans (ev_aload_n (pc := 32) (x := 46) k_189_32 rfl rfl (by decide)) ?_
        refine Eq.trans (ev_getR (pc := 33) (b := 66) k_189_33 rfl zo_46.1 zg_46_36) ?_
        refine Eq.trans (ev_aload_n (pc := 36) (x := 46) k_189_36 rfl rfl (by decide)) ?_
        refine Eq.trans (ev_getI (pc := 37) k_189_37 rfl zo_46.1) ?_
        refine Eq.trans (ev_iload_n (pc := 40) k_189_40 rfl rfl) ?_
        refine Eq.trans (ev_iast_c (pc := 41) k_189_41 rfl za_66) (z_it1 ?_)
        refine Eq.trans (ev_aload_n (pc := 42) (x := 46) k_189_42 rfl rfl (by decide)) ?_
        refine Eq.trans (ev_getR (pc := 43) (b := 67) k_189_43 rfl zo_46.1 zg_46_37) ?_
        refine Eq.trans (ev_aload_n (pc := 46) (x := 46) k_189_46 rfl rfl (by decide)) ?_
        refine Eq.trans (ev_getI (pc := 47) k_189_47 rfl zo_46.1) ?_
        refine Eq.trans (ev_iload_n (pc := 50) k_189_50 rfl rfl) ?_
        refine Eq.trans (ev_iast_c (pc := 51) k_189_51 rfl za_67) (z_it1 ?_)
        refine Eq.trans (ev_aload_n (pc := 52) (x := 46) k_189_52 rfl rfl (by decide)) ?_
        refine Eq.trans (ev_getR (pc := 53) (b := 68) k_189_53 rfl zo_46.1 zg_46_38) ?_
        refine Eq.trans (ev_aload_n (pc := 56) (x := 46) k_189_56 rfl rfl (by decide)) ?_
        refine Eq.trans (ev_getI (pc := 57) k_189_57 rfl zo_46.1) ?_
        refine Eq.trans (ev_iload_n (pc := 60) k_189_60 rfl rfl) ?_
        refine Eq.trans (ev_iast_c (pc := 61) k_189_61 rfl za_68) (z_it1 ?_)
        refine Eq.trans (ev_aload_n (pc := 62) (x := 46) k_189_62 rfl rfl (by decide)) ?_
        refine Eq.trans (ev_dup (pc := 63) k_189_63 rfl rfl) ?_
        refine Eq.trans (ev_getI (pc := 64) k_189_64 rfl zo_46.1) ?_
        refine Eq.trans (ev_iconst (pc := 67) (v := 1) k_189_67 rfl (by decide)) ?_
        refine Eq.trans (ev_iadd (pc := 68) k_189_68 rfl) ?_
        refine Eq.trans (ev_putI (pc := 69) k_189_69 rfl zo_46.1) ?_
        refine Eq.trans (ev_aload_n (pc := 72) (x := 46) k_189_72 rfl rfl (by decide)) ?_
        refine Eq.trans (ev_getI (pc := 73) k_189_73 rfl zo_46.1) ?_
        exact ev_ret_int k_189_76 rfl rt_189

set_option maxRecDepth 100000 in
theorem E_Mo_tear (sc : zSc) (d : Nat) (h : zHp)  : zRun sc d 190 [.ref 46] zGL h = some (some (.int (h.1 46 35)), zGL, zPI h 46 35 0) := by
  have he : zEnt 190 [.ref 46] = [some (.ref 46), none] := by unfold zEnt; rw [ml_190]; rfl
  unfold zRun
  rw [he]
  refine Eq.trans (ev_aload_n (pc := 0) (x := 46) k_190_0 rfl rfl (by decide)) ?_
  refine Eq.trans (ev_getI (pc := 1) k_190_1 rfl zo_46.1) ?_
  refine Eq.trans (ev_istore_n (pc := 4) (lv' := [some (.ref 46), some (.int (h.1 46 35))]) k_190_4 rfl (Nat.le_of_ble_eq_true rfl) rfl) ?_
  refine Eq.trans (ev_aload_n (pc := 5) (x := 46) k_190_5 rfl rfl (by decide)) ?_
  refine Eq.trans (ev_iconst (pc := 6) (v := 0) k_190_6 rfl (by decide)) ?_
  refine Eq.trans (ev_putI (pc := 7) k_190_7 rfl zo_46.1) ?_
  refine Eq.trans (ev_iload_n (pc := 10) k_190_10 rfl rfl) ?_
  exact ev_ret_int k_190_11 rfl rt_190

set_option maxRecDepth 100000 in
theorem E_Mo_judge (sc : zSc) (d : Nat) (h : zHp)  : zRun sc (d + 1) 191 [.ref 46] zGL h = zE sc (d + 1) 191 2 [some (.ref 46), some (.int 0), none] [] zGL h := by
  have he : zEnt 191 [.ref 46] = [some (.ref 46), none, none] := by unfold zEnt; rw [ml_191]; rfl
  unfold zRun
  rw [he]
  refine Eq.trans (ev_iconst (pc := 0) (v := 0) k_191_0 rfl (by decide)) ?_
  refine Eq.trans (ev_istore_n (pc := 1) (lv' := [some (.ref 46), some (.int 0), none]) k_191_1 rfl (Nat.le_of_ble_eq_true rfl) rfl) ?_
  exact ev_mk kd_191_2 rfl

set_option maxRecDepth 100000 in
theorem E_Mo_judge_2 (sc : zSc) (d : Nat) (h : zHp) (v1 : Int32) : zE sc (d + 1) 191 2 [some (.ref 46), some (.int v1), none] [] zGL h = (if v1 < (5 : Int32) then (if zin v1 5 = true then (if zin v1 5 = true then zE sc (d + 1) 191 2 [some (.ref 46), some (.int (v1 + 1)), none] [] zGL (zPI h 69 v1.toNatClampNeg (h.1 51 v1.toNatClampNeg)) else none) else none) else zE sc (d + 1) 191 27 [some (.ref 46), some (.int 0), none] [] zGL h) := by
  refine Eq.trans (ev_iload_n (pc := 2) k_191_2 rfl rfl) ?_
  refine Eq.trans (ev_iconst (pc := 3) (v := 5) k_191_3 rfl (by decide)) ?_
  refine Eq.trans (ev_icge (pc := 4) k_191_4.1 rfl k_191_4.2) (z_ite ?_ ?_)
  · refine Eq.trans (ev_aload_n (pc := 7) (x := 46) k_191_7 rfl rfl (by decide)) ?_
    refine Eq.trans (ev_getR (pc := 8) (b := 69) k_191_8 rfl zo_46.1 zg_46_39) ?_
    refine Eq.trans (ev_iload_n (pc := 11) k_191_11 rfl rfl) ?_
    refine Eq.trans (ev_aload_n (pc := 12) (x := 46) k_191_12 rfl rfl (by decide)) ?_
    refine Eq.trans (ev_getR (pc := 13) (b := 51) k_191_13 rfl zo_46.1 zg_46_8) ?_
    refine Eq.trans (ev_iload_n (pc := 16) k_191_16 rfl rfl) ?_
    refine Eq.trans (ev_iald_c (pc := 17) k_191_17 rfl za_51) (z_it1 ?_)
    refine Eq.trans (ev_iast_c (pc := 18) k_191_18 rfl za_69) (z_it1 ?_)
    refine Eq.trans (ev_iinc (pc := 19) (v := 1) (lv' := [some (.ref 46), some (.int (v1 + 1)), none]) k_191_19 rfl rfl (by decide) rfl) ?_
    refine Eq.trans (ev_goto (pc := 22) k_191_22.1 rfl k_191_22.2) ?_
    exact ev_mk kd_191_2 rfl
  · refine Eq.trans (ev_iconst (pc := 25) (v := 0) k_191_25 rfl (by decide)) ?_
    refine Eq.trans (ev_istore_n (pc := 26) (lv' := [some (.ref 46), some (.int 0), none]) k_191_26 rfl (Nat.le_of_ble_eq_true rfl) rfl) ?_
    exact ev_mk kd_191_27 rfl

set_option maxRecDepth 100000 in
theorem E_Mo_judge_27 (sc : zSc) (d : Nat) (h : zHp) (v1 : Int32) : zE sc (d + 1) 191 27 [some (.ref 46), some (.int v1), none] [] zGL h = (if v1 < (h.1 46 35) then (if zin v1 30 = true then (if zin v1 30 = true then (if zin (h.1 66 v1.toNatClampNeg) 5 = true then (if zin v1 30 = true then (zBi (zRun sc d 129 [.int (h.1 69 (h.1 66 v1.toNatClampNeg).toNatClampNeg), .int (h.1 68 v1.toNatClampNeg)] zGL h) zGL fun x1 h1 => (if x1 = 0 then some (some (.int v1), zGL, h1) else (if zin (h.1 67 v1.toNatClampNeg) 5 = true then (if zin v1 30 = true then (zBi (zRun sc d 129 [.int (h1.1 69 (h.1 67 v1.toNatClampNeg).toNatClampNeg), .int (h1.1 68 v1.toNatClampNeg)] zGL h1) zGL fun x2 h2 => (if x2 = 0 then (if zin (h.1 67 v1.toNatClampNeg) 5 = true then (if zin v1 30 = true then (if zin ((h2.1 69 (h.1 67 v1.toNatClampNeg).toNatClampNeg) ||| ((1 : Int32) <<< ((h2.1 68 v1.toNatClampNeg) &&& 31))) 64 = true then (if zin (h.1 67 v1.toNatClampNeg) 5 = true then zE sc (d + 1) 191 27 [some (.ref 46), some (.int (v1 + 1)), none] [] zGL (zPI h2 69 (h.1 67 v1.toNatClampNeg).toNatClampNeg (h2.1 50 ((h2.1 69 (h.1 67 v1.toNatClampNeg).toNatClampNeg) ||| ((1 : Int32) <<< ((h2.1 68 v1.toNatClampNeg) &&& 31))).toNatClampNeg)) else none) else none) else none) else none) else some (some (.int v1), zGL, h2))) else none) else none))) else none) else none) else none) else none) else some (some (.int (-1)), zGL, h)) := by
  refine Eq.trans (ev_iload_n (pc := 27) k_191_27 rfl rfl) ?_
  refine Eq.trans (ev_aload_n (pc := 28) (x := 46) k_191_28 rfl rfl (by decide)) ?_
  refine Eq.trans (ev_getI (pc := 29) k_191_29 rfl zo_46.1) ?_
  refine Eq.trans (ev_icge (pc := 32) k_191_32.1 rfl k_191_32.2) (z_ite ?_ ?_)
  · refine Eq.trans (ev_aload_n (pc := 35) (x := 46) k_191_35 rfl rfl (by decide)) ?_
    refine Eq.trans (ev_getR (pc := 36) (b := 67) k_191_36 rfl zo_46.1 zg_46_37) ?_
    refine Eq.trans (ev_iload_n (pc := 39) k_191_39 rfl rfl) ?_
    refine Eq.trans (ev_iald_c (pc := 40) k_191_40 rfl za_67) (z_it1 ?_)
    refine Eq.trans (ev_istore_n (pc := 41) (lv' := [some (.ref 46), some (.int v1), some (.int (h.1 67 v1.toNatClampNeg))]) k_191_41 rfl (Nat.le_of_ble_eq_true rfl) rfl) ?_
    refine Eq.trans (ev_aload_n (pc := 42) (x := 46) k_191_42 rfl rfl (by decide)) ?_
    refine Eq.trans (ev_getR (pc := 43) (b := 69) k_191_43 rfl zo_46.1 zg_46_39) ?_
    refine Eq.trans (ev_aload_n (pc := 46) (x := 46) k_191_46 rfl rfl (by decide)) ?_
    refine Eq.trans (ev_getR (pc := 47) (b := 66) k_191_47 rfl zo_46.1 zg_46_36) ?_
    refine Eq.trans (ev_iload_n (pc := 50) k_191_50 rfl rfl) ?_
    refine Eq.trans (ev_iald_c (pc := 51) k_191_51 rfl za_66) (z_it1 ?_)
    refine Eq.trans (ev_iald_c (pc := 52) k_191_52 rfl za_69) (z_it1 ?_)
    refine Eq.trans (ev_aload_n (pc := 53) (x := 46) k_191_53 rfl rfl (by decide)) ?_
    refine Eq.trans (ev_getR (pc := 54) (b := 68) k_191_54 rfl zo_46.1 zg_46_38) ?_
    refine Eq.trans (ev_iload_n (pc := 57) k_191_57 rfl rfl) ?_
    refine Eq.trans (ev_iald_c (pc := 58) k_191_58 rfl za_68) (z_it1 ?_)
    refine Eq.trans (ev_si (pc := 59) (as := [.int (h.1 69 (h.1 66 v1.toNatClampNeg).toNatClampNeg), .int (h.1 68 v1.toNatClampNeg)]) (rest := []) k_191_59 rfl rfl rfl (Nat.le_of_ble_eq_true rfl) (Nat.le_of_ble_eq_true rfl)) (z_cbi fun x1 h1 => ?_)
    refine Eq.trans (ev_ifeq (pc := 62) k_191_62.1 rfl k_191_62.2) (z_ite ?_ ?_)
    · refine Eq.trans (ev_mk (pc := 83) (lv' := [none, some (.int v1), none]) kd_191_83 rfl) ?_
      refine Eq.trans (ev_iload_n (pc := 83) k_191_83 rfl rfl) ?_
      exact ev_ret_int k_191_84 rfl rt_191
    · refine Eq.trans (ev_aload_n (pc := 65) (x := 46) k_191_65 rfl rfl (by decide)) ?_
      refine Eq.trans (ev_getR (pc := 66) (b := 69) k_191_66 rfl zo_46.1 zg_46_39) ?_
      refine Eq.trans (ev_iload_n (pc := 69) k_191_69 rfl rfl) ?_
      refine Eq.trans (ev_iald_c (pc := 70) k_191_70 rfl za_69) (z_it1 ?_)
      refine Eq.trans (ev_aload_n (pc := 71) (x := 46) k_191_71 rfl rfl (by decide)) ?_
      refine Eq.trans (ev_getR (pc := 72) (b := 68) k_191_72 rfl zo_46.1 zg_46_38) ?_
      refine Eq.trans (ev_iload_n (pc := 75) k_191_75 rfl rfl) ?_
      refine Eq.trans (ev_iald_c (pc := 76) k_191_76 rfl za_68) (z_it1 ?_)
      refine Eq.trans (ev_si (pc := 77) (as := [.int (h1.1 69 (h.1 67 v1.toNatClampNeg).toNatClampNeg), .int (h1.1 68 v1.toNatClampNeg)]) (rest := []) k_191_77 rfl rfl rfl (Nat.le_of_ble_eq_true rfl) (Nat.le_of_ble_eq_true rfl)) (z_cbi fun x2 h2 => ?_)
      refine Eq.trans (ev_ifeq (pc := 80) k_191_80.1 rfl k_191_80.2) (z_ite ?_ ?_)
      · refine Eq.trans (ev_aload_n (pc := 85) (x := 46) k_191_85 rfl rfl (by decide)) ?_
        refine Eq.trans (ev_getR (pc := 86) (b := 69) k_191_86 rfl zo_46.1 zg_46_39) ?_
        refine Eq.trans (ev_iload_n (pc := 89) k_191_89 rfl rfl) ?_
        refine Eq.trans (ev_aload_n (pc := 90) (x := 46) k_191_90 rfl rfl (by decide)) ?_
        refine Eq.trans (ev_getR (pc := 91) (b := 50) k_191_91 rfl zo_46.1 zg_46_6) ?_
        refine Eq.trans (ev_aload_n (pc := 94) (x := 46) k_191_94 rfl rfl (by decide)) ?_
        refine Eq.trans (ev_getR (pc := 95) (b := 69) k_191_95 rfl zo_46.1 zg_46_39) ?_
        refine Eq.trans (ev_iload_n (pc := 98) k_191_98 rfl rfl) ?_
        refine Eq.trans (ev_iald_c (pc := 99) k_191_99 rfl za_69) (z_it1 ?_)
        refine Eq.trans (ev_iconst (pc := 100) (v := 1) k_191_100 rfl (by decide)) ?_
        refine Eq.trans (ev_aload_n (pc := 101) (x := 46) k_191_101 rfl rfl (by decide)) ?_
        refine Eq.trans (ev_getR (pc := 102) (b := 68) k_191_102 rfl zo_46.1 zg_46_38) ?_
        refine Eq.trans (ev_iload_n (pc := 105) k_191_105 rfl rfl) ?_
        refine Eq.trans (ev_iald_c (pc := 106) k_191_106 rfl za_68) (z_it1 ?_)
        refine Eq.trans (ev_ishl (pc := 107) k_191_107 rfl) ?_
        refine Eq.trans (ev_ior (pc := 108) k_191_108 rfl) ?_
        refine Eq.trans (ev_iald_c (pc := 109) k_191_109 rfl za_50) (z_it1 ?_)
        refine Eq.trans (ev_iast_c (pc := 110) k_191_110 rfl za_69) (z_it1 ?_)
        refine Eq.trans (ev_iinc (pc := 111) (v := 1) (lv' := [some (.ref 46), some (.int (v1 + 1)), some (.int (h.1 67 v1.toNatClampNeg))]) k_191_111 rfl rfl (by decide) rfl) ?_
        refine Eq.trans (ev_goto (pc := 114) k_191_114.1 rfl k_191_114.2) ?_
        exact ev_mk kd_191_27 rfl
      · refine Eq.trans (ev_mk (pc := 83) (lv' := [none, some (.int v1), none]) kd_191_83 rfl) ?_
        refine Eq.trans (ev_iload_n (pc := 83) k_191_83 rfl rfl) ?_
        exact ev_ret_int k_191_84 rfl rt_191
  · refine Eq.trans (ev_iconst (pc := 117) (v := (-1)) k_191_117 rfl (by decide)) ?_
    exact ev_ret_int k_191_118 rfl rt_191

set_option maxRecDepth 100000 in
theorem E_Mo_drift (sc : zSc) (d : Nat) (h : zHp) (v1 : Int32) (v2 : Int32) : zRun sc (d + 1) 192 [.ref 46, .int v1, .int v2] zGL h = (zBi (zRun sc d 132 [.long v1.toInt64, .long 1, .long 99] zGL h) zGL fun x1 h1 => (if x1 = 0 then some (some (.int (-1000000002)), zGL, h1) else (zBi (zRun sc d 132 [.long v2.toInt64, .long 0, .long 1000000] zGL h1) zGL fun x2 h2 => (if x2 = 0 then some (some (.int (-1000000002)), zGL, h2) else (if (h2.1 46 3) < (2 : Int32) then some (some (.int (-1000000003)), zGL, h2) else zE sc (d + 1) 192 44 [some (.ref 46), some (.int v1), some (.int v2), some (.int 0), some (.int 0), none, none, none, none] [] zGL h2))))) := by
  have he : zEnt 192 [.ref 46, .int v1, .int v2] = [some (.ref 46), some (.int v1), some (.int v2), none, none, none, none, none, none] := by unfold zEnt; rw [ml_192]; rfl
  unfold zRun
  rw [he]
  refine Eq.trans (ev_iload_n (pc := 0) k_192_0 rfl rfl) ?_
  refine Eq.trans (ev_i2l (pc := 1) k_192_1 rfl) ?_
  refine Eq.trans (ev_lconst (pc := 2) (v := 1) k_192_2 rfl (by decide)) ?_
  refine Eq.trans (ev_ldc2 (pc := 3) (v := 99) k_192_3 rfl) ?_
  refine Eq.trans (ev_si (pc := 6) (as := [.long v1.toInt64, .long 1, .long 99]) (rest := []) k_192_6 rfl rfl rfl (Nat.le_of_ble_eq_true rfl) (Nat.le_of_ble_eq_true rfl)) (z_cbi fun x1 h1 => ?_)
  refine Eq.trans (ev_ifeq (pc := 9) k_192_9.1 rfl k_192_9.2) (z_ite ?_ ?_)
  · refine Eq.trans (ev_mk (pc := 24) (lv' := [none, none, none, none, none, none, none, none, none]) kd_192_24 rfl) ?_
    refine Eq.trans (ev_ldc (pc := 24) (v := (-1000000002)) k_192_24 rfl) ?_
    exact ev_ret_int k_192_26 rfl rt_192
  · refine Eq.trans (ev_iload_n (pc := 12) k_192_12 rfl rfl) ?_
    refine Eq.trans (ev_i2l (pc := 13) k_192_13 rfl) ?_
    refine Eq.trans (ev_lconst (pc := 14) (v := 0) k_192_14 rfl (by decide)) ?_
    refine Eq.trans (ev_ldc2 (pc := 15) (v := 1000000) k_192_15 rfl) ?_
    refine Eq.trans (ev_si (pc := 18) (as := [.long v2.toInt64, .long 0, .long 1000000]) (rest := []) k_192_18 rfl rfl rfl (Nat.le_of_ble_eq_true rfl) (Nat.le_of_ble_eq_true rfl)) (z_cbi fun x2 h2 => ?_)
    refine Eq.trans (ev_ifne (pc := 21) k_192_21.1 rfl k_192_21.2) (z_ite ?_ ?_)
    · refine Eq.trans (ev_mk (pc := 24) (lv' := [none, none, none, none, none, none, none, none, none]) kd_192_24 rfl) ?_
      refine Eq.trans (ev_ldc (pc := 24) (v := (-1000000002)) k_192_24 rfl) ?_
      exact ev_ret_int k_192_26 rfl rt_192
    · refine Eq.trans (ev_aload_n (pc := 27) (x := 46) k_192_27 rfl rfl (by decide)) ?_
      refine Eq.trans (ev_getI (pc := 28) k_192_28 rfl zo_46.1) ?_
      refine Eq.trans (ev_iconst (pc := 31) (v := 2) k_192_31 rfl (by decide)) ?_
      refine Eq.trans (ev_icge (pc := 32) k_192_32.1 rfl k_192_32.2) (z_ite ?_ ?_)
      · refine Eq.trans (ev_ldcw (pc := 35) (v := (-1000000003)) k_192_35 rfl) ?_
        exact ev_ret_int k_192_38 rfl rt_192
      · refine Eq.trans (ev_iconst (pc := 39) (v := 0) k_192_39 rfl (by decide)) ?_
        refine Eq.trans (ev_istore_n (pc := 40) (lv' := [some (.ref 46), some (.int v1), some (.int v2), some (.int 0), none, none, none, none, none]) k_192_40 rfl (Nat.le_of_ble_eq_true rfl) rfl) ?_
        refine Eq.trans (ev_iconst (pc := 41) (v := 0) k_192_41 rfl (by decide)) ?_
        refine Eq.trans (ev_istore (pc := 42) (lv' := [some (.ref 46), some (.int v1), some (.int v2), some (.int 0), some (.int 0), none, none, none, none]) k_192_42 rfl (Nat.le_of_ble_eq_true rfl) rfl) ?_
        exact ev_mk kd_192_44 rfl

set_option maxRecDepth 100000 in
theorem E_Mo_drift_44 (sc : zSc) (d : Nat) (h : zHp) (v1 : Int32) (v2 : Int32) (v3 : Int32) (v4 : Int32) : zE sc (d + 1) 192 44 [some (.ref 46), some (.int v1), some (.int v2), some (.int v3), some (.int v4), none, none, none, none] [] zGL h = (if v4 < v1 then (zBi (zRun sc d 193 [.ref 46, .int (h.1 46 3)] zGL h) zGL fun x1 h1 => (zBi (zRun sc d 193 [.ref 46, .int ((h1.1 46 3) - (1 : Int32))] zGL h1) zGL fun x2 h2 => (if x2 < x1 then zE sc (d + 1) 192 86 [some (.ref 46), some (.int v1), some (.int v2), some (.int v3), some (.int v4), some (.int x1), none, none, none] [.int 0, .int x2] zGL h2 else zE sc (d + 1) 192 86 [some (.ref 46), some (.int v1), some (.int v2), some (.int v3), some (.int v4), some (.int x1), none, none, none] [.int 1, .int x2] zGL h2))) else some (some (.int v3), zGL, h)) := by
  refine Eq.trans (ev_iload (pc := 44) k_192_44 rfl rfl) ?_
  refine Eq.trans (ev_iload_n (pc := 46) k_192_46 rfl rfl) ?_
  refine Eq.trans (ev_icge (pc := 47) k_192_47.1 rfl k_192_47.2) (z_ite ?_ ?_)
  · refine Eq.trans (ev_aload_n (pc := 50) (x := 46) k_192_50 rfl rfl (by decide)) ?_
    refine Eq.trans (ev_aload_n (pc := 51) (x := 46) k_192_51 rfl rfl (by decide)) ?_
    refine Eq.trans (ev_getI (pc := 52) k_192_52 rfl zo_46.1) ?_
    refine Eq.trans (ev_vi (pc := 55) (as := [.int (h.1 46 3)]) (rest := []) k_192_55 rfl zo_46 rfl rfl (Nat.le_of_ble_eq_true rfl) (Nat.le_of_ble_eq_true rfl)) (z_cbi fun x1 h1 => ?_)
    refine Eq.trans (ev_istore (pc := 58) (lv' := [some (.ref 46), some (.int v1), some (.int v2), some (.int v3), some (.int v4), some (.int x1), none, none, none]) k_192_58 rfl (Nat.le_of_ble_eq_true rfl) rfl) ?_
    refine Eq.trans (ev_aload_n (pc := 60) (x := 46) k_192_60 rfl rfl (by decide)) ?_
    refine Eq.trans (ev_aload_n (pc := 61) (x := 46) k_192_61 rfl rfl (by decide)) ?_
    refine Eq.trans (ev_getI (pc := 62) k_192_62 rfl zo_46.1) ?_
    refine Eq.trans (ev_iconst (pc := 65) (v := 1) k_192_65 rfl (by decide)) ?_
    refine Eq.trans (ev_isub (pc := 66) k_192_66 rfl) ?_
    refine Eq.trans (ev_vi (pc := 67) (as := [.int ((h1.1 46 3) - (1 : Int32))]) (rest := []) k_192_67 rfl zo_46 rfl rfl (Nat.le_of_ble_eq_true rfl) (Nat.le_of_ble_eq_true rfl)) (z_cbi fun x2 h2 => ?_)
    refine Eq.trans (ev_istore (pc := 70) (lv' := [some (.ref 46), some (.int v1), some (.int v2), some (.int v3), some (.int v4), some (.int x1), some (.int x2), none, none]) k_192_70 rfl (Nat.le_of_ble_eq_true rfl) rfl) ?_
    refine Eq.trans (ev_iload (pc := 72) k_192_72 rfl rfl) ?_
    refine Eq.trans (ev_iload (pc := 74) k_192_74 rfl rfl) ?_
    refine Eq.trans (ev_iload (pc := 76) k_192_76 rfl rfl) ?_
    refine Eq.trans (ev_iclt (pc := 78) k_192_78.1 rfl k_192_78.2) (z_ite ?_ ?_)
    · refine Eq.trans (ev_iconst (pc := 85) (v := 0) k_192_85 rfl (by decide)) ?_
      exact ev_mk kd_192_86 rfl
    · refine Eq.trans (ev_iconst (pc := 81) (v := 1) k_192_81 rfl (by decide)) ?_
      refine Eq.trans (ev_goto (pc := 82) k_192_82.1 rfl k_192_82.2) ?_
      exact ev_mk kd_192_86 rfl
  · refine Eq.trans (ev_iload_n (pc := 163) k_192_163 rfl rfl) ?_
    exact ev_ret_int k_192_164 rfl rt_192

set_option maxRecDepth 100000 in
theorem E_Mo_drift_86 (sc : zSc) (d : Nat) (h : zHp) (v1 : Int32) (v2 : Int32) (v3 : Int32) (v4 : Int32) (v5 : Int32) (s0 : Int32) (s1 : Int32) : zE sc (d + 1) 192 86 [some (.ref 46), some (.int v1), some (.int v2), some (.int v3), some (.int v4), some (.int v5), none, none, none] [.int s0, .int s1] zGL h = (zBi (zRun sc d 170 [.ref 46, .int v5, .int (s1 + s0)] zGL h) zGL fun x1 h1 => (if x1 < 0 then zE sc (d + 1) 192 147 [some (.ref 46), some (.int v1), some (.int v2), some (.int v3), some (.int v4), some (.int v5), some (.int (s1 + s0)), none, none] [] zGL h1 else (zBi (zRun sc d 167 [.ref 46, .int v5, .int (s1 + s0), .int x1] zGL h1) zGL fun x2 h2 => (if x2 < v2 then zE sc (d + 1) 192 147 [some (.ref 46), some (.int v1), some (.int v2), some (.int v3), some (.int v4), some (.int v5), some (.int (s1 + s0)), none, none] [] zGL h2 else (zBi (zRun sc d 172 [.ref 46, .int v5, .int (s1 + s0), .int x1, .int 0] zGL h2) zGL fun x3 h3 => (if x3 = 0 then zE sc (d + 1) 192 44 [some (.ref 46), some (.int v1), some (.int v2), some (.int (v3 + (0 : Int32))), some (.int (v4 + 1)), none, none, none, none] [] zGL h3 else zE sc (d + 1) 192 44 [some (.ref 46), some (.int v1), some (.int v2), some (.int (v3 + (1 : Int32))), some (.int (v4 + 1)), none, none, none, none] [] zGL h3)))))) := by
  refine Eq.trans (ev_iadd (pc := 86) k_192_86 rfl) ?_
  refine Eq.trans (ev_istore (pc := 87) (lv' := [some (.ref 46), some (.int v1), some (.int v2), some (.int v3), some (.int v4), some (.int v5), some (.int (s1 + s0)), none, none]) k_192_87 rfl (Nat.le_of_ble_eq_true rfl) rfl) ?_
  refine Eq.trans (ev_aload_n (pc := 89) (x := 46) k_192_89 rfl rfl (by decide)) ?_
  refine Eq.trans (ev_iload (pc := 90) k_192_90 rfl rfl) ?_
  refine Eq.trans (ev_iload (pc := 92) k_192_92 rfl rfl) ?_
  refine Eq.trans (ev_vi (pc := 94) (as := [.int v5, .int (s1 + s0)]) (rest := []) k_192_94 rfl zo_46 rfl rfl (Nat.le_of_ble_eq_true rfl) (Nat.le_of_ble_eq_true rfl)) (z_cbi fun x1 h1 => ?_)
  refine Eq.trans (ev_istore (pc := 97) (lv' := [some (.ref 46), some (.int v1), some (.int v2), some (.int v3), some (.int v4), some (.int v5), some (.int (s1 + s0)), some (.int x1), none]) k_192_97 rfl (Nat.le_of_ble_eq_true rfl) rfl) ?_
  refine Eq.trans (ev_iload (pc := 99) k_192_99 rfl rfl) ?_
  refine Eq.trans (ev_iflt (pc := 101) k_192_101.1 rfl k_192_101.2) (z_ite ?_ ?_)
  · exact ev_mk kd_192_147 rfl
  · refine Eq.trans (ev_aload_n (pc := 104) (x := 46) k_192_104 rfl rfl (by decide)) ?_
    refine Eq.trans (ev_iload (pc := 105) k_192_105 rfl rfl) ?_
    refine Eq.trans (ev_iload (pc := 107) k_192_107 rfl rfl) ?_
    refine Eq.trans (ev_iload (pc := 109) k_192_109 rfl rfl) ?_
    refine Eq.trans (ev_vi (pc := 111) (as := [.int v5, .int (s1 + s0), .int x1]) (rest := []) k_192_111 rfl zo_46 rfl rfl (Nat.le_of_ble_eq_true rfl) (Nat.le_of_ble_eq_true rfl)) (z_cbi fun x2 h2 => ?_)
    refine Eq.trans (ev_iload_n (pc := 114) k_192_114 rfl rfl) ?_
    refine Eq.trans (ev_iclt (pc := 115) k_192_115.1 rfl k_192_115.2) (z_ite ?_ ?_)
    · exact ev_mk kd_192_147 rfl
    · refine Eq.trans (ev_aload_n (pc := 118) (x := 46) k_192_118 rfl rfl (by decide)) ?_
      refine Eq.trans (ev_iload (pc := 119) k_192_119 rfl rfl) ?_
      refine Eq.trans (ev_iload (pc := 121) k_192_121 rfl rfl) ?_
      refine Eq.trans (ev_iload (pc := 123) k_192_123 rfl rfl) ?_
      refine Eq.trans (ev_iconst (pc := 125) (v := 0) k_192_125 rfl (by decide)) ?_
      refine Eq.trans (ev_vi (pc := 126) (as := [.int v5, .int (s1 + s0), .int x1, .int 0]) (rest := []) k_192_126 rfl zo_46 rfl rfl (Nat.le_of_ble_eq_true rfl) (Nat.le_of_ble_eq_true rfl)) (z_cbi fun x3 h3 => ?_)
      refine Eq.trans (ev_istore (pc := 129) (lv' := [some (.ref 46), some (.int v1), some (.int v2), some (.int v3), some (.int v4), some (.int v5), some (.int (s1 + s0)), some (.int x1), some (.int x3)]) k_192_129 rfl (Nat.le_of_ble_eq_true rfl) rfl) ?_
      refine Eq.trans (ev_iload_n (pc := 131) k_192_131 rfl rfl) ?_
      refine Eq.trans (ev_iload (pc := 132) k_192_132 rfl rfl) ?_
      refine Eq.trans (ev_ifeq (pc := 134) k_192_134.1 rfl k_192_134.2) (z_ite ?_ ?_)
      · refine Eq.trans (ev_iconst (pc := 141) (v := 0) k_192_141 rfl (by decide)) ?_
        refine Eq.trans (ev_mk (pc := 142) (lv' := [some (.ref 46), some (.int v1), some (.int v2), none, some (.int v4), none, none, none, none]) kd_192_142 rfl) ?_
        refine Eq.trans (ev_iadd (pc := 142) k_192_142 rfl) ?_
        refine Eq.trans (ev_istore_n (pc := 143) (lv' := [some (.ref 46), some (.int v1), some (.int v2), some (.int (v3 + (0 : Int32))), some (.int v4), none, none, none, none]) k_192_143 rfl (Nat.le_of_ble_eq_true rfl) rfl) ?_
        refine Eq.trans (ev_goto (pc := 144) k_192_144.1 rfl k_192_144.2) ?_
        refine Eq.trans (ev_iinc (pc := 157) (v := 1) (lv' := [some (.ref 46), some (.int v1), some (.int v2), some (.int (v3 + (0 : Int32))), some (.int (v4 + 1)), none, none, none, none]) k_192_157 rfl rfl (by decide) rfl) ?_
        refine Eq.trans (ev_goto (pc := 160) k_192_160.1 rfl k_192_160.2) ?_
        exact ev_mk kd_192_44 rfl
      · refine Eq.trans (ev_iconst (pc := 137) (v := 1) k_192_137 rfl (by decide)) ?_
        refine Eq.trans (ev_goto (pc := 138) k_192_138.1 rfl k_192_138.2) ?_
        refine Eq.trans (ev_mk (pc := 142) (lv' := [some (.ref 46), some (.int v1), some (.int v2), none, some (.int v4), none, none, none, none]) kd_192_142 rfl) ?_
        refine Eq.trans (ev_iadd (pc := 142) k_192_142 rfl) ?_
        refine Eq.trans (ev_istore_n (pc := 143) (lv' := [some (.ref 46), some (.int v1), some (.int v2), some (.int (v3 + (1 : Int32))), some (.int v4), none, none, none, none]) k_192_143 rfl (Nat.le_of_ble_eq_true rfl) rfl) ?_
        refine Eq.trans (ev_goto (pc := 144) k_192_144.1 rfl k_192_144.2) ?_
        refine Eq.trans (ev_iinc (pc := 157) (v := 1) (lv' := [some (.ref 46), some (.int v1), some (.int v2), some (.int (v3 + (1 : Int32))), some (.int (v4 + 1)), none, none, none, none]) k_192_157 rfl rfl (by decide) rfl) ?_
        refine Eq.trans (ev_goto (pc := 160) k_192_160.1 rfl k_192_160.2) ?_
        exact ev_mk kd_192_44 rfl

set_option maxRecDepth 100000 in
theorem E_Mo_drift_147 (sc : zSc) (d : Nat) (h : zHp) (v1 : Int32) (v2 : Int32) (v3 : Int32) (v4 : Int32) (v5 : Int32) (v6 : Int32) : zE sc (d + 1) 192 147 [some (.ref 46), some (.int v1), some (.int v2), some (.int v3), some (.int v4), some (.int v5), some (.int v6), none, none] [] zGL h = (zBi (zRun sc d 175 [.ref 46, .int v5, .int v6] zGL h) zGL fun x1 h1 => zE sc (d + 1) 192 44 [some (.ref 46), some (.int v1), some (.int v2), some (.int v3), some (.int (v4 + 1)), none, none, none, none] [] zGL h1) := by
  refine Eq.trans (ev_aload_n (pc := 147) (x := 46) k_192_147 rfl rfl (by decide)) ?_
  refine Eq.trans (ev_iload (pc := 148) k_192_148 rfl rfl) ?_
  refine Eq.trans (ev_iload (pc := 150) k_192_150 rfl rfl) ?_
  refine Eq.trans (ev_vi (pc := 152) (as := [.int v5, .int v6]) (rest := []) k_192_152 rfl zo_46 rfl rfl (Nat.le_of_ble_eq_true rfl) (Nat.le_of_ble_eq_true rfl)) (z_cbi fun x1 h1 => ?_)
  refine Eq.trans (ev_istore (pc := 155) (lv' := [some (.ref 46), some (.int v1), some (.int v2), some (.int v3), some (.int v4), some (.int v5), some (.int v6), none, some (.int x1)]) k_192_155 rfl (Nat.le_of_ble_eq_true rfl) rfl) ?_
  refine Eq.trans (ev_mk (pc := 157) (lv' := [some (.ref 46), some (.int v1), some (.int v2), some (.int v3), some (.int v4), none, none, none, none]) kd_192_157 rfl) ?_
  refine Eq.trans (ev_iinc (pc := 157) (v := 1) (lv' := [some (.ref 46), some (.int v1), some (.int v2), some (.int v3), some (.int (v4 + 1)), none, none, none, none]) k_192_157 rfl rfl (by decide) rfl) ?_
  refine Eq.trans (ev_goto (pc := 160) k_192_160.1 rfl k_192_160.2) ?_
  exact ev_mk kd_192_44 rfl

set_option maxRecDepth 100000 in
theorem E_Mo_draw (sc : zSc) (d : Nat) (h : zHp) (v1 : Int32) : zRun sc d 193 [.ref 46, .int v1] zGL h = (if v1 = 0 then none else some (some (.int ((((zPI h 46 14 ((((((h.1 46 14).toInt64) * (1103515245 : Int64)) + (12345 : Int64)) - ((((h.1 46 14).toInt64) * (1103515245 : Int64)) + (12345 : Int64)) / (2147483648 : Int64) * (2147483648 : Int64)).toInt32)).1 46 14) / (65536 : Int32)) - (((zPI h 46 14 ((((((h.1 46 14).toInt64) * (1103515245 : Int64)) + (12345 : Int64)) - ((((h.1 46 14).toInt64) * (1103515245 : Int64)) + (12345 : Int64)) / (2147483648 : Int64) * (2147483648 : Int64)).toInt32)).1 46 14) / (65536 : Int32)) / v1 * v1)), zGL, zPI h 46 14 ((((((h.1 46 14).toInt64) * (1103515245 : Int64)) + (12345 : Int64)) - ((((h.1 46 14).toInt64) * (1103515245 : Int64)) + (12345 : Int64)) / (2147483648 : Int64) * (2147483648 : Int64)).toInt32))) := by
  have he : zEnt 193 [.ref 46, .int v1] = [some (.ref 46), some (.int v1)] := by unfold zEnt; rw [ml_193]; rfl
  unfold zRun
  rw [he]
  refine Eq.trans (ev_aload_n (pc := 0) (x := 46) k_193_0 rfl rfl (by decide)) ?_
  refine Eq.trans (ev_aload_n (pc := 1) (x := 46) k_193_1 rfl rfl (by decide)) ?_
  refine Eq.trans (ev_getI (pc := 2) k_193_2 rfl zo_46.1) ?_
  refine Eq.trans (ev_i2l (pc := 5) k_193_5 rfl) ?_
  refine Eq.trans (ev_ldc2 (pc := 6) (v := 1103515245) k_193_6 rfl) ?_
  refine Eq.trans (ev_lmul (pc := 9) k_193_9 rfl) ?_
  refine Eq.trans (ev_ldc2 (pc := 10) (v := 12345) k_193_10 rfl) ?_
  refine Eq.trans (ev_ladd (pc := 13) k_193_13 rfl) ?_
  refine Eq.trans (ev_ldc2 (pc := 14) (v := 2147483648) k_193_14 rfl) ?_
  refine Eq.trans (ev_lrem (pc := 17) k_193_17 rfl (by decide)) ?_
  refine Eq.trans (ev_l2i (pc := 18) k_193_18 rfl) ?_
  refine Eq.trans (ev_putI (pc := 19) k_193_19 rfl zo_46.1) ?_
  refine Eq.trans (ev_aload_n (pc := 22) (x := 46) k_193_22 rfl rfl (by decide)) ?_
  refine Eq.trans (ev_getI (pc := 23) k_193_23 rfl zo_46.1) ?_
  refine Eq.trans (ev_ldcw (pc := 26) (v := 65536) k_193_26 rfl) ?_
  refine Eq.trans (ev_idiv (pc := 29) k_193_29 rfl (by decide)) ?_
  refine Eq.trans (ev_iload_n (pc := 30) k_193_30 rfl rfl) ?_
  refine Eq.trans (ev_irem_c (pc := 31) k_193_31 rfl) (z_it2 ?_)
  exact ev_ret_int k_193_32 rfl rt_193

set_option maxRecDepth 100000 in
theorem E_Mo_seed (sc : zSc) (d : Nat) (h : zHp) (v1 : Int32) : zRun sc d 194 [.ref 46, .int v1] zGL h = (if v1 < 0 then some (some (.int (-1000000002)), zGL, h) else some (some (.int (h.1 46 14)), zGL, zPI h 46 14 v1)) := by
  have he : zEnt 194 [.ref 46, .int v1] = [some (.ref 46), some (.int v1), none] := by unfold zEnt; rw [ml_194]; rfl
  unfold zRun
  rw [he]
  refine Eq.trans (ev_iload_n (pc := 0) k_194_0 rfl rfl) ?_
  refine Eq.trans (ev_ifge (pc := 1) k_194_1.1 rfl k_194_1.2) (z_ite ?_ ?_)
  · refine Eq.trans (ev_ldc (pc := 4) (v := (-1000000002)) k_194_4 rfl) ?_
    exact ev_ret_int k_194_6 rfl rt_194
  · refine Eq.trans (ev_aload_n (pc := 7) (x := 46) k_194_7 rfl rfl (by decide)) ?_
    refine Eq.trans (ev_getI (pc := 8) k_194_8 rfl zo_46.1) ?_
    refine Eq.trans (ev_istore_n (pc := 11) (lv' := [some (.ref 46), some (.int v1), some (.int (h.1 46 14))]) k_194_11 rfl (Nat.le_of_ble_eq_true rfl) rfl) ?_
    refine Eq.trans (ev_aload_n (pc := 12) (x := 46) k_194_12 rfl rfl (by decide)) ?_
    refine Eq.trans (ev_iload_n (pc := 13) k_194_13 rfl rfl) ?_
    refine Eq.trans (ev_putI (pc := 14) k_194_14 rfl zo_46.1) ?_
    refine Eq.trans (ev_iload_n (pc := 17) k_194_17 rfl rfl) ?_
    exact ev_ret_int k_194_18 rfl rt_194

set_option maxRecDepth 100000 in
theorem E_Mo_keep (sc : zSc) (d : Nat) (h : zHp) (v1 : Int32) : zRun sc (d + 1) 195 [.ref 46, .int v1] zGL h = (zBi (zRun sc d 132 [.long v1.toInt64, .long 0, .long 1] zGL h) zGL fun x1 h1 => (if x1 = 0 then some (some (.int (-1000000001)), zGL, h1) else zE sc (d + 1) 195 21 [some (.ref 46), some (.int v1), some (.int ((320 : Int32) * v1)), some (.int 0)] [] zGL h1)) := by
  have he : zEnt 195 [.ref 46, .int v1] = [some (.ref 46), some (.int v1), none, none] := by unfold zEnt; rw [ml_195]; rfl
  unfold zRun
  rw [he]
  refine Eq.trans (ev_iload_n (pc := 0) k_195_0 rfl rfl) ?_
  refine Eq.trans (ev_i2l (pc := 1) k_195_1 rfl) ?_
  refine Eq.trans (ev_lconst (pc := 2) (v := 0) k_195_2 rfl (by decide)) ?_
  refine Eq.trans (ev_lconst (pc := 3) (v := 1) k_195_3 rfl (by decide)) ?_
  refine Eq.trans (ev_si (pc := 4) (as := [.long v1.toInt64, .long 0, .long 1]) (rest := []) k_195_4 rfl rfl rfl (Nat.le_of_ble_eq_true rfl) (Nat.le_of_ble_eq_true rfl)) (z_cbi fun x1 h1 => ?_)
  refine Eq.trans (ev_ifne (pc := 7) k_195_7.1 rfl k_195_7.2) (z_ite ?_ ?_)
  · refine Eq.trans (ev_ldc (pc := 10) (v := (-1000000001)) k_195_10 rfl) ?_
    exact ev_ret_int k_195_12 rfl rt_195
  · refine Eq.trans (ev_sipush (pc := 13) (v := 320) k_195_13 rfl (by decide)) ?_
    refine Eq.trans (ev_iload_n (pc := 16) k_195_16 rfl rfl) ?_
    refine Eq.trans (ev_imul (pc := 17) k_195_17 rfl) ?_
    refine Eq.trans (ev_istore_n (pc := 18) (lv' := [some (.ref 46), some (.int v1), some (.int ((320 : Int32) * v1)), none]) k_195_18 rfl (Nat.le_of_ble_eq_true rfl) rfl) ?_
    refine Eq.trans (ev_iconst (pc := 19) (v := 0) k_195_19 rfl (by decide)) ?_
    refine Eq.trans (ev_istore_n (pc := 20) (lv' := [some (.ref 46), some (.int v1), some (.int ((320 : Int32) * v1)), some (.int 0)]) k_195_20 rfl (Nat.le_of_ble_eq_true rfl) rfl) ?_
    exact ev_mk kd_195_21 rfl

set_option maxRecDepth 100000 in
theorem E_Mo_keep_21 (sc : zSc) (d : Nat) (h : zHp) (v1 : Int32) (v2 : Int32) (v3 : Int32) : zE sc (d + 1) 195 21 [some (.ref 46), some (.int v1), some (.int v2), some (.int v3)] [] zGL h = (if v3 < (5 : Int32) then (if zin v3 5 = true then (if zin (v2 + v3) 640 = true then (if zin v3 5 = true then (if zin ((v2 + (5 : Int32)) + v3) 640 = true then (if zin v3 5 = true then (if zin ((v2 + (10 : Int32)) + v3) 640 = true then zE sc (d + 1) 195 21 [some (.ref 46), some (.int v1), some (.int v2), some (.int (v3 + 1))] [] zGL (zPI (zPI (zPI h 70 (v2 + v3).toNatClampNeg (h.1 51 v3.toNatClampNeg)) 70 ((v2 + (5 : Int32)) + v3).toNatClampNeg ((zPI h 70 (v2 + v3).toNatClampNeg (h.1 51 v3.toNatClampNeg)).1 52 v3.toNatClampNeg)) 70 ((v2 + (10 : Int32)) + v3).toNatClampNeg ((zPI (zPI h 70 (v2 + v3).toNatClampNeg (h.1 51 v3.toNatClampNeg)) 70 ((v2 + (5 : Int32)) + v3).toNatClampNeg ((zPI h 70 (v2 + v3).toNatClampNeg (h.1 51 v3.toNatClampNeg)).1 52 v3.toNatClampNeg)).1 54 v3.toNatClampNeg)) else none) else none) else none) else none) else none) else none) else (if zin (v2 + (15 : Int32)) 640 = true then (if zin (v2 + (16 : Int32)) 640 = true then zE sc (d + 1) 195 107 [some (.ref 46), some (.int v1), some (.int v2), some (.int 0)] [] zGL (zPI (zPI h 70 (v2 + (15 : Int32)).toNatClampNeg (h.1 46 12)) 70 (v2 + (16 : Int32)).toNatClampNeg ((zPI h 70 (v2 + (15 : Int32)).toNatClampNeg (h.1 46 12)).1 46 14)) else none) else none)) := by
  refine Eq.trans (ev_iload_n (pc := 21) k_195_21 rfl rfl) ?_
  refine Eq.trans (ev_iconst (pc := 22) (v := 5) k_195_22 rfl (by decide)) ?_
  refine Eq.trans (ev_icge (pc := 23) k_195_23.1 rfl k_195_23.2) (z_ite ?_ ?_)
  · refine Eq.trans (ev_aload_n (pc := 26) (x := 46) k_195_26 rfl rfl (by decide)) ?_
    refine Eq.trans (ev_getR (pc := 27) (b := 70) k_195_27 rfl zo_46.1 zg_46_40) ?_
    refine Eq.trans (ev_iload_n (pc := 30) k_195_30 rfl rfl) ?_
    refine Eq.trans (ev_iload_n (pc := 31) k_195_31 rfl rfl) ?_
    refine Eq.trans (ev_iadd (pc := 32) k_195_32 rfl) ?_
    refine Eq.trans (ev_aload_n (pc := 33) (x := 46) k_195_33 rfl rfl (by decide)) ?_
    refine Eq.trans (ev_getR (pc := 34) (b := 51) k_195_34 rfl zo_46.1 zg_46_8) ?_
    refine Eq.trans (ev_iload_n (pc := 37) k_195_37 rfl rfl) ?_
    refine Eq.trans (ev_iald_c (pc := 38) k_195_38 rfl za_51) (z_it1 ?_)
    refine Eq.trans (ev_iast_c (pc := 39) k_195_39 rfl za_70) (z_it1 ?_)
    refine Eq.trans (ev_aload_n (pc := 40) (x := 46) k_195_40 rfl rfl (by decide)) ?_
    refine Eq.trans (ev_getR (pc := 41) (b := 70) k_195_41 rfl zo_46.1 zg_46_40) ?_
    refine Eq.trans (ev_iload_n (pc := 44) k_195_44 rfl rfl) ?_
    refine Eq.trans (ev_iconst (pc := 45) (v := 5) k_195_45 rfl (by decide)) ?_
    refine Eq.trans (ev_iadd (pc := 46) k_195_46 rfl) ?_
    refine Eq.trans (ev_iload_n (pc := 47) k_195_47 rfl rfl) ?_
    refine Eq.trans (ev_iadd (pc := 48) k_195_48 rfl) ?_
    refine Eq.trans (ev_aload_n (pc := 49) (x := 46) k_195_49 rfl rfl (by decide)) ?_
    refine Eq.trans (ev_getR (pc := 50) (b := 52) k_195_50 rfl zo_46.1 zg_46_9) ?_
    refine Eq.trans (ev_iload_n (pc := 53) k_195_53 rfl rfl) ?_
    refine Eq.trans (ev_iald_c (pc := 54) k_195_54 rfl za_52) (z_it1 ?_)
    refine Eq.trans (ev_iast_c (pc := 55) k_195_55 rfl za_70) (z_it1 ?_)
    refine Eq.trans (ev_aload_n (pc := 56) (x := 46) k_195_56 rfl rfl (by decide)) ?_
    refine Eq.trans (ev_getR (pc := 57) (b := 70) k_195_57 rfl zo_46.1 zg_46_40) ?_
    refine Eq.trans (ev_iload_n (pc := 60) k_195_60 rfl rfl) ?_
    refine Eq.trans (ev_bipush (pc := 61) (v := 10) k_195_61 rfl (by decide)) ?_
    refine Eq.trans (ev_iadd (pc := 63) k_195_63 rfl) ?_
    refine Eq.trans (ev_iload_n (pc := 64) k_195_64 rfl rfl) ?_
    refine Eq.trans (ev_iadd (pc := 65) k_195_65 rfl) ?_
    refine Eq.trans (ev_aload_n (pc := 66) (x := 46) k_195_66 rfl rfl (by decide)) ?_
    refine Eq.trans (ev_getR (pc := 67) (b := 54) k_195_67 rfl zo_46.1 zg_46_11) ?_
    refine Eq.trans (ev_iload_n (pc := 70) k_195_70 rfl rfl) ?_
    refine Eq.trans (ev_iald_c (pc := 71) k_195_71 rfl za_54) (z_it1 ?_)
    refine Eq.trans (ev_iast_c (pc := 72) k_195_72 rfl za_70) (z_it1 ?_)
    refine Eq.trans (ev_iinc (pc := 73) (v := 1) (lv' := [some (.ref 46), some (.int v1), some (.int v2), some (.int (v3 + 1))]) k_195_73 rfl rfl (by decide) rfl) ?_
    refine Eq.trans (ev_goto (pc := 76) k_195_76.1 rfl k_195_76.2) ?_
    exact ev_mk kd_195_21 rfl
  · refine Eq.trans (ev_aload_n (pc := 79) (x := 46) k_195_79 rfl rfl (by decide)) ?_
    refine Eq.trans (ev_getR (pc := 80) (b := 70) k_195_80 rfl zo_46.1 zg_46_40) ?_
    refine Eq.trans (ev_iload_n (pc := 83) k_195_83 rfl rfl) ?_
    refine Eq.trans (ev_bipush (pc := 84) (v := 15) k_195_84 rfl (by decide)) ?_
    refine Eq.trans (ev_iadd (pc := 86) k_195_86 rfl) ?_
    refine Eq.trans (ev_aload_n (pc := 87) (x := 46) k_195_87 rfl rfl (by decide)) ?_
    refine Eq.trans (ev_getI (pc := 88) k_195_88 rfl zo_46.1) ?_
    refine Eq.trans (ev_iast_c (pc := 91) k_195_91 rfl za_70) (z_it1 ?_)
    refine Eq.trans (ev_aload_n (pc := 92) (x := 46) k_195_92 rfl rfl (by decide)) ?_
    refine Eq.trans (ev_getR (pc := 93) (b := 70) k_195_93 rfl zo_46.1 zg_46_40) ?_
    refine Eq.trans (ev_iload_n (pc := 96) k_195_96 rfl rfl) ?_
    refine Eq.trans (ev_bipush (pc := 97) (v := 16) k_195_97 rfl (by decide)) ?_
    refine Eq.trans (ev_iadd (pc := 99) k_195_99 rfl) ?_
    refine Eq.trans (ev_aload_n (pc := 100) (x := 46) k_195_100 rfl rfl (by decide)) ?_
    refine Eq.trans (ev_getI (pc := 101) k_195_101 rfl zo_46.1) ?_
    refine Eq.trans (ev_iast_c (pc := 104) k_195_104 rfl za_70) (z_it1 ?_)
    refine Eq.trans (ev_iconst (pc := 105) (v := 0) k_195_105 rfl (by decide)) ?_
    refine Eq.trans (ev_istore_n (pc := 106) (lv' := [some (.ref 46), some (.int v1), some (.int v2), some (.int 0)]) k_195_106 rfl (Nat.le_of_ble_eq_true rfl) rfl) ?_
    exact ev_mk kd_195_107 rfl

set_option maxRecDepth 100000 in
theorem E_Mo_keep_107 (sc : zSc) (d : Nat) (h : zHp) (v1 : Int32) (v2 : Int32) (v3 : Int32) : zE sc (d + 1) 195 107 [some (.ref 46), some (.int v1), some (.int v2), some (.int v3)] [] zGL h = (if v3 < (300 : Int32) then (if zin v3 300 = true then (if zin ((v2 + (20 : Int32)) + v3) 640 = true then zE sc (d + 1) 195 107 [some (.ref 46), some (.int v1), some (.int v2), some (.int (v3 + 1))] [] zGL (zPI h 70 ((v2 + (20 : Int32)) + v3).toNatClampNeg (h.1 55 v3.toNatClampNeg)) else none) else none) else zE sc (d + 1) 195 139 [some (.ref 46), some (.int v1), none, some (.int 0)] [] zGL h) := by
  refine Eq.trans (ev_iload_n (pc := 107) k_195_107 rfl rfl) ?_
  refine Eq.trans (ev_sipush (pc := 108) (v := 300) k_195_108 rfl (by decide)) ?_
  refine Eq.trans (ev_icge (pc := 111) k_195_111.1 rfl k_195_111.2) (z_ite ?_ ?_)
  · refine Eq.trans (ev_aload_n (pc := 114) (x := 46) k_195_114 rfl rfl (by decide)) ?_
    refine Eq.trans (ev_getR (pc := 115) (b := 70) k_195_115 rfl zo_46.1 zg_46_40) ?_
    refine Eq.trans (ev_iload_n (pc := 118) k_195_118 rfl rfl) ?_
    refine Eq.trans (ev_bipush (pc := 119) (v := 20) k_195_119 rfl (by decide)) ?_
    refine Eq.trans (ev_iadd (pc := 121) k_195_121 rfl) ?_
    refine Eq.trans (ev_iload_n (pc := 122) k_195_122 rfl rfl) ?_
    refine Eq.trans (ev_iadd (pc := 123) k_195_123 rfl) ?_
    refine Eq.trans (ev_aload_n (pc := 124) (x := 46) k_195_124 rfl rfl (by decide)) ?_
    refine Eq.trans (ev_getR (pc := 125) (b := 55) k_195_125 rfl zo_46.1 zg_46_13) ?_
    refine Eq.trans (ev_iload_n (pc := 128) k_195_128 rfl rfl) ?_
    refine Eq.trans (ev_iald_c (pc := 129) k_195_129 rfl za_55) (z_it1 ?_)
    refine Eq.trans (ev_iast_c (pc := 130) k_195_130 rfl za_70) (z_it1 ?_)
    refine Eq.trans (ev_iinc (pc := 131) (v := 1) (lv' := [some (.ref 46), some (.int v1), some (.int v2), some (.int (v3 + 1))]) k_195_131 rfl rfl (by decide) rfl) ?_
    refine Eq.trans (ev_goto (pc := 134) k_195_134.1 rfl k_195_134.2) ?_
    exact ev_mk kd_195_107 rfl
  · refine Eq.trans (ev_iconst (pc := 137) (v := 0) k_195_137 rfl (by decide)) ?_
    refine Eq.trans (ev_istore_n (pc := 138) (lv' := [some (.ref 46), some (.int v1), some (.int v2), some (.int 0)]) k_195_138 rfl (Nat.le_of_ble_eq_true rfl) rfl) ?_
    exact ev_mk kd_195_139 rfl

set_option maxRecDepth 100000 in
theorem E_Mo_keep_139 (sc : zSc) (d : Nat) (h : zHp) (v1 : Int32) (v3 : Int32) : zE sc (d + 1) 195 139 [some (.ref 46), some (.int v1), none, some (.int v3)] [] zGL h = (if v3 < (25 : Int32) then (if zin v3 25 = true then (if zin (((25 : Int32) * v1) + v3) 50 = true then zE sc (d + 1) 195 139 [some (.ref 46), some (.int v1), none, some (.int (v3 + 1))] [] zGL (zPL h 71 (((25 : Int32) * v1) + v3).toNatClampNeg (h.2.1 53 v3.toNatClampNeg)) else none) else none) else (if zin v1 2 = true then some (some (.int 1), zGL, zPI h 72 v1.toNatClampNeg 1) else none)) := by
  refine Eq.trans (ev_iload_n (pc := 139) k_195_139 rfl rfl) ?_
  refine Eq.trans (ev_bipush (pc := 140) (v := 25) k_195_140 rfl (by decide)) ?_
  refine Eq.trans (ev_icge (pc := 142) k_195_142.1 rfl k_195_142.2) (z_ite ?_ ?_)
  · refine Eq.trans (ev_aload_n (pc := 145) (x := 46) k_195_145 rfl rfl (by decide)) ?_
    refine Eq.trans (ev_getR (pc := 146) (b := 71) k_195_146 rfl zo_46.1 zg_46_41) ?_
    refine Eq.trans (ev_bipush (pc := 149) (v := 25) k_195_149 rfl (by decide)) ?_
    refine Eq.trans (ev_iload_n (pc := 151) k_195_151 rfl rfl) ?_
    refine Eq.trans (ev_imul (pc := 152) k_195_152 rfl) ?_
    refine Eq.trans (ev_iload_n (pc := 153) k_195_153 rfl rfl) ?_
    refine Eq.trans (ev_iadd (pc := 154) k_195_154 rfl) ?_
    refine Eq.trans (ev_aload_n (pc := 155) (x := 46) k_195_155 rfl rfl (by decide)) ?_
    refine Eq.trans (ev_getR (pc := 156) (b := 53) k_195_156 rfl zo_46.1 zg_46_10) ?_
    refine Eq.trans (ev_iload_n (pc := 159) k_195_159 rfl rfl) ?_
    refine Eq.trans (ev_lald_c (pc := 160) k_195_160 rfl za_53) (z_it1 ?_)
    refine Eq.trans (ev_last_c (pc := 161) k_195_161 rfl za_71) (z_it1 ?_)
    refine Eq.trans (ev_iinc (pc := 162) (v := 1) (lv' := [some (.ref 46), some (.int v1), none, some (.int (v3 + 1))]) k_195_162 rfl rfl (by decide) rfl) ?_
    refine Eq.trans (ev_goto (pc := 165) k_195_165.1 rfl k_195_165.2) ?_
    exact ev_mk kd_195_139 rfl
  · refine Eq.trans (ev_aload_n (pc := 168) (x := 46) k_195_168 rfl rfl (by decide)) ?_
    refine Eq.trans (ev_getR (pc := 169) (b := 72) k_195_169 rfl zo_46.1 zg_46_42) ?_
    refine Eq.trans (ev_iload_n (pc := 172) k_195_172 rfl rfl) ?_
    refine Eq.trans (ev_iconst (pc := 173) (v := 1) k_195_173 rfl (by decide)) ?_
    refine Eq.trans (ev_bast_c (pc := 174) k_195_174 rfl za_72 (by decide)) (z_it1 ?_)
    refine Eq.trans (ev_iconst (pc := 175) (v := 1) k_195_175 rfl (by decide)) ?_
    exact ev_ret_int k_195_176 rfl rt_195

set_option maxRecDepth 100000 in
theorem E_Mo_goBack (sc : zSc) (d : Nat) (h : zHp) (v1 : Int32) : zRun sc (d + 1) 196 [.ref 46, .int v1] zGL h = (zBi (zRun sc d 132 [.long v1.toInt64, .long 0, .long 1] zGL h) zGL fun x1 h1 => (if x1 = 0 then some (some (.int (-1000000001)), zGL, h1) else (if zin v1 2 = true then (if (h1.1 72 v1.toNatClampNeg) = 0 then some (some (.int (-1000000003)), zGL, h1) else zE sc (d + 1) 196 34 [some (.ref 46), some (.int v1), some (.int ((320 : Int32) * v1)), some (.int 0)] [] zGL h1) else none))) := by
  have he : zEnt 196 [.ref 46, .int v1] = [some (.ref 46), some (.int v1), none, none] := by unfold zEnt; rw [ml_196]; rfl
  unfold zRun
  rw [he]
  refine Eq.trans (ev_iload_n (pc := 0) k_196_0 rfl rfl) ?_
  refine Eq.trans (ev_i2l (pc := 1) k_196_1 rfl) ?_
  refine Eq.trans (ev_lconst (pc := 2) (v := 0) k_196_2 rfl (by decide)) ?_
  refine Eq.trans (ev_lconst (pc := 3) (v := 1) k_196_3 rfl (by decide)) ?_
  refine Eq.trans (ev_si (pc := 4) (as := [.long v1.toInt64, .long 0, .long 1]) (rest := []) k_196_4 rfl rfl rfl (Nat.le_of_ble_eq_true rfl) (Nat.le_of_ble_eq_true rfl)) (z_cbi fun x1 h1 => ?_)
  refine Eq.trans (ev_ifne (pc := 7) k_196_7.1 rfl k_196_7.2) (z_ite ?_ ?_)
  · refine Eq.trans (ev_ldc (pc := 10) (v := (-1000000001)) k_196_10 rfl) ?_
    exact ev_ret_int k_196_12 rfl rt_196
  · refine Eq.trans (ev_aload_n (pc := 13) (x := 46) k_196_13 rfl rfl (by decide)) ?_
    refine Eq.trans (ev_getR (pc := 14) (b := 72) k_196_14 rfl zo_46.1 zg_46_42) ?_
    refine Eq.trans (ev_iload_n (pc := 17) k_196_17 rfl rfl) ?_
    refine Eq.trans (ev_bald_c (pc := 18) k_196_18 rfl za_72) (z_it1 ?_)
    refine Eq.trans (ev_ifne (pc := 19) k_196_19.1 rfl k_196_19.2) (z_ite ?_ ?_)
    · refine Eq.trans (ev_ldcw (pc := 22) (v := (-1000000003)) k_196_22 rfl) ?_
      exact ev_ret_int k_196_25 rfl rt_196
    · refine Eq.trans (ev_sipush (pc := 26) (v := 320) k_196_26 rfl (by decide)) ?_
      refine Eq.trans (ev_iload_n (pc := 29) k_196_29 rfl rfl) ?_
      refine Eq.trans (ev_imul (pc := 30) k_196_30 rfl) ?_
      refine Eq.trans (ev_istore_n (pc := 31) (lv' := [some (.ref 46), some (.int v1), some (.int ((320 : Int32) * v1)), none]) k_196_31 rfl (Nat.le_of_ble_eq_true rfl) rfl) ?_
      refine Eq.trans (ev_iconst (pc := 32) (v := 0) k_196_32 rfl (by decide)) ?_
      refine Eq.trans (ev_istore_n (pc := 33) (lv' := [some (.ref 46), some (.int v1), some (.int ((320 : Int32) * v1)), some (.int 0)]) k_196_33 rfl (Nat.le_of_ble_eq_true rfl) rfl) ?_
      exact ev_mk kd_196_34 rfl

set_option maxRecDepth 100000 in
theorem E_Mo_goBack_34 (sc : zSc) (d : Nat) (h : zHp) (v1 : Int32) (v2 : Int32) (v3 : Int32) : zE sc (d + 1) 196 34 [some (.ref 46), some (.int v1), some (.int v2), some (.int v3)] [] zGL h = (if v3 < (5 : Int32) then (if zin (v2 + v3) 640 = true then (if zin v3 5 = true then (if zin ((v2 + (5 : Int32)) + v3) 640 = true then (if zin v3 5 = true then (if zin ((v2 + (10 : Int32)) + v3) 640 = true then (if zin v3 5 = true then zE sc (d + 1) 196 34 [some (.ref 46), some (.int v1), some (.int v2), some (.int (v3 + 1))] [] zGL (zPI (zPI (zPI h 51 v3.toNatClampNeg (h.1 70 (v2 + v3).toNatClampNeg)) 52 v3.toNatClampNeg ((zPI h 51 v3.toNatClampNeg (h.1 70 (v2 + v3).toNatClampNeg)).1 70 ((v2 + (5 : Int32)) + v3).toNatClampNeg)) 54 v3.toNatClampNeg ((zPI (zPI h 51 v3.toNatClampNeg (h.1 70 (v2 + v3).toNatClampNeg)) 52 v3.toNatClampNeg ((zPI h 51 v3.toNatClampNeg (h.1 70 (v2 + v3).toNatClampNeg)).1 70 ((v2 + (5 : Int32)) + v3).toNatClampNeg)).1 70 ((v2 + (10 : Int32)) + v3).toNatClampNeg)) else none) else none) else none) else none) else none) else none) else (if zin (v2 + (15 : Int32)) 640 = true then (if zin (v2 + (16 : Int32)) 640 = true then zE sc (d + 1) 196 120 [some (.ref 46), some (.int v1), some (.int v2), some (.int 0)] [] zGL (zPI (zPI h 46 12 (h.1 70 (v2 + (15 : Int32)).toNatClampNeg)) 46 14 ((zPI h 46 12 (h.1 70 (v2 + (15 : Int32)).toNatClampNeg)).1 70 (v2 + (16 : Int32)).toNatClampNeg)) else none) else none)) := by
  refine Eq.trans (ev_iload_n (pc := 34) k_196_34 rfl rfl) ?_
  refine Eq.trans (ev_iconst (pc := 35) (v := 5) k_196_35 rfl (by decide)) ?_
  refine Eq.trans (ev_icge (pc := 36) k_196_36.1 rfl k_196_36.2) (z_ite ?_ ?_)
  · refine Eq.trans (ev_aload_n (pc := 39) (x := 46) k_196_39 rfl rfl (by decide)) ?_
    refine Eq.trans (ev_getR (pc := 40) (b := 51) k_196_40 rfl zo_46.1 zg_46_8) ?_
    refine Eq.trans (ev_iload_n (pc := 43) k_196_43 rfl rfl) ?_
    refine Eq.trans (ev_aload_n (pc := 44) (x := 46) k_196_44 rfl rfl (by decide)) ?_
    refine Eq.trans (ev_getR (pc := 45) (b := 70) k_196_45 rfl zo_46.1 zg_46_40) ?_
    refine Eq.trans (ev_iload_n (pc := 48) k_196_48 rfl rfl) ?_
    refine Eq.trans (ev_iload_n (pc := 49) k_196_49 rfl rfl) ?_
    refine Eq.trans (ev_iadd (pc := 50) k_196_50 rfl) ?_
    refine Eq.trans (ev_iald_c (pc := 51) k_196_51 rfl za_70) (z_it1 ?_)
    refine Eq.trans (ev_iast_c (pc := 52) k_196_52 rfl za_51) (z_it1 ?_)
    refine Eq.trans (ev_aload_n (pc := 53) (x := 46) k_196_53 rfl rfl (by decide)) ?_
    refine Eq.trans (ev_getR (pc := 54) (b := 52) k_196_54 rfl zo_46.1 zg_46_9) ?_
    refine Eq.trans (ev_iload_n (pc := 57) k_196_57 rfl rfl) ?_
    refine Eq.trans (ev_aload_n (pc := 58) (x := 46) k_196_58 rfl rfl (by decide)) ?_
    refine Eq.trans (ev_getR (pc := 59) (b := 70) k_196_59 rfl zo_46.1 zg_46_40) ?_
    refine Eq.trans (ev_iload_n (pc := 62) k_196_62 rfl rfl) ?_
    refine Eq.trans (ev_iconst (pc := 63) (v := 5) k_196_63 rfl (by decide)) ?_
    refine Eq.trans (ev_iadd (pc := 64) k_196_64 rfl) ?_
    refine Eq.trans (ev_iload_n (pc := 65) k_196_65 rfl rfl) ?_
    refine Eq.trans (ev_iadd (pc := 66) k_196_66 rfl) ?_
    refine Eq.trans (ev_iald_c (pc := 67) k_196_67 rfl za_70) (z_it1 ?_)
    refine Eq.trans (ev_iast_c (pc := 68) k_196_68 rfl za_52) (z_it1 ?_)
    refine Eq.trans (ev_aload_n (pc := 69) (x := 46) k_196_69 rfl rfl (by decide)) ?_
    refine Eq.trans (ev_getR (pc := 70) (b := 54) k_196_70 rfl zo_46.1 zg_46_11) ?_
    refine Eq.trans (ev_iload_n (pc := 73) k_196_73 rfl rfl) ?_
    refine Eq.trans (ev_aload_n (pc := 74) (x := 46) k_196_74 rfl rfl (by decide)) ?_
    refine Eq.trans (ev_getR (pc := 75) (b := 70) k_196_75 rfl zo_46.1 zg_46_40) ?_
    refine Eq.trans (ev_iload_n (pc := 78) k_196_78 rfl rfl) ?_
    refine Eq.trans (ev_bipush (pc := 79) (v := 10) k_196_79 rfl (by decide)) ?_
    refine Eq.trans (ev_iadd (pc := 81) k_196_81 rfl) ?_
    refine Eq.trans (ev_iload_n (pc := 82) k_196_82 rfl rfl) ?_
    refine Eq.trans (ev_iadd (pc := 83) k_196_83 rfl) ?_
    refine Eq.trans (ev_iald_c (pc := 84) k_196_84 rfl za_70) (z_it1 ?_)
    refine Eq.trans (ev_iast_c (pc := 85) k_196_85 rfl za_54) (z_it1 ?_)
    refine Eq.trans (ev_iinc (pc := 86) (v := 1) (lv' := [some (.ref 46), some (.int v1), some (.int v2), some (.int (v3 + 1))]) k_196_86 rfl rfl (by decide) rfl) ?_
    refine Eq.trans (ev_goto (pc := 89) k_196_89.1 rfl k_196_89.2) ?_
    exact ev_mk kd_196_34 rfl
  · refine Eq.trans (ev_aload_n (pc := 92) (x := 46) k_196_92 rfl rfl (by decide)) ?_
    refine Eq.trans (ev_aload_n (pc := 93) (x := 46) k_196_93 rfl rfl (by decide)) ?_
    refine Eq.trans (ev_getR (pc := 94) (b := 70) k_196_94 rfl zo_46.1 zg_46_40) ?_
    refine Eq.trans (ev_iload_n (pc := 97) k_196_97 rfl rfl) ?_
    refine Eq.trans (ev_bipush (pc := 98) (v := 15) k_196_98 rfl (by decide)) ?_
    refine Eq.trans (ev_iadd (pc := 100) k_196_100 rfl) ?_
    refine Eq.trans (ev_iald_c (pc := 101) k_196_101 rfl za_70) (z_it1 ?_)
    refine Eq.trans (ev_putI (pc := 102) k_196_102 rfl zo_46.1) ?_
    refine Eq.trans (ev_aload_n (pc := 105) (x := 46) k_196_105 rfl rfl (by decide)) ?_
    refine Eq.trans (ev_aload_n (pc := 106) (x := 46) k_196_106 rfl rfl (by decide)) ?_
    refine Eq.trans (ev_getR (pc := 107) (b := 70) k_196_107 rfl zo_46.1 zg_46_40) ?_
    refine Eq.trans (ev_iload_n (pc := 110) k_196_110 rfl rfl) ?_
    refine Eq.trans (ev_bipush (pc := 111) (v := 16) k_196_111 rfl (by decide)) ?_
    refine Eq.trans (ev_iadd (pc := 113) k_196_113 rfl) ?_
    refine Eq.trans (ev_iald_c (pc := 114) k_196_114 rfl za_70) (z_it1 ?_)
    refine Eq.trans (ev_putI (pc := 115) k_196_115 rfl zo_46.1) ?_
    refine Eq.trans (ev_iconst (pc := 118) (v := 0) k_196_118 rfl (by decide)) ?_
    refine Eq.trans (ev_istore_n (pc := 119) (lv' := [some (.ref 46), some (.int v1), some (.int v2), some (.int 0)]) k_196_119 rfl (Nat.le_of_ble_eq_true rfl) rfl) ?_
    exact ev_mk kd_196_120 rfl

set_option maxRecDepth 100000 in
theorem E_Mo_goBack_120 (sc : zSc) (d : Nat) (h : zHp) (v1 : Int32) (v2 : Int32) (v3 : Int32) : zE sc (d + 1) 196 120 [some (.ref 46), some (.int v1), some (.int v2), some (.int v3)] [] zGL h = (if v3 < (300 : Int32) then (if zin ((v2 + (20 : Int32)) + v3) 640 = true then (if zin v3 300 = true then zE sc (d + 1) 196 120 [some (.ref 46), some (.int v1), some (.int v2), some (.int (v3 + 1))] [] zGL (zPI h 55 v3.toNatClampNeg (h.1 70 ((v2 + (20 : Int32)) + v3).toNatClampNeg)) else none) else none) else zE sc (d + 1) 196 152 [some (.ref 46), some (.int v1), none, some (.int 0)] [] zGL h) := by
  refine Eq.trans (ev_iload_n (pc := 120) k_196_120 rfl rfl) ?_
  refine Eq.trans (ev_sipush (pc := 121) (v := 300) k_196_121 rfl (by decide)) ?_
  refine Eq.trans (ev_icge (pc := 124) k_196_124.1 rfl k_196_124.2) (z_ite ?_ ?_)
  · refine Eq.trans (ev_aload_n (pc := 127) (x := 46) k_196_127 rfl rfl (by decide)) ?_
    refine Eq.trans (ev_getR (pc := 128) (b := 55) k_196_128 rfl zo_46.1 zg_46_13) ?_
    refine Eq.trans (ev_iload_n (pc := 131) k_196_131 rfl rfl) ?_
    refine Eq.trans (ev_aload_n (pc := 132) (x := 46) k_196_132 rfl rfl (by decide)) ?_
    refine Eq.trans (ev_getR (pc := 133) (b := 70) k_196_133 rfl zo_46.1 zg_46_40) ?_
    refine Eq.trans (ev_iload_n (pc := 136) k_196_136 rfl rfl) ?_
    refine Eq.trans (ev_bipush (pc := 137) (v := 20) k_196_137 rfl (by decide)) ?_
    refine Eq.trans (ev_iadd (pc := 139) k_196_139 rfl) ?_
    refine Eq.trans (ev_iload_n (pc := 140) k_196_140 rfl rfl) ?_
    refine Eq.trans (ev_iadd (pc := 141) k_196_141 rfl) ?_
    refine Eq.trans (ev_iald_c (pc := 142) k_196_142 rfl za_70) (z_it1 ?_)
    refine Eq.trans (ev_iast_c (pc := 143) k_196_143 rfl za_55) (z_it1 ?_)
    refine Eq.trans (ev_iinc (pc := 144) (v := 1) (lv' := [some (.ref 46), some (.int v1), some (.int v2), some (.int (v3 + 1))]) k_196_144 rfl rfl (by decide) rfl) ?_
    refine Eq.trans (ev_goto (pc := 147) k_196_147.1 rfl k_196_147.2) ?_
    exact ev_mk kd_196_120 rfl
  · refine Eq.trans (ev_iconst (pc := 150) (v := 0) k_196_150 rfl (by decide)) ?_
    refine Eq.trans (ev_istore_n (pc := 151) (lv' := [some (.ref 46), some (.int v1), some (.int v2), some (.int 0)]) k_196_151 rfl (Nat.le_of_ble_eq_true rfl) rfl) ?_
    exact ev_mk kd_196_152 rfl

set_option maxRecDepth 100000 in
theorem E_Mo_goBack_152 (sc : zSc) (d : Nat) (h : zHp) (v1 : Int32) (v3 : Int32) : zE sc (d + 1) 196 152 [some (.ref 46), some (.int v1), none, some (.int v3)] [] zGL h = (if v3 < (25 : Int32) then (if zin (((25 : Int32) * v1) + v3) 50 = true then (if zin v3 25 = true then zE sc (d + 1) 196 152 [some (.ref 46), some (.int v1), none, some (.int (v3 + 1))] [] zGL (zPL h 53 v3.toNatClampNeg (h.2.1 71 (((25 : Int32) * v1) + v3).toNatClampNeg)) else none) else none) else some (some (.int 1), zGL, h)) := by
  refine Eq.trans (ev_iload_n (pc := 152) k_196_152 rfl rfl) ?_
  refine Eq.trans (ev_bipush (pc := 153) (v := 25) k_196_153 rfl (by decide)) ?_
  refine Eq.trans (ev_icge (pc := 155) k_196_155.1 rfl k_196_155.2) (z_ite ?_ ?_)
  · refine Eq.trans (ev_aload_n (pc := 158) (x := 46) k_196_158 rfl rfl (by decide)) ?_
    refine Eq.trans (ev_getR (pc := 159) (b := 53) k_196_159 rfl zo_46.1 zg_46_10) ?_
    refine Eq.trans (ev_iload_n (pc := 162) k_196_162 rfl rfl) ?_
    refine Eq.trans (ev_aload_n (pc := 163) (x := 46) k_196_163 rfl rfl (by decide)) ?_
    refine Eq.trans (ev_getR (pc := 164) (b := 71) k_196_164 rfl zo_46.1 zg_46_41) ?_
    refine Eq.trans (ev_bipush (pc := 167) (v := 25) k_196_167 rfl (by decide)) ?_
    refine Eq.trans (ev_iload_n (pc := 169) k_196_169 rfl rfl) ?_
    refine Eq.trans (ev_imul (pc := 170) k_196_170 rfl) ?_
    refine Eq.trans (ev_iload_n (pc := 171) k_196_171 rfl rfl) ?_
    refine Eq.trans (ev_iadd (pc := 172) k_196_172 rfl) ?_
    refine Eq.trans (ev_lald_c (pc := 173) k_196_173 rfl za_71) (z_it1 ?_)
    refine Eq.trans (ev_last_c (pc := 174) k_196_174 rfl za_53) (z_it1 ?_)
    refine Eq.trans (ev_iinc (pc := 175) (v := 1) (lv' := [some (.ref 46), some (.int v1), none, some (.int (v3 + 1))]) k_196_175 rfl rfl (by decide) rfl) ?_
    refine Eq.trans (ev_goto (pc := 178) k_196_178.1 rfl k_196_178.2) ?_
    exact ev_mk kd_196_152 rfl
  · refine Eq.trans (ev_iconst (pc := 181) (v := 1) k_196_181 rfl (by decide)) ?_
    exact ev_ret_int k_196_182 rfl rt_196


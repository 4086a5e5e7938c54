set_option maxRecDepth 100000 in
theorem E_Tk_begin (sc : zSc) (d : Nat) (g : zSg) (h : zHp) (a0 : Nat) (q0 : zS4 g a0) (a1 : Nat) (q1 : zS6 g a1) : zRun sc (d + 1) 17 [.ref a0, .ref a1] g h = zE sc (d + 1) 17 2 [some (.ref a0), some (.ref a1), some (.int 0), none] [] g h := by
  have he : zEnt 17 [.ref a0, .ref a1] = [some (.ref a0), some (.ref a1), none, none] := by unfold zEnt; rw [ml_17]; rfl
  unfold zRun
  rw [he]
  refine Eq.trans (ev_iconst (pc := 0) (v := 0) k_17_0 rfl (by decide)) ?_
  refine Eq.trans (ev_istore_n (pc := 1) (lv' := [some (.ref a0), some (.ref a1), some (.int 0), none]) k_17_1 rfl (Nat.le_of_ble_eq_true rfl) rfl) ?_
  exact ev_mk kd_17_2 rfl

set_option maxRecDepth 100000 in
theorem E_Tk_begin_2 (sc : zSc) (d : Nat) (g : zSg) (h : zHp) (a0 : Nat) (q0 : zS4 g a0) (a1 : Nat) (q1 : zS6 g a1) (v2 : Int32) : zE sc (d + 1) 17 2 [some (.ref a0), some (.ref a1), some (.int v2), none] [] g h = (if v2 < (h.1 a1 1) then (if zin v2 5 = true then (zBi (zRun sc d 18 [.ref a1, .int (h.1 (a1 + 3) v2.toNatClampNeg)] g h) g fun x1 h1 => (if zin v2 5 = true then (if zin v2 5 = true then (zBi (zRun sc d 15 [.ref a1, .int ((zPI h1 (a0 + 1) v2.toNatClampNeg x1).1 (a0 + 1) v2.toNatClampNeg)] g (zPI h1 (a0 + 1) v2.toNatClampNeg x1)) g fun x2 h2 => (if zin v2 5 = true then (if zin v2 5 = true then zE sc (d + 1) 17 2 [some (.ref a0), some (.ref a1), some (.int (v2 + 1)), none] [] g (zPI (zPI h2 (a0 + 2) v2.toNatClampNeg x2) (a0 + 3) v2.toNatClampNeg 0) else none) else none)) else none) else none)) else none) else zE sc (d + 1) 17 57 [some (.ref a0), some (.ref a1), some (.int 0), none] [] g h) := by
  refine Eq.trans (ev_iload_n (pc := 2) k_17_2 rfl rfl) ?_
  refine Eq.trans (ev_aload_n (pc := 3) (x := a1) k_17_3 rfl rfl (zIO_lt q1.1).2.2) ?_
  refine Eq.trans (ev_getI (pc := 4) k_17_4 rfl q1.1.1) ?_
  refine Eq.trans (ev_icge (pc := 7) k_17_7.1 rfl k_17_7.2) (z_ite ?_ ?_)
  · refine Eq.trans (ev_aload_n (pc := 10) (x := a0) k_17_10 rfl rfl (zIO_lt q0.1).2.2) ?_
    refine Eq.trans (ev_getR (pc := 11) (b := a0 + 1) k_17_11 rfl q0.1.1 q0.2.1) ?_
    refine Eq.trans (ev_iload_n (pc := 14) k_17_14 rfl rfl) ?_
    refine Eq.trans (ev_aload_n (pc := 15) (x := a1) k_17_15 rfl rfl (zIO_lt q1.1).2.2) ?_
    refine Eq.trans (ev_aload_n (pc := 16) (x := a1) k_17_16 rfl rfl (zIO_lt q1.1).2.2) ?_
    refine Eq.trans (ev_getR (pc := 17) (b := a1 + 3) k_17_17 rfl q1.1.1 q1.2.2.2.1) ?_
    refine Eq.trans (ev_iload_n (pc := 20) k_17_20 rfl rfl) ?_
    refine Eq.trans (ev_iald_c (pc := 21) k_17_21 rfl q1.2.2.2.2.2.2.2.2.1) (z_it1 ?_)
    refine Eq.trans (ev_vi (pc := 22) (as := [.int (h.1 (a1 + 3) v2.toNatClampNeg)]) (rest := [.int v2, .ref (a0 + 1)]) k_17_22 rfl q1.1 rfl rfl (Nat.le_of_ble_eq_true rfl) (Nat.le_of_ble_eq_true rfl)) (z_cbi fun x1 h1 => ?_)
    refine Eq.trans (ev_iast_c (pc := 25) k_17_25 rfl q0.2.2.2.2.2.2.1) (z_it1 ?_)
    refine Eq.trans (ev_aload_n (pc := 26) (x := a0) k_17_26 rfl rfl (zIO_lt q0.1).2.2) ?_
    refine Eq.trans (ev_getR (pc := 27) (b := a0 + 2) k_17_27 rfl q0.1.1 q0.2.2.1) ?_
    refine Eq.trans (ev_iload_n (pc := 30) k_17_30 rfl rfl) ?_
    refine Eq.trans (ev_aload_n (pc := 31) (x := a1) k_17_31 rfl rfl (zIO_lt q1.1).2.2) ?_
    refine Eq.trans (ev_aload_n (pc := 32) (x := a0) k_17_32 rfl rfl (zIO_lt q0.1).2.2) ?_
    refine Eq.trans (ev_getR (pc := 33) (b := a0 + 1) k_17_33 rfl q0.1.1 q0.2.1) ?_
    refine Eq.trans (ev_iload_n (pc := 36) k_17_36 rfl rfl) ?_
    refine Eq.trans (ev_iald_c (pc := 37) k_17_37 rfl q0.2.2.2.2.2.2.1) (z_it1 ?_)
    refine Eq.trans (ev_vi (pc := 38) (as := [.int ((zPI h1 (a0 + 1) v2.toNatClampNeg x1).1 (a0 + 1) v2.toNatClampNeg)]) (rest := [.int v2, .ref (a0 + 2)]) k_17_38 rfl q1.1 rfl rfl (Nat.le_of_ble_eq_true rfl) (Nat.le_of_ble_eq_true rfl)) (z_cbi fun x2 h2 => ?_)
    refine Eq.trans (ev_iast_c (pc := 41) k_17_41 rfl q0.2.2.2.2.2.2.2.1) (z_it1 ?_)
    refine Eq.trans (ev_aload_n (pc := 42) (x := a0) k_17_42 rfl rfl (zIO_lt q0.1).2.2) ?_
    refine Eq.trans (ev_getR (pc := 43) (b := a0 + 3) k_17_43 rfl q0.1.1 q0.2.2.2.1) ?_
    refine Eq.trans (ev_iload_n (pc := 46) k_17_46 rfl rfl) ?_
    refine Eq.trans (ev_iconst (pc := 47) (v := 0) k_17_47 rfl (by decide)) ?_
    refine Eq.trans (ev_iast_c (pc := 48) k_17_48 rfl q0.2.2.2.2.2.2.2.2.1) (z_it1 ?_)
    refine Eq.trans (ev_iinc (pc := 49) (v := 1) (lv' := [some (.ref a0), some (.ref a1), some (.int (v2 + 1)), none]) k_17_49 rfl rfl (by decide) rfl) ?_
    refine Eq.trans (ev_goto (pc := 52) k_17_52.1 rfl k_17_52.2) ?_
    exact ev_mk kd_17_2 rfl
  · refine Eq.trans (ev_iconst (pc := 55) (v := 0) k_17_55 rfl (by decide)) ?_
    refine Eq.trans (ev_istore_n (pc := 56) (lv' := [some (.ref a0), some (.ref a1), some (.int 0), none]) k_17_56 rfl (Nat.le_of_ble_eq_true rfl) rfl) ?_
    exact ev_mk kd_17_57 rfl

set_option maxRecDepth 100000 in
theorem E_Tk_begin_57 (sc : zSc) (d : Nat) (g : zSg) (h : zHp) (a0 : Nat) (q0 : zS4 g a0) (a1 : Nat) (q1 : zS6 g a1) (v2 : Int32) : zE sc (d + 1) 17 57 [some (.ref a0), some (.ref a1), some (.int v2), none] [] g h = (if v2 < (h.1 a1 1) then zE sc (d + 1) 17 67 [some (.ref a0), some (.ref a1), some (.int v2), some (.int 0)] [] g h else some (none, g, zPI h a0 5 0)) := by
  refine Eq.trans (ev_iload_n (pc := 57) k_17_57 rfl rfl) ?_
  refine Eq.trans (ev_aload_n (pc := 58) (x := a1) k_17_58 rfl rfl (zIO_lt q1.1).2.2) ?_
  refine Eq.trans (ev_getI (pc := 59) k_17_59 rfl q1.1.1) ?_
  refine Eq.trans (ev_icge (pc := 62) k_17_62.1 rfl k_17_62.2) (z_ite ?_ ?_)
  · refine Eq.trans (ev_iconst (pc := 65) (v := 0) k_17_65 rfl (by decide)) ?_
    refine Eq.trans (ev_istore_n (pc := 66) (lv' := [some (.ref a0), some (.ref a1), some (.int v2), some (.int 0)]) k_17_66 rfl (Nat.le_of_ble_eq_true rfl) rfl) ?_
    exact ev_mk kd_17_67 rfl
  · refine Eq.trans (ev_aload_n (pc := 107) (x := a0) k_17_107 rfl rfl (zIO_lt q0.1).2.2) ?_
    refine Eq.trans (ev_iconst (pc := 108) (v := 0) k_17_108 rfl (by decide)) ?_
    refine Eq.trans (ev_putI (pc := 109) k_17_109 rfl q0.1.1) ?_
    exact ev_ret_void k_17_112 rfl rt_17

set_option maxRecDepth 100000 in
theorem E_Tk_begin_67 (sc : zSc) (d : Nat) (g : zSg) (h : zHp) (a0 : Nat) (q0 : zS4 g a0) (a1 : Nat) (q1 : zS6 g a1) (v2 : Int32) (v3 : Int32) : zE sc (d + 1) 17 67 [some (.ref a0), some (.ref a1), some (.int v2), some (.int v3)] [] g h = (if v3 < (h.1 a1 1) then (if zin v3 5 = true then (zBj (zRun sc d 19 [.ref a1, .int (h.1 (a0 + 2) v3.toNatClampNeg)] g h) g fun x1 h1 => (if zin ((v2 * (5 : Int32)) + v3) 25 = true then zE sc (d + 1) 17 67 [some (.ref a0), some (.ref a1), some (.int v2), some (.int (v3 + 1))] [] g (zPL h1 (a0 + 4) ((v2 * (5 : Int32)) + v3).toNatClampNeg x1) else none)) else none) else zE sc (d + 1) 17 57 [some (.ref a0), some (.ref a1), some (.int (v2 + 1)), none] [] g h) := by
  refine Eq.trans (ev_iload_n (pc := 67) k_17_67 rfl rfl) ?_
  refine Eq.trans (ev_aload_n (pc := 68) (x := a1) k_17_68 rfl rfl (zIO_lt q1.1).2.2) ?_
  refine Eq.trans (ev_getI (pc := 69) k_17_69 rfl q1.1.1) ?_
  refine Eq.trans (ev_icge (pc := 72) k_17_72.1 rfl k_17_72.2) (z_ite ?_ ?_)
  · refine Eq.trans (ev_aload_n (pc := 75) (x := a0) k_17_75 rfl rfl (zIO_lt q0.1).2.2) ?_
    refine Eq.trans (ev_getR (pc := 76) (b := a0 + 4) k_17_76 rfl q0.1.1 q0.2.2.2.2.1) ?_
    refine Eq.trans (ev_iload_n (pc := 79) k_17_79 rfl rfl) ?_
    refine Eq.trans (ev_iconst (pc := 80) (v := 5) k_17_80 rfl (by decide)) ?_
    refine Eq.trans (ev_imul (pc := 81) k_17_81 rfl) ?_
    refine Eq.trans (ev_iload_n (pc := 82) k_17_82 rfl rfl) ?_
    refine Eq.trans (ev_iadd (pc := 83) k_17_83 rfl) ?_
    refine Eq.trans (ev_aload_n (pc := 84) (x := a1) k_17_84 rfl rfl (zIO_lt q1.1).2.2) ?_
    refine Eq.trans (ev_aload_n (pc := 85) (x := a0) k_17_85 rfl rfl (zIO_lt q0.1).2.2) ?_
    refine Eq.trans (ev_getR (pc := 86) (b := a0 + 2) k_17_86 rfl q0.1.1 q0.2.2.1) ?_
    refine Eq.trans (ev_iload_n (pc := 89) k_17_89 rfl rfl) ?_
    refine Eq.trans (ev_iald_c (pc := 90) k_17_90 rfl q0.2.2.2.2.2.2.2.1) (z_it1 ?_)
    refine Eq.trans (ev_vj (pc := 91) (as := [.int (h.1 (a0 + 2) v3.toNatClampNeg)]) (rest := [.int ((v2 * (5 : Int32)) + v3), .ref (a0 + 4)]) k_17_91 rfl q1.1 rfl rfl (Nat.le_of_ble_eq_true rfl) (Nat.le_of_ble_eq_true rfl)) (z_cbj fun x1 h1 => ?_)
    refine Eq.trans (ev_last_c (pc := 94) k_17_94 rfl q0.2.2.2.2.2.2.2.2.2.1) (z_it1 ?_)
    refine Eq.trans (ev_iinc (pc := 95) (v := 1) (lv' := [some (.ref a0), some (.ref a1), some (.int v2), some (.int (v3 + 1))]) k_17_95 rfl rfl (by decide) rfl) ?_
    refine Eq.trans (ev_goto (pc := 98) k_17_98.1 rfl k_17_98.2) ?_
    exact ev_mk kd_17_67 rfl
  · refine Eq.trans (ev_iinc (pc := 101) (v := 1) (lv' := [some (.ref a0), some (.ref a1), some (.int (v2 + 1)), some (.int v3)]) k_17_101 rfl rfl (by decide) rfl) ?_
    refine Eq.trans (ev_goto (pc := 104) k_17_104.1 rfl k_17_104.2) ?_
    exact ev_mk kd_17_57 rfl

set_option maxRecDepth 100000 in
theorem E_Tk_whoKnows (sc : zSc) (d : Nat) (g : zSg) (h : zHp) (a0 : Nat) (q0 : zS4 g a0) (a1 : Nat) (q1 : zS6 g a1) (v2 : Int32) : zRun sc (d + 1) 53 [.ref a0, .ref a1, .int v2] g h = zE sc (d + 1) 53 5 [some (.ref a0), some (.ref a1), some (.int v2), some (.int 0), some (.int 0)] [] g h := by
  have he : zEnt 53 [.ref a0, .ref a1, .int v2] = [some (.ref a0), some (.ref a1), some (.int v2), none, none] := by unfold zEnt; rw [ml_53]; rfl
  unfold zRun
  rw [he]
  refine Eq.trans (ev_iconst (pc := 0) (v := 0) k_53_0 rfl (by decide)) ?_
  refine Eq.trans (ev_istore_n (pc := 1) (lv' := [some (.ref a0), some (.ref a1), some (.int v2), some (.int 0), none]) k_53_1 rfl (Nat.le_of_ble_eq_true rfl) rfl) ?_
  refine Eq.trans (ev_iconst (pc := 2) (v := 0) k_53_2 rfl (by decide)) ?_
  refine Eq.trans (ev_istore (pc := 3) (lv' := [some (.ref a0), some (.ref a1), some (.int v2), some (.int 0), some (.int 0)]) k_53_3 rfl (Nat.le_of_ble_eq_true rfl) rfl) ?_
  exact ev_mk kd_53_5 rfl

set_option maxRecDepth 100000 in
theorem E_Tk_whoKnows_5 (sc : zSc) (d : Nat) (g : zSg) (h : zHp) (a0 : Nat) (q0 : zS4 g a0) (a1 : Nat) (q1 : zS6 g a1) (v2 : Int32) (v3 : Int32) (v4 : Int32) : zE sc (d + 1) 53 5 [some (.ref a0), some (.ref a1), some (.int v2), some (.int v3), some (.int v4)] [] g h = (if v4 < (h.1 a1 1) then (if zin v4 5 = true then (zBi (zRun sc d 11 [.int (h.1 (a0 + 1) v4.toNatClampNeg), .int v2] g h) g fun x1 h1 => (if x1 = 0 then zE sc (d + 1) 53 5 [some (.ref a0), some (.ref a1), some (.int v2), some (.int v3), some (.int (v4 + 1))] [] g h1 else zE sc (d + 1) 53 5 [some (.ref a0), some (.ref a1), some (.int v2), some (.int (v3 ||| ((1 : Int32) <<< (v4 &&& 31)))), some (.int (v4 + 1))] [] g h1)) else none) else some (some (.int v3), g, h)) := by
  refine Eq.trans (ev_iload (pc := 5) k_53_5 rfl rfl) ?_
  refine Eq.trans (ev_aload_n (pc := 7) (x := a1) k_53_7 rfl rfl (zIO_lt q1.1).2.2) ?_
  refine Eq.trans (ev_getI (pc := 8) k_53_8 rfl q1.1.1) ?_
  refine Eq.trans (ev_icge (pc := 11) k_53_11.1 rfl k_53_11.2) (z_ite ?_ ?_)
  · refine Eq.trans (ev_aload_n (pc := 14) (x := a0) k_53_14 rfl rfl (zIO_lt q0.1).2.2) ?_
    refine Eq.trans (ev_getR (pc := 15) (b := a0 + 1) k_53_15 rfl q0.1.1 q0.2.1) ?_
    refine Eq.trans (ev_iload (pc := 18) k_53_18 rfl rfl) ?_
    refine Eq.trans (ev_iald_c (pc := 20) k_53_20 rfl q0.2.2.2.2.2.2.1) (z_it1 ?_)
    refine Eq.trans (ev_iload_n (pc := 21) k_53_21 rfl rfl) ?_
    refine Eq.trans (ev_si (pc := 22) (as := [.int (h.1 (a0 + 1) v4.toNatClampNeg), .int v2]) (rest := []) k_53_22 rfl rfl rfl (Nat.le_of_ble_eq_true rfl) (Nat.le_of_ble_eq_true rfl)) (z_cbi fun x1 h1 => ?_)
    refine Eq.trans (ev_ifeq (pc := 25) k_53_25.1 rfl k_53_25.2) (z_ite ?_ ?_)
    · refine Eq.trans (ev_iinc (pc := 35) (v := 1) (lv' := [some (.ref a0), some (.ref a1), some (.int v2), some (.int v3), some (.int (v4 + 1))]) k_53_35 rfl rfl (by decide) rfl) ?_
      refine Eq.trans (ev_goto (pc := 38) k_53_38.1 rfl k_53_38.2) ?_
      exact ev_mk kd_53_5 rfl
    · refine Eq.trans (ev_iload_n (pc := 28) k_53_28 rfl rfl) ?_
      refine Eq.trans (ev_iconst (pc := 29) (v := 1) k_53_29 rfl (by decide)) ?_
      refine Eq.trans (ev_iload (pc := 30) k_53_30 rfl rfl) ?_
      refine Eq.trans (ev_ishl (pc := 32) k_53_32 rfl) ?_
      refine Eq.trans (ev_ior (pc := 33) k_53_33 rfl) ?_
      refine Eq.trans (ev_istore_n (pc := 34) (lv' := [some (.ref a0), some (.ref a1), some (.int v2), some (.int (v3 ||| ((1 : Int32) <<< (v4 &&& 31)))), some (.int v4)]) k_53_34 rfl (Nat.le_of_ble_eq_true rfl) rfl) ?_
      refine Eq.trans (ev_iinc (pc := 35) (v := 1) (lv' := [some (.ref a0), some (.ref a1), some (.int v2), some (.int (v3 ||| ((1 : Int32) <<< (v4 &&& 31)))), some (.int (v4 + 1))]) k_53_35 rfl rfl (by decide) rfl) ?_
      refine Eq.trans (ev_goto (pc := 38) k_53_38.1 rfl k_53_38.2) ?_
      exact ev_mk kd_53_5 rfl
  · refine Eq.trans (ev_iload_n (pc := 41) k_53_41 rfl rfl) ?_
    exact ev_ret_int k_53_42 rfl rt_53

set_option maxRecDepth 100000 in
theorem E_Tk_plainLack (sc : zSc) (d : Nat) (g : zSg) (h : zHp) (a0 : Nat) (q0 : zS4 g a0) (a1 : Nat) (q1 : zS6 g a1) (v2 : Int32) : zRun sc (d + 1) 56 [.ref a0, .ref a1, .int v2] g h = (if zin v2 5 = true then (zBj (zRun sc d 19 [.ref a1, .int (h.1 (a0 + 2) v2.toNatClampNeg)] g h) g fun x1 h1 => (zBi (zRun sc d 57 [.long x1, .int (h1.1 a1 0)] g h1) g fun x2 h2 => some (some (.int x2), g, h2))) else none) := by
  have he : zEnt 56 [.ref a0, .ref a1, .int v2] = [some (.ref a0), some (.ref a1), some (.int v2)] := by unfold zEnt; rw [ml_56]; rfl
  unfold zRun
  rw [he]
  refine Eq.trans (ev_aload_n (pc := 0) (x := a1) k_56_0 rfl rfl (zIO_lt q1.1).2.2) ?_
  refine Eq.trans (ev_aload_n (pc := 1) (x := a0) k_56_1 rfl rfl (zIO_lt q0.1).2.2) ?_
  refine Eq.trans (ev_getR (pc := 2) (b := a0 + 2) k_56_2 rfl q0.1.1 q0.2.2.1) ?_
  refine Eq.trans (ev_iload_n (pc := 5) k_56_5 rfl rfl) ?_
  refine Eq.trans (ev_iald_c (pc := 6) k_56_6 rfl q0.2.2.2.2.2.2.2.1) (z_it1 ?_)
  refine Eq.trans (ev_vj (pc := 7) (as := [.int (h.1 (a0 + 2) v2.toNatClampNeg)]) (rest := []) k_56_7 rfl q1.1 rfl rfl (Nat.le_of_ble_eq_true rfl) (Nat.le_of_ble_eq_true rfl)) (z_cbj fun x1 h1 => ?_)
  refine Eq.trans (ev_aload_n (pc := 10) (x := a1) k_56_10 rfl rfl (zIO_lt q1.1).2.2) ?_
  refine Eq.trans (ev_getI (pc := 11) k_56_11 rfl q1.1.1) ?_
  refine Eq.trans (ev_si (pc := 14) (as := [.long x1, .int (h1.1 a1 0)]) (rest := []) k_56_14 rfl rfl rfl (Nat.le_of_ble_eq_true rfl) (Nat.le_of_ble_eq_true rfl)) (z_cbi fun x2 h2 => ?_)
  exact ev_ret_int k_56_17 rfl rt_56

set_option maxRecDepth 100000 in
theorem E_Tk_view (sc : zSc) (d : Nat) (g : zSg) (h : zHp) (a0 : Nat) (q0 : zS4 g a0) (v1 : Int32) (v2 : Int32) : zRun sc d 62 [.ref a0, .int v1, .int v2] g h = (if v1 < 0 then zE sc d 62 22 [some (.ref a0), some (.int v1), some (.int v2), none] [] g h else (if v1 < (5 : Int32) then (if v2 < 0 then zE sc d 62 22 [some (.ref a0), some (.int v1), some (.int v2), none] [] g h else (if v2 < (5 : Int32) then zE sc d 62 23 [some (.ref a0), some (.int v1), some (.int v2), none] [.int 1] g h else zE sc d 62 22 [some (.ref a0), some (.int v1), some (.int v2), none] [] g h)) else zE sc d 62 22 [some (.ref a0), some (.int v1), some (.int v2), none] [] g h)) := by
  have he : zEnt 62 [.ref a0, .int v1, .int v2] = [some (.ref a0), some (.int v1), some (.int v2), none] := by unfold zEnt; rw [ml_62]; rfl
  unfold zRun
  rw [he]
  refine Eq.trans (ev_iload_n (pc := 0) k_62_0 rfl rfl) ?_
  refine Eq.trans (ev_iflt (pc := 1) k_62_1.1 rfl k_62_1.2) (z_ite ?_ ?_)
  · exact ev_mk kd_62_22 rfl
  · refine Eq.trans (ev_iload_n (pc := 4) k_62_4 rfl rfl) ?_
    refine Eq.trans (ev_iconst (pc := 5) (v := 5) k_62_5 rfl (by decide)) ?_
    refine Eq.trans (ev_icge (pc := 6) k_62_6.1 rfl k_62_6.2) (z_ite ?_ ?_)
    · refine Eq.trans (ev_iload_n (pc := 9) k_62_9 rfl rfl) ?_
      refine Eq.trans (ev_iflt (pc := 10) k_62_10.1 rfl k_62_10.2) (z_ite ?_ ?_)
      · exact ev_mk kd_62_22 rfl
      · refine Eq.trans (ev_iload_n (pc := 13) k_62_13 rfl rfl) ?_
        refine Eq.trans (ev_iconst (pc := 14) (v := 5) k_62_14 rfl (by decide)) ?_
        refine Eq.trans (ev_icge (pc := 15) k_62_15.1 rfl k_62_15.2) (z_ite ?_ ?_)
        · refine Eq.trans (ev_iconst (pc := 18) (v := 1) k_62_18 rfl (by decide)) ?_
          refine Eq.trans (ev_goto (pc := 19) k_62_19.1 rfl k_62_19.2) ?_
          exact ev_mk kd_62_23 rfl
        · exact ev_mk kd_62_22 rfl
    · exact ev_mk kd_62_22 rfl

set_option maxRecDepth 100000 in
theorem E_Tk_view_22 (sc : zSc) (d : Nat) (g : zSg) (h : zHp) (a0 : Nat) (q0 : zS4 g a0) (v1 : Int32) (v2 : Int32) : zE sc d 62 22 [some (.ref a0), some (.int v1), some (.int v2), none] [] g h = zE sc d 62 23 [some (.ref a0), some (.int v1), some (.int v2), none] [.int 0] g h := by
  refine Eq.trans (ev_iconst (pc := 22) (v := 0) k_62_22 rfl (by decide)) ?_
  exact ev_mk kd_62_23 rfl

set_option maxRecDepth 100000 in
theorem E_Tk_view_23 (sc : zSc) (d : Nat) (g : zSg) (h : zHp) (a0 : Nat) (q0 : zS4 g a0) (v1 : Int32) (v2 : Int32) (s0 : Int32) : zE sc d 62 23 [some (.ref a0), some (.int v1), some (.int v2), none] [.int s0] g h = (if s0 = 0 then some (some (.long 0), g, h) else (if zin ((v1 * (5 : Int32)) + v2) 25 = true then some (some (.long (h.2.1 (a0 + 4) ((v1 * (5 : Int32)) + v2).toNatClampNeg)), g, h) else none)) := by
  refine Eq.trans (ev_istore_n (pc := 23) (lv' := [some (.ref a0), some (.int v1), some (.int v2), some (.int s0)]) k_62_23 rfl (Nat.le_of_ble_eq_true rfl) rfl) ?_
  refine Eq.trans (ev_iload_n (pc := 24) k_62_24 rfl rfl) ?_
  refine Eq.trans (ev_ifeq (pc := 25) k_62_25.1 rfl k_62_25.2) (z_ite ?_ ?_)
  · refine Eq.trans (ev_lconst (pc := 41) (v := 0) k_62_41 rfl (by decide)) ?_
    refine Eq.trans (ev_mk (pc := 42) (lv' := [none, none, none, none]) kd_62_42 rfl) ?_
    exact ev_ret_long k_62_42 rfl rt_62
  · refine Eq.trans (ev_aload_n (pc := 28) (x := a0) k_62_28 rfl rfl (zIO_lt q0.1).2.2) ?_
    refine Eq.trans (ev_getR (pc := 29) (b := a0 + 4) k_62_29 rfl q0.1.1 q0.2.2.2.2.1) ?_
    refine Eq.trans (ev_iload_n (pc := 32) k_62_32 rfl rfl) ?_
    refine Eq.trans (ev_iconst (pc := 33) (v := 5) k_62_33 rfl (by decide)) ?_
    refine Eq.trans (ev_imul (pc := 34) k_62_34 rfl) ?_
    refine Eq.trans (ev_iload_n (pc := 35) k_62_35 rfl rfl) ?_
    refine Eq.trans (ev_iadd (pc := 36) k_62_36 rfl) ?_
    refine Eq.trans (ev_lald_c (pc := 37) k_62_37 rfl q0.2.2.2.2.2.2.2.2.2.1) (z_it1 ?_)
    refine Eq.trans (ev_goto (pc := 38) k_62_38.1 rfl k_62_38.2) ?_
    refine Eq.trans (ev_mk (pc := 42) (lv' := [none, none, none, none]) kd_62_42 rfl) ?_
    exact ev_ret_long k_62_42 rfl rt_62

set_option maxRecDepth 100000 in
theorem E_Tk_sureKnown (sc : zSc) (d : Nat) (g : zSg) (h : zHp) (a0 : Nat) (q0 : zS4 g a0) (a1 : Nat) (q1 : zS6 g a1) (v2 : Int32) (v3 : Int32) : zRun sc (d + 1) 65 [.ref a0, .ref a1, .int v2, .int v3] g h = (zBj (zRun sc d 62 [.ref a0, .int v2, .int v3] g h) g fun x1 h1 => (zBi (zRun sc d 66 [.long x1, .int (h1.1 a1 0)] g h1) g fun x2 h2 => some (some (.int x2), g, h2))) := by
  have he : zEnt 65 [.ref a0, .ref a1, .int v2, .int v3] = [some (.ref a0), some (.ref a1), some (.int v2), some (.int v3)] := by unfold zEnt; rw [ml_65]; rfl
  unfold zRun
  rw [he]
  refine Eq.trans (ev_aload_n (pc := 0) (x := a0) k_65_0 rfl rfl (zIO_lt q0.1).2.2) ?_
  refine Eq.trans (ev_iload_n (pc := 1) k_65_1 rfl rfl) ?_
  refine Eq.trans (ev_iload_n (pc := 2) k_65_2 rfl rfl) ?_
  refine Eq.trans (ev_vj (pc := 3) (as := [.int v2, .int v3]) (rest := []) k_65_3 rfl q0.1 rfl rfl (Nat.le_of_ble_eq_true rfl) (Nat.le_of_ble_eq_true rfl)) (z_cbj fun x1 h1 => ?_)
  refine Eq.trans (ev_aload_n (pc := 6) (x := a1) k_65_6 rfl rfl (zIO_lt q1.1).2.2) ?_
  refine Eq.trans (ev_getI (pc := 7) k_65_7 rfl q1.1.1) ?_
  refine Eq.trans (ev_si (pc := 10) (as := [.long x1, .int (h1.1 a1 0)]) (rest := []) k_65_10 rfl rfl rfl (Nat.le_of_ble_eq_true rfl) (Nat.le_of_ble_eq_true rfl)) (z_cbi fun x2 h2 => ?_)
  exact ev_ret_int k_65_13 rfl rt_65

set_option maxRecDepth 100000 in
theorem E_Tk_sureLacked (sc : zSc) (d : Nat) (g : zSg) (h : zHp) (a0 : Nat) (q0 : zS4 g a0) (a1 : Nat) (q1 : zS6 g a1) (v2 : Int32) (v3 : Int32) : zRun sc (d + 1) 67 [.ref a0, .ref a1, .int v2, .int v3] g h = (zBj (zRun sc d 62 [.ref a0, .int v2, .int v3] g h) g fun x1 h1 => (zBi (zRun sc d 57 [.long x1, .int (h1.1 a1 0)] g h1) g fun x2 h2 => some (some (.int x2), g, h2))) := by
  have he : zEnt 67 [.ref a0, .ref a1, .int v2, .int v3] = [some (.ref a0), some (.ref a1), some (.int v2), some (.int v3)] := by unfold zEnt; rw [ml_67]; rfl
  unfold zRun
  rw [he]
  refine Eq.trans (ev_aload_n (pc := 0) (x := a0) k_67_0 rfl rfl (zIO_lt q0.1).2.2) ?_
  refine Eq.trans (ev_iload_n (pc := 1) k_67_1 rfl rfl) ?_
  refine Eq.trans (ev_iload_n (pc := 2) k_67_2 rfl rfl) ?_
  refine Eq.trans (ev_vj (pc := 3) (as := [.int v2, .int v3]) (rest := []) k_67_3 rfl q0.1 rfl rfl (Nat.le_of_ble_eq_true rfl) (Nat.le_of_ble_eq_true rfl)) (z_cbj fun x1 h1 => ?_)
  refine Eq.trans (ev_aload_n (pc := 6) (x := a1) k_67_6 rfl rfl (zIO_lt q1.1).2.2) ?_
  refine Eq.trans (ev_getI (pc := 7) k_67_7 rfl q1.1.1) ?_
  refine Eq.trans (ev_si (pc := 10) (as := [.long x1, .int (h1.1 a1 0)]) (rest := []) k_67_10 rfl rfl rfl (Nat.le_of_ble_eq_true rfl) (Nat.le_of_ble_eq_true rfl)) (z_cbi fun x2 h2 => ?_)
  exact ev_ret_int k_67_13 rfl rt_67

set_option maxRecDepth 100000 in
theorem E_Tk_safeFacts (sc : zSc) (d : Nat) (g : zSg) (h : zHp) (a0 : Nat) (q0 : zS4 g a0) (a1 : Nat) (q1 : zS6 g a1) (v2 : Int32) (v3 : Int32) : zRun sc (d + 1) 69 [.ref a0, .ref a1, .int v2, .int v3] g h = (if zin v2 5 = true then (zBi (zRun sc d 67 [.ref a0, .ref a1, .int v2, .int v3] g h) g fun x1 h1 => some (some (.int ((h.1 (a0 + 1) v2.toNatClampNeg) &&& x1)), g, h1)) else none) := by
  have he : zEnt 69 [.ref a0, .ref a1, .int v2, .int v3] = [some (.ref a0), some (.ref a1), some (.int v2), some (.int v3)] := by unfold zEnt; rw [ml_69]; rfl
  unfold zRun
  rw [he]
  refine Eq.trans (ev_aload_n (pc := 0) (x := a0) k_69_0 rfl rfl (zIO_lt q0.1).2.2) ?_
  refine Eq.trans (ev_getR (pc := 1) (b := a0 + 1) k_69_1 rfl q0.1.1 q0.2.1) ?_
  refine Eq.trans (ev_iload_n (pc := 4) k_69_4 rfl rfl) ?_
  refine Eq.trans (ev_iald_c (pc := 5) k_69_5 rfl q0.2.2.2.2.2.2.1) (z_it1 ?_)
  refine Eq.trans (ev_aload_n (pc := 6) (x := a0) k_69_6 rfl rfl (zIO_lt q0.1).2.2) ?_
  refine Eq.trans (ev_aload_n (pc := 7) (x := a1) k_69_7 rfl rfl (zIO_lt q1.1).2.2) ?_
  refine Eq.trans (ev_iload_n (pc := 8) k_69_8 rfl rfl) ?_
  refine Eq.trans (ev_iload_n (pc := 9) k_69_9 rfl rfl) ?_
  refine Eq.trans (ev_vi (pc := 10) (as := [.ref a1, .int v2, .int v3]) (rest := [.int (h.1 (a0 + 1) v2.toNatClampNeg)]) k_69_10 rfl q0.1 rfl rfl (Nat.le_of_ble_eq_true rfl) (Nat.le_of_ble_eq_true rfl)) (z_cbi fun x1 h1 => ?_)
  refine Eq.trans (ev_iand (pc := 13) k_69_13 rfl) ?_
  exact ev_ret_int k_69_14 rfl rt_69

set_option maxRecDepth 100000 in
theorem E_Tk_chance (sc : zSc) (d : Nat) (g : zSg) (h : zHp) (a0 : Nat) (q0 : zS4 g a0) (v1 : Int32) (v2 : Int32) (v3 : Int32) : zRun sc (d + 1) 71 [.ref a0, .int v1, .int v2, .int v3] g h = (zBj (zRun sc d 62 [.ref a0, .int v1, .int v2] g h) g fun x1 h1 => (zBi (zRun sc d 50 [.long x1] g h1) g fun x2 h2 => (if x2 = 0 then some (some (.int 0), g, h2) else (zBj (zRun sc d 13 [.long x1, .int v3] g h2) g fun x3 h3 => (zBi (zRun sc d 50 [.long x3] g h3) g fun x4 h4 => (if x2 = 0 then none else some (some (.int ((x4 * (1000000 : Int32)) / x2)), g, h4))))))) := by
  have he : zEnt 71 [.ref a0, .int v1, .int v2, .int v3] = [some (.ref a0), some (.int v1), some (.int v2), some (.int v3), none, none, none] := by unfold zEnt; rw [ml_71]; rfl
  unfold zRun
  rw [he]
  refine Eq.trans (ev_aload_n (pc := 0) (x := a0) k_71_0 rfl rfl (zIO_lt q0.1).2.2) ?_
  refine Eq.trans (ev_iload_n (pc := 1) k_71_1 rfl rfl) ?_
  refine Eq.trans (ev_iload_n (pc := 2) k_71_2 rfl rfl) ?_
  refine Eq.trans (ev_vj (pc := 3) (as := [.int v1, .int v2]) (rest := []) k_71_3 rfl q0.1 rfl rfl (Nat.le_of_ble_eq_true rfl) (Nat.le_of_ble_eq_true rfl)) (z_cbj fun x1 h1 => ?_)
  refine Eq.trans (ev_lstore (pc := 6) (lv' := [some (.ref a0), some (.int v1), some (.int v2), some (.int v3), some (.long x1), none, none]) k_71_6 rfl (Nat.le_of_ble_eq_true rfl) rfl) ?_
  refine Eq.trans (ev_lload (pc := 8) k_71_8 rfl rfl) ?_
  refine Eq.trans (ev_si (pc := 10) (as := [.long x1]) (rest := []) k_71_10 rfl rfl rfl (Nat.le_of_ble_eq_true rfl) (Nat.le_of_ble_eq_true rfl)) (z_cbi fun x2 h2 => ?_)
  refine Eq.trans (ev_istore (pc := 13) (lv' := [some (.ref a0), some (.int v1), some (.int v2), some (.int v3), some (.long x1), none, some (.int x2)]) k_71_13 rfl (Nat.le_of_ble_eq_true rfl) rfl) ?_
  refine Eq.trans (ev_iload (pc := 15) k_71_15 rfl rfl) ?_
  refine Eq.trans (ev_ifne (pc := 17) k_71_17.1 rfl k_71_17.2) (z_ite ?_ ?_)
  · refine Eq.trans (ev_iconst (pc := 20) (v := 0) k_71_20 rfl (by decide)) ?_
    refine Eq.trans (ev_goto (pc := 21) k_71_21.1 rfl k_71_21.2) ?_
    refine Eq.trans (ev_mk (pc := 39) (lv' := [none, none, none, none, none, none, none]) kd_71_39 rfl) ?_
    exact ev_ret_int k_71_39 rfl rt_71
  · refine Eq.trans (ev_lload (pc := 24) k_71_24 rfl rfl) ?_
    refine Eq.trans (ev_iload_n (pc := 26) k_71_26 rfl rfl) ?_
    refine Eq.trans (ev_sj (pc := 27) (as := [.long x1, .int v3]) (rest := []) k_71_27 rfl rfl rfl (Nat.le_of_ble_eq_true rfl) (Nat.le_of_ble_eq_true rfl)) (z_cbj fun x3 h3 => ?_)
    refine Eq.trans (ev_si (pc := 30) (as := [.long x3]) (rest := []) k_71_30 rfl rfl rfl (Nat.le_of_ble_eq_true rfl) (Nat.le_of_ble_eq_true rfl)) (z_cbi fun x4 h4 => ?_)
    refine Eq.trans (ev_ldc (pc := 33) (v := 1000000) k_71_33 rfl) ?_
    refine Eq.trans (ev_imul (pc := 35) k_71_35 rfl) ?_
    refine Eq.trans (ev_iload (pc := 36) k_71_36 rfl rfl) ?_
    refine Eq.trans (ev_idiv_c (pc := 38) k_71_38 rfl) (z_it2 ?_)
    refine Eq.trans (ev_mk (pc := 39) (lv' := [none, none, none, none, none, none, none]) kd_71_39 rfl) ?_
    exact ev_ret_int k_71_39 rfl rt_71

set_option maxRecDepth 100000 in
theorem E_Tk_bestSaying (sc : zSc) (d : Nat) (g : zSg) (h : zHp) (a0 : Nat) (q0 : zS4 g a0) (a1 : Nat) (q1 : zS6 g a1) (v2 : Int32) (v3 : Int32) : zRun sc (d + 1) 73 [.ref a0, .ref a1, .int v2, .int v3] g h = zE sc (d + 1) 73 9 [some (.ref a0), some (.ref a1), some (.int v2), some (.int v3), some (.int (-1)), some (.int (-1)), some (.int 0)] [] g h := by
  have he : zEnt 73 [.ref a0, .ref a1, .int v2, .int v3] = [some (.ref a0), some (.ref a1), some (.int v2), some (.int v3), none, none, none] := by unfold zEnt; rw [ml_73]; rfl
  unfold zRun
  rw [he]
  refine Eq.trans (ev_iconst (pc := 0) (v := (-1)) k_73_0 rfl (by decide)) ?_
  refine Eq.trans (ev_istore (pc := 1) (lv' := [some (.ref a0), some (.ref a1), some (.int v2), some (.int v3), some (.int (-1)), none, none]) k_73_1 rfl (Nat.le_of_ble_eq_true rfl) rfl) ?_
  refine Eq.trans (ev_iconst (pc := 3) (v := (-1)) k_73_3 rfl (by decide)) ?_
  refine Eq.trans (ev_istore (pc := 4) (lv' := [some (.ref a0), some (.ref a1), some (.int v2), some (.int v3), some (.int (-1)), some (.int (-1)), none]) k_73_4 rfl (Nat.le_of_ble_eq_true rfl) rfl) ?_
  refine Eq.trans (ev_iconst (pc := 6) (v := 0) k_73_6 rfl (by decide)) ?_
  refine Eq.trans (ev_istore (pc := 7) (lv' := [some (.ref a0), some (.ref a1), some (.int v2), some (.int v3), some (.int (-1)), some (.int (-1)), some (.int 0)]) k_73_7 rfl (Nat.le_of_ble_eq_true rfl) rfl) ?_
  exact ev_mk kd_73_9 rfl

set_option maxRecDepth 100000 in
theorem E_Tk_bestSaying_9 (sc : zSc) (d : Nat) (g : zSg) (h : zHp) (a0 : Nat) (q0 : zS4 g a0) (a1 : Nat) (q1 : zS6 g a1) (v2 : Int32) (v3 : Int32) (v4 : Int32) (v5 : Int32) (v6 : Int32) : zE sc (d + 1) 73 9 [some (.ref a0), some (.ref a1), some (.int v2), some (.int v3), some (.int v4), some (.int v5), some (.int v6)] [] g h = (if v6 < (h.1 a1 0) then (if zin v2 5 = true then (zBi (zRun sc d 11 [.int (h.1 (a0 + 1) v2.toNatClampNeg), .int v6] g h) g fun x1 h1 => (if x1 = 0 then zE sc (d + 1) 73 9 [some (.ref a0), some (.ref a1), some (.int v2), some (.int v3), some (.int v4), some (.int v5), some (.int (v6 + 1))] [] g h1 else (zBi (zRun sc d 71 [.ref a0, .int v2, .int v3, .int v6] g h1) g fun x2 h2 => (if v5 < x2 then (zBi (zRun sc d 71 [.ref a0, .int v2, .int v3, .int v6] g h2) g fun x3 h3 => zE sc (d + 1) 73 9 [some (.ref a0), some (.ref a1), some (.int v2), some (.int v3), some (.int v6), some (.int x3), some (.int (v6 + 1))] [] g h3) else zE sc (d + 1) 73 9 [some (.ref a0), some (.ref a1), some (.int v2), some (.int v3), some (.int v4), some (.int v5), some (.int (v6 + 1))] [] g h2)))) else none) else some (some (.int v4), g, h)) := by
  refine Eq.trans (ev_iload (pc := 9) k_73_9 rfl rfl) ?_
  refine Eq.trans (ev_aload_n (pc := 11) (x := a1) k_73_11 rfl rfl (zIO_lt q1.1).2.2) ?_
  refine Eq.trans (ev_getI (pc := 12) k_73_12 rfl q1.1.1) ?_
  refine Eq.trans (ev_icge (pc := 15) k_73_15.1 rfl k_73_15.2) (z_ite ?_ ?_)
  · refine Eq.trans (ev_aload_n (pc := 18) (x := a0) k_73_18 rfl rfl (zIO_lt q0.1).2.2) ?_
    refine Eq.trans (ev_getR (pc := 19) (b := a0 + 1) k_73_19 rfl q0.1.1 q0.2.1) ?_
    refine Eq.trans (ev_iload_n (pc := 22) k_73_22 rfl rfl) ?_
    refine Eq.trans (ev_iald_c (pc := 23) k_73_23 rfl q0.2.2.2.2.2.2.1) (z_it1 ?_)
    refine Eq.trans (ev_iload (pc := 24) k_73_24 rfl rfl) ?_
    refine Eq.trans (ev_si (pc := 26) (as := [.int (h.1 (a0 + 1) v2.toNatClampNeg), .int v6]) (rest := []) k_73_26 rfl rfl rfl (Nat.le_of_ble_eq_true rfl) (Nat.le_of_ble_eq_true rfl)) (z_cbi fun x1 h1 => ?_)
    refine Eq.trans (ev_ifeq (pc := 29) k_73_29.1 rfl k_73_29.2) (z_ite ?_ ?_)
    · refine Eq.trans (ev_iinc (pc := 59) (v := 1) (lv' := [some (.ref a0), some (.ref a1), some (.int v2), some (.int v3), some (.int v4), some (.int v5), some (.int (v6 + 1))]) k_73_59 rfl rfl (by decide) rfl) ?_
      refine Eq.trans (ev_goto (pc := 62) k_73_62.1 rfl k_73_62.2) ?_
      exact ev_mk kd_73_9 rfl
    · refine Eq.trans (ev_aload_n (pc := 32) (x := a0) k_73_32 rfl rfl (zIO_lt q0.1).2.2) ?_
      refine Eq.trans (ev_iload_n (pc := 33) k_73_33 rfl rfl) ?_
      refine Eq.trans (ev_iload_n (pc := 34) k_73_34 rfl rfl) ?_
      refine Eq.trans (ev_iload (pc := 35) k_73_35 rfl rfl) ?_
      refine Eq.trans (ev_vi (pc := 37) (as := [.int v2, .int v3, .int v6]) (rest := []) k_73_37 rfl q0.1 rfl rfl (Nat.le_of_ble_eq_true rfl) (Nat.le_of_ble_eq_true rfl)) (z_cbi fun x2 h2 => ?_)
      refine Eq.trans (ev_iload (pc := 40) k_73_40 rfl rfl) ?_
      refine Eq.trans (ev_icle (pc := 42) k_73_42.1 rfl k_73_42.2) (z_ite ?_ ?_)
      · refine Eq.trans (ev_iload (pc := 45) k_73_45 rfl rfl) ?_
        refine Eq.trans (ev_istore (pc := 47) (lv' := [some (.ref a0), some (.ref a1), some (.int v2), some (.int v3), some (.int v6), some (.int v5), some (.int v6)]) k_73_47 rfl (Nat.le_of_ble_eq_true rfl) rfl) ?_
        refine Eq.trans (ev_aload_n (pc := 49) (x := a0) k_73_49 rfl rfl (zIO_lt q0.1).2.2) ?_
        refine Eq.trans (ev_iload_n (pc := 50) k_73_50 rfl rfl) ?_
        refine Eq.trans (ev_iload_n (pc := 51) k_73_51 rfl rfl) ?_
        refine Eq.trans (ev_iload (pc := 52) k_73_52 rfl rfl) ?_
        refine Eq.trans (ev_vi (pc := 54) (as := [.int v2, .int v3, .int v6]) (rest := []) k_73_54 rfl q0.1 rfl rfl (Nat.le_of_ble_eq_true rfl) (Nat.le_of_ble_eq_true rfl)) (z_cbi fun x3 h3 => ?_)
        refine Eq.trans (ev_istore (pc := 57) (lv' := [some (.ref a0), some (.ref a1), some (.int v2), some (.int v3), some (.int v6), some (.int x3), some (.int v6)]) k_73_57 rfl (Nat.le_of_ble_eq_true rfl) rfl) ?_
        refine Eq.trans (ev_iinc (pc := 59) (v := 1) (lv' := [some (.ref a0), some (.ref a1), some (.int v2), some (.int v3), some (.int v6), some (.int x3), some (.int (v6 + 1))]) k_73_59 rfl rfl (by decide) rfl) ?_
        refine Eq.trans (ev_goto (pc := 62) k_73_62.1 rfl k_73_62.2) ?_
        exact ev_mk kd_73_9 rfl
      · refine Eq.trans (ev_iinc (pc := 59) (v := 1) (lv' := [some (.ref a0), some (.ref a1), some (.int v2), some (.int v3), some (.int v4), some (.int v5), some (.int (v6 + 1))]) k_73_59 rfl rfl (by decide) rfl) ?_
        refine Eq.trans (ev_goto (pc := 62) k_73_62.1 rfl k_73_62.2) ?_
        exact ev_mk kd_73_9 rfl
  · refine Eq.trans (ev_iload (pc := 65) k_73_65 rfl rfl) ?_
    exact ev_ret_int k_73_67 rfl rt_73

set_option maxRecDepth 100000 in
theorem E_Tk_speak (sc : zSc) (d : Nat) (g : zSg) (h : zHp) (a0 : Nat) (q0 : zS4 g a0) (a1 : Nat) (q1 : zS6 g a1) (v2 : Int32) (v3 : Int32) (v4 : Int32) (v5 : Int32) : zRun sc (d + 1) 77 [.ref a0, .ref a1, .int v2, .int v3, .int v4, .int v5] g h = (if zin v3 5 = true then (zBi (zRun sc d 11 [.int (h.1 (a0 + 1) v3.toNatClampNeg), .int v4] g h) g fun x1 h1 => (if x1 = 0 then zE sc (d + 1) 77 19 [some (.ref a0), some (.ref a1), some (.int v2), some (.int v3), some (.int v4), some (.int v5), none, none] [.int 0] g h1 else zE sc (d + 1) 77 19 [some (.ref a0), some (.ref a1), some (.int v2), some (.int v3), some (.int v4), some (.int v5), none, none] [.int 1] g h1)) else none) := by
  have he : zEnt 77 [.ref a0, .ref a1, .int v2, .int v3, .int v4, .int v5] = [some (.ref a0), some (.ref a1), some (.int v2), some (.int v3), some (.int v4), some (.int v5), none, none] := by unfold zEnt; rw [ml_77]; rfl
  unfold zRun
  rw [he]
  refine Eq.trans (ev_aload_n (pc := 0) (x := a0) k_77_0 rfl rfl (zIO_lt q0.1).2.2) ?_
  refine Eq.trans (ev_getR (pc := 1) (b := a0 + 1) k_77_1 rfl q0.1.1 q0.2.1) ?_
  refine Eq.trans (ev_iload_n (pc := 4) k_77_4 rfl rfl) ?_
  refine Eq.trans (ev_iald_c (pc := 5) k_77_5 rfl q0.2.2.2.2.2.2.1) (z_it1 ?_)
  refine Eq.trans (ev_iload (pc := 6) k_77_6 rfl rfl) ?_
  refine Eq.trans (ev_si (pc := 8) (as := [.int (h.1 (a0 + 1) v3.toNatClampNeg), .int v4]) (rest := []) k_77_8 rfl rfl rfl (Nat.le_of_ble_eq_true rfl) (Nat.le_of_ble_eq_true rfl)) (z_cbi fun x1 h1 => ?_)
  refine Eq.trans (ev_ifeq (pc := 11) k_77_11.1 rfl k_77_11.2) (z_ite ?_ ?_)
  · refine Eq.trans (ev_iconst (pc := 18) (v := 0) k_77_18 rfl (by decide)) ?_
    exact ev_mk kd_77_19 rfl
  · refine Eq.trans (ev_iconst (pc := 14) (v := 1) k_77_14 rfl (by decide)) ?_
    refine Eq.trans (ev_goto (pc := 15) k_77_15.1 rfl k_77_15.2) ?_
    exact ev_mk kd_77_19 rfl

set_option maxRecDepth 100000 in
theorem E_Tk_speak_19 (sc : zSc) (d : Nat) (g : zSg) (h : zHp) (a0 : Nat) (q0 : zS4 g a0) (a1 : Nat) (q1 : zS6 g a1) (v2 : Int32) (v3 : Int32) (v4 : Int32) (v5 : Int32) (s0 : Int32) : zE sc (d + 1) 77 19 [some (.ref a0), some (.ref a1), some (.int v2), some (.int v3), some (.int v4), some (.int v5), none, none] [.int s0] g h = (zBv (zRun sc d 78 [.ref a0, .ref a1, .int v2, .int v3, .int v4, .int ((v5 ||| ((1 : Int32) <<< (v2 &&& 31))) ||| ((1 : Int32) <<< (v3 &&& 31)))] g h) g fun h1 => zE sc (d + 1) 77 43 [some (.ref a0), some (.ref a1), some (.int v2), some (.int v3), some (.int v4), some (.int v5), some (.int s0), some (.int 0)] [] g h1) := by
  refine Eq.trans (ev_istore (pc := 19) (lv' := [some (.ref a0), some (.ref a1), some (.int v2), some (.int v3), some (.int v4), some (.int v5), some (.int s0), none]) k_77_19 rfl (Nat.le_of_ble_eq_true rfl) rfl) ?_
  refine Eq.trans (ev_aload_n (pc := 21) (x := a0) k_77_21 rfl rfl (zIO_lt q0.1).2.2) ?_
  refine Eq.trans (ev_aload_n (pc := 22) (x := a1) k_77_22 rfl rfl (zIO_lt q1.1).2.2) ?_
  refine Eq.trans (ev_iload_n (pc := 23) k_77_23 rfl rfl) ?_
  refine Eq.trans (ev_iload_n (pc := 24) k_77_24 rfl rfl) ?_
  refine Eq.trans (ev_iload (pc := 25) k_77_25 rfl rfl) ?_
  refine Eq.trans (ev_iload (pc := 27) k_77_27 rfl rfl) ?_
  refine Eq.trans (ev_iconst (pc := 29) (v := 1) k_77_29 rfl (by decide)) ?_
  refine Eq.trans (ev_iload_n (pc := 30) k_77_30 rfl rfl) ?_
  refine Eq.trans (ev_ishl (pc := 31) k_77_31 rfl) ?_
  refine Eq.trans (ev_ior (pc := 32) k_77_32 rfl) ?_
  refine Eq.trans (ev_iconst (pc := 33) (v := 1) k_77_33 rfl (by decide)) ?_
  refine Eq.trans (ev_iload_n (pc := 34) k_77_34 rfl rfl) ?_
  refine Eq.trans (ev_ishl (pc := 35) k_77_35 rfl) ?_
  refine Eq.trans (ev_ior (pc := 36) k_77_36 rfl) ?_
  refine Eq.trans (ev_vv (pc := 37) (as := [.ref a1, .int v2, .int v3, .int v4, .int ((v5 ||| ((1 : Int32) <<< (v2 &&& 31))) ||| ((1 : Int32) <<< (v3 &&& 31)))]) (rest := []) k_77_37 rfl q0.1 rfl rfl (Nat.le_of_ble_eq_true rfl) (Nat.le_of_ble_eq_true rfl)) (z_cbv fun h1 => ?_)
  refine Eq.trans (ev_iconst (pc := 40) (v := 0) k_77_40 rfl (by decide)) ?_
  refine Eq.trans (ev_istore (pc := 41) (lv' := [some (.ref a0), some (.ref a1), some (.int v2), some (.int v3), some (.int v4), some (.int v5), some (.int s0), some (.int 0)]) k_77_41 rfl (Nat.le_of_ble_eq_true rfl) rfl) ?_
  exact ev_mk kd_77_43 rfl

set_option maxRecDepth 100000 in
theorem E_Tk_speak_43 (sc : zSc) (d : Nat) (g : zSg) (h : zHp) (a0 : Nat) (q0 : zS4 g a0) (a1 : Nat) (q1 : zS6 g a1) (v2 : Int32) (v3 : Int32) (v4 : Int32) (v5 : Int32) (v6 : Int32) (v7 : Int32) : zE sc (d + 1) 77 43 [some (.ref a0), some (.ref a1), some (.int v2), some (.int v3), some (.int v4), some (.int v5), some (.int v6), some (.int v7)] [] g h = (if v7 < (h.1 a1 1) then (if v7 = v3 then zE sc (d + 1) 77 68 [some (.ref a0), some (.ref a1), some (.int v2), some (.int v3), some (.int v4), some (.int v5), some (.int v6), some (.int v7)] [] g h else (zBi (zRun sc d 11 [.int v5, .int v7] g h) g fun x1 h1 => (if x1 = 0 then zE sc (d + 1) 77 43 [some (.ref a0), some (.ref a1), some (.int v2), some (.int v3), some (.int v4), some (.int v5), some (.int v6), some (.int (v7 + 1))] [] g h1 else zE sc (d + 1) 77 68 [some (.ref a0), some (.ref a1), some (.int v2), some (.int v3), some (.int v4), some (.int v5), some (.int v6), some (.int v7)] [] g h1))) else (if zin v2 5 = true then (if zin v2 5 = true then (if ((zPI h (a0 + 3) v2.toNatClampNeg ((h.1 (a0 + 3) v2.toNatClampNeg) + v6)).1 a0 5) < (60 : Int32) then (zBv (zRun sc d 82 [.ref a0, .int v2, .int v3, .int v4, .int v5, .int v6] g (zPI h (a0 + 3) v2.toNatClampNeg ((h.1 (a0 + 3) v2.toNatClampNeg) + v6))) g fun h2 => some (some (.int v6), g, h2)) else some (some (.int v6), g, zPI h (a0 + 3) v2.toNatClampNeg ((h.1 (a0 + 3) v2.toNatClampNeg) + v6))) else none) else none)) := by
  refine Eq.trans (ev_iload (pc := 43) k_77_43 rfl rfl) ?_
  refine Eq.trans (ev_aload_n (pc := 45) (x := a1) k_77_45 rfl rfl (zIO_lt q1.1).2.2) ?_
  refine Eq.trans (ev_getI (pc := 46) k_77_46 rfl q1.1.1) ?_
  refine Eq.trans (ev_icge (pc := 49) k_77_49.1 rfl k_77_49.2) (z_ite ?_ ?_)
  · refine Eq.trans (ev_iload (pc := 52) k_77_52 rfl rfl) ?_
    refine Eq.trans (ev_iload_n (pc := 54) k_77_54 rfl rfl) ?_
    refine Eq.trans (ev_iceq (pc := 55) k_77_55.1 rfl k_77_55.2) (z_ite ?_ ?_)
    · exact ev_mk kd_77_68 rfl
    · refine Eq.trans (ev_iload (pc := 58) k_77_58 rfl rfl) ?_
      refine Eq.trans (ev_iload (pc := 60) k_77_60 rfl rfl) ?_
      refine Eq.trans (ev_si (pc := 62) (as := [.int v5, .int v7]) (rest := []) k_77_62 rfl rfl rfl (Nat.le_of_ble_eq_true rfl) (Nat.le_of_ble_eq_true rfl)) (z_cbi fun x1 h1 => ?_)
      refine Eq.trans (ev_ifeq (pc := 65) k_77_65.1 rfl k_77_65.2) (z_ite ?_ ?_)
      · refine Eq.trans (ev_iinc (pc := 91) (v := 1) (lv' := [some (.ref a0), some (.ref a1), some (.int v2), some (.int v3), some (.int v4), some (.int v5), some (.int v6), some (.int (v7 + 1))]) k_77_91 rfl rfl (by decide) rfl) ?_
        refine Eq.trans (ev_goto (pc := 94) k_77_94.1 rfl k_77_94.2) ?_
        exact ev_mk kd_77_43 rfl
      · exact ev_mk kd_77_68 rfl
  · refine Eq.trans (ev_aload_n (pc := 97) (x := a0) k_77_97 rfl rfl (zIO_lt q0.1).2.2) ?_
    refine Eq.trans (ev_getR (pc := 98) (b := a0 + 3) k_77_98 rfl q0.1.1 q0.2.2.2.1) ?_
    refine Eq.trans (ev_iload_n (pc := 101) k_77_101 rfl rfl) ?_
    refine Eq.trans (ev_dup2 (pc := 102) k_77_102 rfl rfl rfl) ?_
    refine Eq.trans (ev_iald_c (pc := 103) k_77_103 rfl q0.2.2.2.2.2.2.2.2.1) (z_it1 ?_)
    refine Eq.trans (ev_iload (pc := 104) k_77_104 rfl rfl) ?_
    refine Eq.trans (ev_iadd (pc := 106) k_77_106 rfl) ?_
    refine Eq.trans (ev_iast_c (pc := 107) k_77_107 rfl q0.2.2.2.2.2.2.2.2.1) (z_it1 ?_)
    refine Eq.trans (ev_aload_n (pc := 108) (x := a0) k_77_108 rfl rfl (zIO_lt q0.1).2.2) ?_
    refine Eq.trans (ev_getI (pc := 109) k_77_109 rfl q0.1.1) ?_
    refine Eq.trans (ev_bipush (pc := 112) (v := 60) k_77_112 rfl (by decide)) ?_
    refine Eq.trans (ev_icge (pc := 114) k_77_114.1 rfl k_77_114.2) (z_ite ?_ ?_)
    · refine Eq.trans (ev_aload_n (pc := 117) (x := a0) k_77_117 rfl rfl (zIO_lt q0.1).2.2) ?_
      refine Eq.trans (ev_iload_n (pc := 118) k_77_118 rfl rfl) ?_
      refine Eq.trans (ev_iload_n (pc := 119) k_77_119 rfl rfl) ?_
      refine Eq.trans (ev_iload (pc := 120) k_77_120 rfl rfl) ?_
      refine Eq.trans (ev_iload (pc := 122) k_77_122 rfl rfl) ?_
      refine Eq.trans (ev_iload (pc := 124) k_77_124 rfl rfl) ?_
      refine Eq.trans (ev_vv (pc := 126) (as := [.int v2, .int v3, .int v4, .int v5, .int v6]) (rest := []) k_77_126 rfl q0.1 rfl rfl (Nat.le_of_ble_eq_true rfl) (Nat.le_of_ble_eq_true rfl)) (z_cbv fun h2 => ?_)
      refine Eq.trans (ev_mk (pc := 129) (lv' := [none, none, none, none, none, none, some (.int v6), none]) kd_77_129 rfl) ?_
      refine Eq.trans (ev_iload (pc := 129) k_77_129 rfl rfl) ?_
      exact ev_ret_int k_77_131 rfl rt_77
    · refine Eq.trans (ev_mk (pc := 129) (lv' := [none, none, none, none, none, none, some (.int v6), none]) kd_77_129 rfl) ?_
      refine Eq.trans (ev_iload (pc := 129) k_77_129 rfl rfl) ?_
      exact ev_ret_int k_77_131 rfl rt_77

set_option maxRecDepth 100000 in
theorem E_Tk_speak_68 (sc : zSc) (d : Nat) (g : zSg) (h : zHp) (a0 : Nat) (q0 : zS4 g a0) (a1 : Nat) (q1 : zS6 g a1) (v2 : Int32) (v3 : Int32) (v4 : Int32) (v5 : Int32) (v6 : Int32) (v7 : Int32) : zE sc (d + 1) 77 68 [some (.ref a0), some (.ref a1), some (.int v2), some (.int v3), some (.int v4), some (.int v5), some (.int v6), some (.int v7)] [] g h = (if zin v7 5 = true then (zBi (zRun sc d 18 [.ref a1, .int ((h.1 (a0 + 1) v7.toNatClampNeg) ||| ((1 : Int32) <<< (v4 &&& 31)))] g h) g fun x1 h1 => (if zin v7 5 = true then zE sc (d + 1) 77 43 [some (.ref a0), some (.ref a1), some (.int v2), some (.int v3), some (.int v4), some (.int v5), some (.int v6), some (.int (v7 + 1))] [] g (zPI h1 (a0 + 1) v7.toNatClampNeg x1) else none)) else none) := by
  refine Eq.trans (ev_aload_n (pc := 68) (x := a0) k_77_68 rfl rfl (zIO_lt q0.1).2.2) ?_
  refine Eq.trans (ev_getR (pc := 69) (b := a0 + 1) k_77_69 rfl q0.1.1 q0.2.1) ?_
  refine Eq.trans (ev_iload (pc := 72) k_77_72 rfl rfl) ?_
  refine Eq.trans (ev_aload_n (pc := 74) (x := a1) k_77_74 rfl rfl (zIO_lt q1.1).2.2) ?_
  refine Eq.trans (ev_aload_n (pc := 75) (x := a0) k_77_75 rfl rfl (zIO_lt q0.1).2.2) ?_
  refine Eq.trans (ev_getR (pc := 76) (b := a0 + 1) k_77_76 rfl q0.1.1 q0.2.1) ?_
  refine Eq.trans (ev_iload (pc := 79) k_77_79 rfl rfl) ?_
  refine Eq.trans (ev_iald_c (pc := 81) k_77_81 rfl q0.2.2.2.2.2.2.1) (z_it1 ?_)
  refine Eq.trans (ev_iconst (pc := 82) (v := 1) k_77_82 rfl (by decide)) ?_
  refine Eq.trans (ev_iload (pc := 83) k_77_83 rfl rfl) ?_
  refine Eq.trans (ev_ishl (pc := 85) k_77_85 rfl) ?_
  refine Eq.trans (ev_ior (pc := 86) k_77_86 rfl) ?_
  refine Eq.trans (ev_vi (pc := 87) (as := [.int ((h.1 (a0 + 1) v7.toNatClampNeg) ||| ((1 : Int32) <<< (v4 &&& 31)))]) (rest := [.int v7, .ref (a0 + 1)]) k_77_87 rfl q1.1 rfl rfl (Nat.le_of_ble_eq_true rfl) (Nat.le_of_ble_eq_true rfl)) (z_cbi fun x1 h1 => ?_)
  refine Eq.trans (ev_iast_c (pc := 90) k_77_90 rfl q0.2.2.2.2.2.2.1) (z_it1 ?_)
  refine Eq.trans (ev_iinc (pc := 91) (v := 1) (lv' := [some (.ref a0), some (.ref a1), some (.int v2), some (.int v3), some (.int v4), some (.int v5), some (.int v6), some (.int (v7 + 1))]) k_77_91 rfl rfl (by decide) rfl) ?_
  refine Eq.trans (ev_goto (pc := 94) k_77_94.1 rfl k_77_94.2) ?_
  exact ev_mk kd_77_43 rfl

set_option maxRecDepth 100000 in
theorem E_Tk_show (sc : zSc) (d : Nat) (g : zSg) (h : zHp) (a0 : Nat) (q0 : zS4 g a0) (a1 : Nat) (q1 : zS6 g a1) (v2 : Int32) (v3 : Int32) (v4 : Int32) (v5 : Int32) : zRun sc (d + 1) 78 [.ref a0, .ref a1, .int v2, .int v3, .int v4, .int v5] g h = (if zin v3 5 = true then (zBi (zRun sc d 11 [.int (h.1 (a0 + 1) v3.toNatClampNeg), .int v4] g h) g fun x1 h1 => zE sc (d + 1) 78 16 [some (.ref a0), some (.ref a1), some (.int v2), some (.int v3), some (.int v4), some (.int v5), some (.int x1), some (.int 0), none, none] [] g h1) else none) := by
  have he : zEnt 78 [.ref a0, .ref a1, .int v2, .int v3, .int v4, .int v5] = [some (.ref a0), some (.ref a1), some (.int v2), some (.int v3), some (.int v4), some (.int v5), none, none, none, none] := by unfold zEnt; rw [ml_78]; rfl
  unfold zRun
  rw [he]
  refine Eq.trans (ev_aload_n (pc := 0) (x := a0) k_78_0 rfl rfl (zIO_lt q0.1).2.2) ?_
  refine Eq.trans (ev_getR (pc := 1) (b := a0 + 1) k_78_1 rfl q0.1.1 q0.2.1) ?_
  refine Eq.trans (ev_iload_n (pc := 4) k_78_4 rfl rfl) ?_
  refine Eq.trans (ev_iald_c (pc := 5) k_78_5 rfl q0.2.2.2.2.2.2.1) (z_it1 ?_)
  refine Eq.trans (ev_iload (pc := 6) k_78_6 rfl rfl) ?_
  refine Eq.trans (ev_si (pc := 8) (as := [.int (h.1 (a0 + 1) v3.toNatClampNeg), .int v4]) (rest := []) k_78_8 rfl rfl rfl (Nat.le_of_ble_eq_true rfl) (Nat.le_of_ble_eq_true rfl)) (z_cbi fun x1 h1 => ?_)
  refine Eq.trans (ev_istore (pc := 11) (lv' := [some (.ref a0), some (.ref a1), some (.int v2), some (.int v3), some (.int v4), some (.int v5), some (.int x1), none, none, none]) k_78_11 rfl (Nat.le_of_ble_eq_true rfl) rfl) ?_
  refine Eq.trans (ev_iconst (pc := 13) (v := 0) k_78_13 rfl (by decide)) ?_
  refine Eq.trans (ev_istore (pc := 14) (lv' := [some (.ref a0), some (.ref a1), some (.int v2), some (.int v3), some (.int v4), some (.int v5), some (.int x1), some (.int 0), none, none]) k_78_14 rfl (Nat.le_of_ble_eq_true rfl) rfl) ?_
  exact ev_mk kd_78_16 rfl

set_option maxRecDepth 100000 in
theorem E_Tk_show_16 (sc : zSc) (d : Nat) (g : zSg) (h : zHp) (a0 : Nat) (q0 : zS4 g a0) (a1 : Nat) (q1 : zS6 g a1) (v2 : Int32) (v3 : Int32) (v4 : Int32) (v5 : Int32) (v6 : Int32) (v7 : Int32) : zE sc (d + 1) 78 16 [some (.ref a0), some (.ref a1), some (.int v2), some (.int v3), some (.int v4), some (.int v5), some (.int v6), some (.int v7), none, none] [] g h = (if v7 < (h.1 a1 1) then zE sc (d + 1) 78 28 [some (.ref a0), some (.ref a1), some (.int v2), some (.int v3), some (.int v4), some (.int v5), some (.int v6), some (.int v7), some (.int 0), none] [] g h else some (none, g, h)) := by
  refine Eq.trans (ev_iload (pc := 16) k_78_16 rfl rfl) ?_
  refine Eq.trans (ev_aload_n (pc := 18) (x := a1) k_78_18 rfl rfl (zIO_lt q1.1).2.2) ?_
  refine Eq.trans (ev_getI (pc := 19) k_78_19 rfl q1.1.1) ?_
  refine Eq.trans (ev_icge (pc := 22) k_78_22.1 rfl k_78_22.2) (z_ite ?_ ?_)
  · refine Eq.trans (ev_iconst (pc := 25) (v := 0) k_78_25 rfl (by decide)) ?_
    refine Eq.trans (ev_istore (pc := 26) (lv' := [some (.ref a0), some (.ref a1), some (.int v2), some (.int v3), some (.int v4), some (.int v5), some (.int v6), some (.int v7), some (.int 0), none]) k_78_26 rfl (Nat.le_of_ble_eq_true rfl) rfl) ?_
    exact ev_mk kd_78_28 rfl
  · exact ev_ret_void k_78_167 rfl rt_78

set_option maxRecDepth 100000 in
theorem E_Tk_show_28 (sc : zSc) (d : Nat) (g : zSg) (h : zHp) (a0 : Nat) (q0 : zS4 g a0) (a1 : Nat) (q1 : zS6 g a1) (v2 : Int32) (v3 : Int32) (v4 : Int32) (v5 : Int32) (v6 : Int32) (v7 : Int32) (v8 : Int32) : zE sc (d + 1) 78 28 [some (.ref a0), some (.ref a1), some (.int v2), some (.int v3), some (.int v4), some (.int v5), some (.int v6), some (.int v7), some (.int v8), none] [] g h = (if v8 < (h.1 a1 1) then (if v7 = v8 then zE sc (d + 1) 78 28 [some (.ref a0), some (.ref a1), some (.int v2), some (.int v3), some (.int v4), some (.int v5), some (.int v6), some (.int v7), some (.int (v8 + 1)), none] [] g h else (zBi (zRun sc d 11 [.int v5, .int v7] g h) g fun x1 h1 => (if x1 = 0 then zE sc (d + 1) 78 28 [some (.ref a0), some (.ref a1), some (.int v2), some (.int v3), some (.int v4), some (.int v5), some (.int v6), some (.int v7), some (.int (v8 + 1)), none] [] g h1 else (zBi (zRun sc d 11 [.int v5, .int v8] g h1) g fun x2 h2 => (if x2 = 0 then zE sc (d + 1) 78 28 [some (.ref a0), some (.ref a1), some (.int v2), some (.int v3), some (.int v4), some (.int v5), some (.int v6), some (.int v7), some (.int (v8 + 1)), none] [] g h2 else (if v8 = v2 then (if zin ((v7 * (5 : Int32)) + v8) 25 = true then (zBj (zRun sc d 12 [.long (h2.2.1 (a0 + 4) ((v7 * (5 : Int32)) + v8).toNatClampNeg), .int v4] g h2) g fun x3 h3 => (if zin ((v7 * (5 : Int32)) + v8) 25 = true then zE sc (d + 1) 78 28 [some (.ref a0), some (.ref a1), some (.int v2), some (.int v3), some (.int v4), some (.int v5), some (.int v6), some (.int v7), some (.int (v8 + 1)), none] [] g (zPL h3 (a0 + 4) ((v7 * (5 : Int32)) + v8).toNatClampNeg x3) else none)) else none) else (if v8 = v3 then (if zin ((v7 * (5 : Int32)) + v8) 25 = true then (zBj (zRun sc d 79 [.ref a1, .long (h2.2.1 (a0 + 4) ((v7 * (5 : Int32)) + v8).toNatClampNeg), .int v4, .int v6] g h2) g fun x4 h4 => (if zin ((v7 * (5 : Int32)) + v8) 25 = true then zE sc (d + 1) 78 28 [some (.ref a0), some (.ref a1), some (.int v2), some (.int v3), some (.int v4), some (.int v5), some (.int v6), some (.int v7), some (.int (v8 + 1)), none] [] g (zPL h4 (a0 + 4) ((v7 * (5 : Int32)) + v8).toNatClampNeg x4) else none)) else none) else (if zin ((v7 * (5 : Int32)) + v8) 25 = true then (zBj (zRun sc d 80 [.ref a1, .long (h2.2.1 (a0 + 4) ((v7 * (5 : Int32)) + v8).toNatClampNeg), .int v4] g h2) g fun x5 h5 => (if zin ((v7 * (5 : Int32)) + v8) 25 = true then zE sc (d + 1) 78 28 [some (.ref a0), some (.ref a1), some (.int v2), some (.int v3), some (.int v4), some (.int v5), some (.int v6), some (.int v7), some (.int (v8 + 1)), none] [] g (zPL h5 (a0 + 4) ((v7 * (5 : Int32)) + v8).toNatClampNeg x5) else none)) else none)))))))) else zE sc (d + 1) 78 16 [some (.ref a0), some (.ref a1), some (.int v2), some (.int v3), some (.int v4), some (.int v5), some (.int v6), some (.int (v7 + 1)), none, none] [] g h) := by
  refine Eq.trans (ev_iload (pc := 28) k_78_28 rfl rfl) ?_
  refine Eq.trans (ev_aload_n (pc := 30) (x := a1) k_78_30 rfl rfl (zIO_lt q1.1).2.2) ?_
  refine Eq.trans (ev_getI (pc := 31) k_78_31 rfl q1.1.1) ?_
  refine Eq.trans (ev_icge (pc := 34) k_78_34.1 rfl k_78_34.2) (z_ite ?_ ?_)
  · refine Eq.trans (ev_iload (pc := 37) k_78_37 rfl rfl) ?_
    refine Eq.trans (ev_iload (pc := 39) k_78_39 rfl rfl) ?_
    refine Eq.trans (ev_iceq (pc := 41) k_78_41.1 rfl k_78_41.2) (z_ite ?_ ?_)
    · refine Eq.trans (ev_iinc (pc := 155) (v := 1) (lv' := [some (.ref a0), some (.ref a1), some (.int v2), some (.int v3), some (.int v4), some (.int v5), some (.int v6), some (.int v7), some (.int (v8 + 1)), none]) k_78_155 rfl rfl (by decide) rfl) ?_
      refine Eq.trans (ev_goto (pc := 158) k_78_158.1 rfl k_78_158.2) ?_
      exact ev_mk kd_78_28 rfl
    · refine Eq.trans (ev_iload (pc := 44) k_78_44 rfl rfl) ?_
      refine Eq.trans (ev_iload (pc := 46) k_78_46 rfl rfl) ?_
      refine Eq.trans (ev_si (pc := 48) (as := [.int v5, .int v7]) (rest := []) k_78_48 rfl rfl rfl (Nat.le_of_ble_eq_true rfl) (Nat.le_of_ble_eq_true rfl)) (z_cbi fun x1 h1 => ?_)
      refine Eq.trans (ev_ifeq (pc := 51) k_78_51.1 rfl k_78_51.2) (z_ite ?_ ?_)
      · refine Eq.trans (ev_iinc (pc := 155) (v := 1) (lv' := [some (.ref a0), some (.ref a1), some (.int v2), some (.int v3), some (.int v4), some (.int v5), some (.int v6), some (.int v7), some (.int (v8 + 1)), none]) k_78_155 rfl rfl (by decide) rfl) ?_
        refine Eq.trans (ev_goto (pc := 158) k_78_158.1 rfl k_78_158.2) ?_
        exact ev_mk kd_78_28 rfl
      · refine Eq.trans (ev_iload (pc := 54) k_78_54 rfl rfl) ?_
        refine Eq.trans (ev_iload (pc := 56) k_78_56 rfl rfl) ?_
        refine Eq.trans (ev_si (pc := 58) (as := [.int v5, .int v8]) (rest := []) k_78_58 rfl rfl rfl (Nat.le_of_ble_eq_true rfl) (Nat.le_of_ble_eq_true rfl)) (z_cbi fun x2 h2 => ?_)
        refine Eq.trans (ev_ifne (pc := 61) k_78_61.1 rfl k_78_61.2) (z_ite ?_ ?_)
        · refine Eq.trans (ev_goto (pc := 64) k_78_64.1 rfl k_78_64.2) ?_
          refine Eq.trans (ev_iinc (pc := 155) (v := 1) (lv' := [some (.ref a0), some (.ref a1), some (.int v2), some (.int v3), some (.int v4), some (.int v5), some (.int v6), some (.int v7), some (.int (v8 + 1)), none]) k_78_155 rfl rfl (by decide) rfl) ?_
          refine Eq.trans (ev_goto (pc := 158) k_78_158.1 rfl k_78_158.2) ?_
          exact ev_mk kd_78_28 rfl
        · refine Eq.trans (ev_iload (pc := 67) k_78_67 rfl rfl) ?_
          refine Eq.trans (ev_iconst (pc := 69) (v := 5) k_78_69 rfl (by decide)) ?_
          refine Eq.trans (ev_imul (pc := 70) k_78_70 rfl) ?_
          refine Eq.trans (ev_iload (pc := 71) k_78_71 rfl rfl) ?_
          refine Eq.trans (ev_iadd (pc := 73) k_78_73 rfl) ?_
          refine Eq.trans (ev_istore (pc := 74) (lv' := [some (.ref a0), some (.ref a1), some (.int v2), some (.int v3), some (.int v4), some (.int v5), some (.int v6), some (.int v7), some (.int v8), some (.int ((v7 * (5 : Int32)) + v8))]) k_78_74 rfl (Nat.le_of_ble_eq_true rfl) rfl) ?_
          refine Eq.trans (ev_iload (pc := 76) k_78_76 rfl rfl) ?_
          refine Eq.trans (ev_iload_n (pc := 78) k_78_78 rfl rfl) ?_
          refine Eq.trans (ev_icne (pc := 79) k_78_79.1 rfl k_78_79.2) (z_ite ?_ ?_)
          · refine Eq.trans (ev_aload_n (pc := 82) (x := a0) k_78_82 rfl rfl (zIO_lt q0.1).2.2) ?_
            refine Eq.trans (ev_getR (pc := 83) (b := a0 + 4) k_78_83 rfl q0.1.1 q0.2.2.2.2.1) ?_
            refine Eq.trans (ev_iload (pc := 86) k_78_86 rfl rfl) ?_
            refine Eq.trans (ev_aload_n (pc := 88) (x := a0) k_78_88 rfl rfl (zIO_lt q0.1).2.2) ?_
            refine Eq.trans (ev_getR (pc := 89) (b := a0 + 4) k_78_89 rfl q0.1.1 q0.2.2.2.2.1) ?_
            refine Eq.trans (ev_iload (pc := 92) k_78_92 rfl rfl) ?_
            refine Eq.trans (ev_lald_c (pc := 94) k_78_94 rfl q0.2.2.2.2.2.2.2.2.2.1) (z_it1 ?_)
            refine Eq.trans (ev_iload (pc := 95) k_78_95 rfl rfl) ?_
            refine Eq.trans (ev_sj (pc := 97) (as := [.long (h2.2.1 (a0 + 4) ((v7 * (5 : Int32)) + v8).toNatClampNeg), .int v4]) (rest := [.int ((v7 * (5 : Int32)) + v8), .ref (a0 + 4)]) k_78_97 rfl rfl rfl (Nat.le_of_ble_eq_true rfl) (Nat.le_of_ble_eq_true rfl)) (z_cbj fun x3 h3 => ?_)
            refine Eq.trans (ev_last_c (pc := 100) k_78_100 rfl q0.2.2.2.2.2.2.2.2.2.1) (z_it1 ?_)
            refine Eq.trans (ev_goto (pc := 101) k_78_101.1 rfl k_78_101.2) ?_
            refine Eq.trans (ev_mk (pc := 155) (lv' := [some (.ref a0), some (.ref a1), some (.int v2), some (.int v3), some (.int v4), some (.int v5), some (.int v6), some (.int v7), some (.int v8), none]) kd_78_155 rfl) ?_
            refine Eq.trans (ev_iinc (pc := 155) (v := 1) (lv' := [some (.ref a0), some (.ref a1), some (.int v2), some (.int v3), some (.int v4), some (.int v5), some (.int v6), some (.int v7), some (.int (v8 + 1)), none]) k_78_155 rfl rfl (by decide) rfl) ?_
            refine Eq.trans (ev_goto (pc := 158) k_78_158.1 rfl k_78_158.2) ?_
            exact ev_mk kd_78_28 rfl
          · refine Eq.trans (ev_iload (pc := 104) k_78_104 rfl rfl) ?_
            refine Eq.trans (ev_iload_n (pc := 106) k_78_106 rfl rfl) ?_
            refine Eq.trans (ev_icne (pc := 107) k_78_107.1 rfl k_78_107.2) (z_ite ?_ ?_)
            · refine Eq.trans (ev_aload_n (pc := 110) (x := a0) k_78_110 rfl rfl (zIO_lt q0.1).2.2) ?_
              refine Eq.trans (ev_getR (pc := 111) (b := a0 + 4) k_78_111 rfl q0.1.1 q0.2.2.2.2.1) ?_
              refine Eq.trans (ev_iload (pc := 114) k_78_114 rfl rfl) ?_
              refine Eq.trans (ev_aload_n (pc := 116) (x := a1) k_78_116 rfl rfl (zIO_lt q1.1).2.2) ?_
              refine Eq.trans (ev_aload_n (pc := 117) (x := a0) k_78_117 rfl rfl (zIO_lt q0.1).2.2) ?_
              refine Eq.trans (ev_getR (pc := 118) (b := a0 + 4) k_78_118 rfl q0.1.1 q0.2.2.2.2.1) ?_
              refine Eq.trans (ev_iload (pc := 121) k_78_121 rfl rfl) ?_
              refine Eq.trans (ev_lald_c (pc := 123) k_78_123 rfl q0.2.2.2.2.2.2.2.2.2.1) (z_it1 ?_)
              refine Eq.trans (ev_iload (pc := 124) k_78_124 rfl rfl) ?_
              refine Eq.trans (ev_iload (pc := 126) k_78_126 rfl rfl) ?_
              refine Eq.trans (ev_vj (pc := 128) (as := [.long (h2.2.1 (a0 + 4) ((v7 * (5 : Int32)) + v8).toNatClampNeg), .int v4, .int v6]) (rest := [.int ((v7 * (5 : Int32)) + v8), .ref (a0 + 4)]) k_78_128 rfl q1.1 rfl rfl (Nat.le_of_ble_eq_true rfl) (Nat.le_of_ble_eq_true rfl)) (z_cbj fun x4 h4 => ?_)
              refine Eq.trans (ev_last_c (pc := 131) k_78_131 rfl q0.2.2.2.2.2.2.2.2.2.1) (z_it1 ?_)
              refine Eq.trans (ev_goto (pc := 132) k_78_132.1 rfl k_78_132.2) ?_
              refine Eq.trans (ev_mk (pc := 155) (lv' := [some (.ref a0), some (.ref a1), some (.int v2), some (.int v3), some (.int v4), some (.int v5), some (.int v6), some (.int v7), some (.int v8), none]) kd_78_155 rfl) ?_
              refine Eq.trans (ev_iinc (pc := 155) (v := 1) (lv' := [some (.ref a0), some (.ref a1), some (.int v2), some (.int v3), some (.int v4), some (.int v5), some (.int v6), some (.int v7), some (.int (v8 + 1)), none]) k_78_155 rfl rfl (by decide) rfl) ?_
              refine Eq.trans (ev_goto (pc := 158) k_78_158.1 rfl k_78_158.2) ?_
              exact ev_mk kd_78_28 rfl
            · refine Eq.trans (ev_aload_n (pc := 135) (x := a0) k_78_135 rfl rfl (zIO_lt q0.1).2.2) ?_
              refine Eq.trans (ev_getR (pc := 136) (b := a0 + 4) k_78_136 rfl q0.1.1 q0.2.2.2.2.1) ?_
              refine Eq.trans (ev_iload (pc := 139) k_78_139 rfl rfl) ?_
              refine Eq.trans (ev_aload_n (pc := 141) (x := a1) k_78_141 rfl rfl (zIO_lt q1.1).2.2) ?_
              refine Eq.trans (ev_aload_n (pc := 142) (x := a0) k_78_142 rfl rfl (zIO_lt q0.1).2.2) ?_
              refine Eq.trans (ev_getR (pc := 143) (b := a0 + 4) k_78_143 rfl q0.1.1 q0.2.2.2.2.1) ?_
              refine Eq.trans (ev_iload (pc := 146) k_78_146 rfl rfl) ?_
              refine Eq.trans (ev_lald_c (pc := 148) k_78_148 rfl q0.2.2.2.2.2.2.2.2.2.1) (z_it1 ?_)
              refine Eq.trans (ev_iload (pc := 149) k_78_149 rfl rfl) ?_
              refine Eq.trans (ev_vj (pc := 151) (as := [.long (h2.2.1 (a0 + 4) ((v7 * (5 : Int32)) + v8).toNatClampNeg), .int v4]) (rest := [.int ((v7 * (5 : Int32)) + v8), .ref (a0 + 4)]) k_78_151 rfl q1.1 rfl rfl (Nat.le_of_ble_eq_true rfl) (Nat.le_of_ble_eq_true rfl)) (z_cbj fun x5 h5 => ?_)
              refine Eq.trans (ev_last_c (pc := 154) k_78_154 rfl q0.2.2.2.2.2.2.2.2.2.1) (z_it1 ?_)
              refine Eq.trans (ev_mk (pc := 155) (lv' := [some (.ref a0), some (.ref a1), some (.int v2), some (.int v3), some (.int v4), some (.int v5), some (.int v6), some (.int v7), some (.int v8), none]) kd_78_155 rfl) ?_
              refine Eq.trans (ev_iinc (pc := 155) (v := 1) (lv' := [some (.ref a0), some (.ref a1), some (.int v2), some (.int v3), some (.int v4), some (.int v5), some (.int v6), some (.int v7), some (.int (v8 + 1)), none]) k_78_155 rfl rfl (by decide) rfl) ?_
              refine Eq.trans (ev_goto (pc := 158) k_78_158.1 rfl k_78_158.2) ?_
              exact ev_mk kd_78_28 rfl
  · refine Eq.trans (ev_iinc (pc := 161) (v := 1) (lv' := [some (.ref a0), some (.ref a1), some (.int v2), some (.int v3), some (.int v4), some (.int v5), some (.int v6), some (.int (v7 + 1)), some (.int v8), none]) k_78_161 rfl rfl (by decide) rfl) ?_
    refine Eq.trans (ev_goto (pc := 164) k_78_164.1 rfl k_78_164.2) ?_
    exact ev_mk kd_78_16 rfl

set_option maxRecDepth 100000 in
theorem E_Tk_note (sc : zSc) (d : Nat) (g : zSg) (h : zHp) (a0 : Nat) (q0 : zS4 g a0) (v1 : Int32) (v2 : Int32) (v3 : Int32) (v4 : Int32) (v5 : Int32) : zRun sc d 82 [.ref a0, .int v1, .int v2, .int v3, .int v4, .int v5] g h = (if zin ((h.1 a0 5) * (5 : Int32)) 300 = true then (if zin (((h.1 a0 5) * (5 : Int32)) + (1 : Int32)) 300 = true then (if zin (((h.1 a0 5) * (5 : Int32)) + (2 : Int32)) 300 = true then (if zin (((h.1 a0 5) * (5 : Int32)) + (3 : Int32)) 300 = true then (if zin (((h.1 a0 5) * (5 : Int32)) + (4 : Int32)) 300 = true then some (none, g, zPI (zPI (zPI (zPI (zPI (zPI h (a0 + 5) ((h.1 a0 5) * (5 : Int32)).toNatClampNeg v1) (a0 + 5) (((h.1 a0 5) * (5 : Int32)) + (1 : Int32)).toNatClampNeg v2) (a0 + 5) (((h.1 a0 5) * (5 : Int32)) + (2 : Int32)).toNatClampNeg v3) (a0 + 5) (((h.1 a0 5) * (5 : Int32)) + (3 : Int32)).toNatClampNeg v4) (a0 + 5) (((h.1 a0 5) * (5 : Int32)) + (4 : Int32)).toNatClampNeg v5) a0 5 (((zPI (zPI (zPI (zPI (zPI h (a0 + 5) ((h.1 a0 5) * (5 : Int32)).toNatClampNeg v1) (a0 + 5) (((h.1 a0 5) * (5 : Int32)) + (1 : Int32)).toNatClampNeg v2) (a0 + 5) (((h.1 a0 5) * (5 : Int32)) + (2 : Int32)).toNatClampNeg v3) (a0 + 5) (((h.1 a0 5) * (5 : Int32)) + (3 : Int32)).toNatClampNeg v4) (a0 + 5) (((h.1 a0 5) * (5 : Int32)) + (4 : Int32)).toNatClampNeg v5).1 a0 5) + (1 : Int32))) else none) else none) else none) else none) else none) := by
  have he : zEnt 82 [.ref a0, .int v1, .int v2, .int v3, .int v4, .int v5] = [some (.ref a0), some (.int v1), some (.int v2), some (.int v3), some (.int v4), some (.int v5), none] := by unfold zEnt; rw [ml_82]; rfl
  unfold zRun
  rw [he]
  refine Eq.trans (ev_aload_n (pc := 0) (x := a0) k_82_0 rfl rfl (zIO_lt q0.1).2.2) ?_
  refine Eq.trans (ev_getI (pc := 1) k_82_1 rfl q0.1.1) ?_
  refine Eq.trans (ev_iconst (pc := 4) (v := 5) k_82_4 rfl (by decide)) ?_
  refine Eq.trans (ev_imul (pc := 5) k_82_5 rfl) ?_
  refine Eq.trans (ev_istore (pc := 6) (lv' := [some (.ref a0), some (.int v1), some (.int v2), some (.int v3), some (.int v4), some (.int v5), some (.int ((h.1 a0 5) * (5 : Int32)))]) k_82_6 rfl (Nat.le_of_ble_eq_true rfl) rfl) ?_
  refine Eq.trans (ev_aload_n (pc := 8) (x := a0) k_82_8 rfl rfl (zIO_lt q0.1).2.2) ?_
  refine Eq.trans (ev_getR (pc := 9) (b := a0 + 5) k_82_9 rfl q0.1.1 q0.2.2.2.2.2.1) ?_
  refine Eq.trans (ev_iload (pc := 12) k_82_12 rfl rfl) ?_
  refine Eq.trans (ev_iload_n (pc := 14) k_82_14 rfl rfl) ?_
  refine Eq.trans (ev_iast_c (pc := 15) k_82_15 rfl q0.2.2.2.2.2.2.2.2.2.2) (z_it1 ?_)
  refine Eq.trans (ev_aload_n (pc := 16) (x := a0) k_82_16 rfl rfl (zIO_lt q0.1).2.2) ?_
  refine Eq.trans (ev_getR (pc := 17) (b := a0 + 5) k_82_17 rfl q0.1.1 q0.2.2.2.2.2.1) ?_
  refine Eq.trans (ev_iload (pc := 20) k_82_20 rfl rfl) ?_
  refine Eq.trans (ev_iconst (pc := 22) (v := 1) k_82_22 rfl (by decide)) ?_
  refine Eq.trans (ev_iadd (pc := 23) k_82_23 rfl) ?_
  refine Eq.trans (ev_iload_n (pc := 24) k_82_24 rfl rfl) ?_
  refine Eq.trans (ev_iast_c (pc := 25) k_82_25 rfl q0.2.2.2.2.2.2.2.2.2.2) (z_it1 ?_)
  refine Eq.trans (ev_aload_n (pc := 26) (x := a0) k_82_26 rfl rfl (zIO_lt q0.1).2.2) ?_
  refine Eq.trans (ev_getR (pc := 27) (b := a0 + 5) k_82_27 rfl q0.1.1 q0.2.2.2.2.2.1) ?_
  refine Eq.trans (ev_iload (pc := 30) k_82_30 rfl rfl) ?_
  refine Eq.trans (ev_iconst (pc := 32) (v := 2) k_82_32 rfl (by decide)) ?_
  refine Eq.trans (ev_iadd (pc := 33) k_82_33 rfl) ?_
  refine Eq.trans (ev_iload_n (pc := 34) k_82_34 rfl rfl) ?_
  refine Eq.trans (ev_iast_c (pc := 35) k_82_35 rfl q0.2.2.2.2.2.2.2.2.2.2) (z_it1 ?_)
  refine Eq.trans (ev_aload_n (pc := 36) (x := a0) k_82_36 rfl rfl (zIO_lt q0.1).2.2) ?_
  refine Eq.trans (ev_getR (pc := 37) (b := a0 + 5) k_82_37 rfl q0.1.1 q0.2.2.2.2.2.1) ?_
  refine Eq.trans (ev_iload (pc := 40) k_82_40 rfl rfl) ?_
  refine Eq.trans (ev_iconst (pc := 42) (v := 3) k_82_42 rfl (by decide)) ?_
  refine Eq.trans (ev_iadd (pc := 43) k_82_43 rfl) ?_
  refine Eq.trans (ev_iload (pc := 44) k_82_44 rfl rfl) ?_
  refine Eq.trans (ev_iast_c (pc := 46) k_82_46 rfl q0.2.2.2.2.2.2.2.2.2.2) (z_it1 ?_)
  refine Eq.trans (ev_aload_n (pc := 47) (x := a0) k_82_47 rfl rfl (zIO_lt q0.1).2.2) ?_
  refine Eq.trans (ev_getR (pc := 48) (b := a0 + 5) k_82_48 rfl q0.1.1 q0.2.2.2.2.2.1) ?_
  refine Eq.trans (ev_iload (pc := 51) k_82_51 rfl rfl) ?_
  refine Eq.trans (ev_iconst (pc := 53) (v := 4) k_82_53 rfl (by decide)) ?_
  refine Eq.trans (ev_iadd (pc := 54) k_82_54 rfl) ?_
  refine Eq.trans (ev_iload (pc := 55) k_82_55 rfl rfl) ?_
  refine Eq.trans (ev_iast_c (pc := 57) k_82_57 rfl q0.2.2.2.2.2.2.2.2.2.2) (z_it1 ?_)
  refine Eq.trans (ev_aload_n (pc := 58) (x := a0) k_82_58 rfl rfl (zIO_lt q0.1).2.2) ?_
  refine Eq.trans (ev_dup (pc := 59) k_82_59 rfl rfl) ?_
  refine Eq.trans (ev_getI (pc := 60) k_82_60 rfl q0.1.1) ?_
  refine Eq.trans (ev_iconst (pc := 63) (v := 1) k_82_63 rfl (by decide)) ?_
  refine Eq.trans (ev_iadd (pc := 64) k_82_64 rfl) ?_
  refine Eq.trans (ev_putI (pc := 65) k_82_65 rfl q0.1.1) ?_
  exact ev_ret_void k_82_68 rfl rt_82

set_option maxRecDepth 100000 in
theorem E_Tk_holdTongue (sc : zSc) (d : Nat) (g : zSg) (h : zHp) (a0 : Nat) (q0 : zS4 g a0) (a1 : Nat) (q1 : zS6 g a1) (v2 : Int32) (v3 : Int32) : zRun sc (d + 1) 84 [.ref a0, .ref a1, .int v2, .int v3] g h = (zBi (zRun sc d 56 [.ref a0, .ref a1, .int v3] g h) g fun x1 h1 => (if zin v3 5 = true then (if zin ((v3 * (5 : Int32)) + v2) 25 = true then (zBj (zRun sc d 85 [.long (h1.2.1 (a0 + 4) ((v3 * (5 : Int32)) + v2).toNatClampNeg), .int (x1 &&& ((h1.1 (a0 + 1) v3.toNatClampNeg) ^^^ ((-1) : Int32)))] g h1) g fun x2 h2 => (if zin ((v3 * (5 : Int32)) + v2) 25 = true then (zBi (zRun sc d 50 [.long (h1.2.1 (a0 + 4) ((v3 * (5 : Int32)) + v2).toNatClampNeg)] g (zPL h2 (a0 + 4) ((v3 * (5 : Int32)) + v2).toNatClampNeg x2)) g fun x3 h3 => (zBi (zRun sc d 50 [.long x2] g h3) g fun x4 h4 => some (some (.int (x3 - x4)), g, h4))) else none)) else none) else none)) := by
  have he : zEnt 84 [.ref a0, .ref a1, .int v2, .int v3] = [some (.ref a0), some (.ref a1), some (.int v2), some (.int v3), none, none, none, none, none] := by unfold zEnt; rw [ml_84]; rfl
  unfold zRun
  rw [he]
  refine Eq.trans (ev_aload_n (pc := 0) (x := a0) k_84_0 rfl rfl (zIO_lt q0.1).2.2) ?_
  refine Eq.trans (ev_aload_n (pc := 1) (x := a1) k_84_1 rfl rfl (zIO_lt q1.1).2.2) ?_
  refine Eq.trans (ev_iload_n (pc := 2) k_84_2 rfl rfl) ?_
  refine Eq.trans (ev_vi (pc := 3) (as := [.ref a1, .int v3]) (rest := []) k_84_3 rfl q0.1 rfl rfl (Nat.le_of_ble_eq_true rfl) (Nat.le_of_ble_eq_true rfl)) (z_cbi fun x1 h1 => ?_)
  refine Eq.trans (ev_aload_n (pc := 6) (x := a0) k_84_6 rfl rfl (zIO_lt q0.1).2.2) ?_
  refine Eq.trans (ev_getR (pc := 7) (b := a0 + 1) k_84_7 rfl q0.1.1 q0.2.1) ?_
  refine Eq.trans (ev_iload_n (pc := 10) k_84_10 rfl rfl) ?_
  refine Eq.trans (ev_iald_c (pc := 11) k_84_11 rfl q0.2.2.2.2.2.2.1) (z_it1 ?_)
  refine Eq.trans (ev_iconst (pc := 12) (v := (-1)) k_84_12 rfl (by decide)) ?_
  refine Eq.trans (ev_ixor (pc := 13) k_84_13 rfl) ?_
  refine Eq.trans (ev_iand (pc := 14) k_84_14 rfl) ?_
  refine Eq.trans (ev_istore (pc := 15) (lv' := [some (.ref a0), some (.ref a1), some (.int v2), some (.int v3), some (.int (x1 &&& ((h1.1 (a0 + 1) v3.toNatClampNeg) ^^^ ((-1) : Int32)))), none, none, none, none]) k_84_15 rfl (Nat.le_of_ble_eq_true rfl) rfl) ?_
  refine Eq.trans (ev_aload_n (pc := 17) (x := a0) k_84_17 rfl rfl (zIO_lt q0.1).2.2) ?_
  refine Eq.trans (ev_getR (pc := 18) (b := a0 + 4) k_84_18 rfl q0.1.1 q0.2.2.2.2.1) ?_
  refine Eq.trans (ev_iload_n (pc := 21) k_84_21 rfl rfl) ?_
  refine Eq.trans (ev_iconst (pc := 22) (v := 5) k_84_22 rfl (by decide)) ?_
  refine Eq.trans (ev_imul (pc := 23) k_84_23 rfl) ?_
  refine Eq.trans (ev_iload_n (pc := 24) k_84_24 rfl rfl) ?_
  refine Eq.trans (ev_iadd (pc := 25) k_84_25 rfl) ?_
  refine Eq.trans (ev_lald_c (pc := 26) k_84_26 rfl q0.2.2.2.2.2.2.2.2.2.1) (z_it1 ?_)
  refine Eq.trans (ev_lstore (pc := 27) (lv' := [some (.ref a0), some (.ref a1), some (.int v2), some (.int v3), some (.int (x1 &&& ((h1.1 (a0 + 1) v3.toNatClampNeg) ^^^ ((-1) : Int32)))), some (.long (h1.2.1 (a0 + 4) ((v3 * (5 : Int32)) + v2).toNatClampNeg)), none, none, none]) k_84_27 rfl (Nat.le_of_ble_eq_true rfl) rfl) ?_
  refine Eq.trans (ev_lload (pc := 29) k_84_29 rfl rfl) ?_
  refine Eq.trans (ev_iload (pc := 31) k_84_31 rfl rfl) ?_
  refine Eq.trans (ev_sj (pc := 33) (as := [.long (h1.2.1 (a0 + 4) ((v3 * (5 : Int32)) + v2).toNatClampNeg), .int (x1 &&& ((h1.1 (a0 + 1) v3.toNatClampNeg) ^^^ ((-1) : Int32)))]) (rest := []) k_84_33 rfl rfl rfl (Nat.le_of_ble_eq_true rfl) (Nat.le_of_ble_eq_true rfl)) (z_cbj fun x2 h2 => ?_)
  refine Eq.trans (ev_lstore (pc := 36) (lv' := [some (.ref a0), some (.ref a1), some (.int v2), some (.int v3), some (.int (x1 &&& ((h1.1 (a0 + 1) v3.toNatClampNeg) ^^^ ((-1) : Int32)))), some (.long (h1.2.1 (a0 + 4) ((v3 * (5 : Int32)) + v2).toNatClampNeg)), none, some (.long x2), none]) k_84_36 rfl (Nat.le_of_ble_eq_true rfl) rfl) ?_
  refine Eq.trans (ev_aload_n (pc := 38) (x := a0) k_84_38 rfl rfl (zIO_lt q0.1).2.2) ?_
  refine Eq.trans (ev_getR (pc := 39) (b := a0 + 4) k_84_39 rfl q0.1.1 q0.2.2.2.2.1) ?_
  refine Eq.trans (ev_iload_n (pc := 42) k_84_42 rfl rfl) ?_
  refine Eq.trans (ev_iconst (pc := 43) (v := 5) k_84_43 rfl (by decide)) ?_
  refine Eq.trans (ev_imul (pc := 44) k_84_44 rfl) ?_
  refine Eq.trans (ev_iload_n (pc := 45) k_84_45 rfl rfl) ?_
  refine Eq.trans (ev_iadd (pc := 46) k_84_46 rfl) ?_
  refine Eq.trans (ev_lload (pc := 47) k_84_47 rfl rfl) ?_
  refine Eq.trans (ev_last_c (pc := 49) k_84_49 rfl q0.2.2.2.2.2.2.2.2.2.1) (z_it1 ?_)
  refine Eq.trans (ev_lload (pc := 50) k_84_50 rfl rfl) ?_
  refine Eq.trans (ev_si (pc := 52) (as := [.long (h1.2.1 (a0 + 4) ((v3 * (5 : Int32)) + v2).toNatClampNeg)]) (rest := []) k_84_52 rfl rfl rfl (Nat.le_of_ble_eq_true rfl) (Nat.le_of_ble_eq_true rfl)) (z_cbi fun x3 h3 => ?_)
  refine Eq.trans (ev_lload (pc := 55) k_84_55 rfl rfl) ?_
  refine Eq.trans (ev_si (pc := 57) (as := [.long x2]) (rest := [.int x3]) k_84_57 rfl rfl rfl (Nat.le_of_ble_eq_true rfl) (Nat.le_of_ble_eq_true rfl)) (z_cbi fun x4 h4 => ?_)
  refine Eq.trans (ev_isub (pc := 60) k_84_60 rfl) ?_
  exact ev_ret_int k_84_61 rfl rt_84

set_option maxRecDepth 100000 in
theorem E_Tk_wake (sc : zSc) (d : Nat) (g : zSg) (h : zHp) (a0 : Nat) (q0 : zS4 g a0) (a1 : Nat) (q1 : zS6 g a1) : zRun sc (d + 1) 87 [.ref a0, .ref a1] g h = zE sc (d + 1) 87 4 [some (.ref a0), some (.ref a1), some (.int 0), some (.int 0), none, none, none] [] g h := by
  have he : zEnt 87 [.ref a0, .ref a1] = [some (.ref a0), some (.ref a1), none, none, none, none, none] := by unfold zEnt; rw [ml_87]; rfl
  unfold zRun
  rw [he]
  refine Eq.trans (ev_iconst (pc := 0) (v := 0) k_87_0 rfl (by decide)) ?_
  refine Eq.trans (ev_istore_n (pc := 1) (lv' := [some (.ref a0), some (.ref a1), some (.int 0), none, none, none, none]) k_87_1 rfl (Nat.le_of_ble_eq_true rfl) rfl) ?_
  refine Eq.trans (ev_iconst (pc := 2) (v := 0) k_87_2 rfl (by decide)) ?_
  refine Eq.trans (ev_istore_n (pc := 3) (lv' := [some (.ref a0), some (.ref a1), some (.int 0), some (.int 0), none, none, none]) k_87_3 rfl (Nat.le_of_ble_eq_true rfl) rfl) ?_
  exact ev_mk kd_87_4 rfl

set_option maxRecDepth 100000 in
theorem E_Tk_wake_4 (sc : zSc) (d : Nat) (g : zSg) (h : zHp) (a0 : Nat) (q0 : zS4 g a0) (a1 : Nat) (q1 : zS6 g a1) (v2 : Int32) (v3 : Int32) : zE sc (d + 1) 87 4 [some (.ref a0), some (.ref a1), some (.int v2), some (.int v3), none, none, none] [] g h = (if v3 < (h.1 a1 1) then (if zin v3 5 = true then (zBi (zRun sc d 15 [.ref a1, .int (h.1 (a0 + 1) v3.toNatClampNeg)] g h) g fun x1 h1 => (if zin v3 5 = true then (if x1 = (h1.1 (a0 + 2) v3.toNatClampNeg) then (if zin v3 5 = true then zE sc (d + 1) 87 4 [some (.ref a0), some (.ref a1), some (.int v2), some (.int (v3 + 1)), none, none, none] [] g (zPI h1 (a0 + 2) v3.toNatClampNeg x1) else none) else (if zin v3 5 = true then zE sc (d + 1) 87 4 [some (.ref a0), some (.ref a1), some (.int (v2 ||| ((1 : Int32) <<< (v3 &&& 31)))), some (.int (v3 + 1)), none, none, none] [] g (zPI h1 (a0 + 2) v3.toNatClampNeg x1) else none)) else none)) else none) else zE sc (d + 1) 87 57 [some (.ref a0), some (.ref a1), some (.int v2), some (.int 0), none, none, none] [] g h) := by
  refine Eq.trans (ev_iload_n (pc := 4) k_87_4 rfl rfl) ?_
  refine Eq.trans (ev_aload_n (pc := 5) (x := a1) k_87_5 rfl rfl (zIO_lt q1.1).2.2) ?_
  refine Eq.trans (ev_getI (pc := 6) k_87_6 rfl q1.1.1) ?_
  refine Eq.trans (ev_icge (pc := 9) k_87_9.1 rfl k_87_9.2) (z_ite ?_ ?_)
  · refine Eq.trans (ev_aload_n (pc := 12) (x := a1) k_87_12 rfl rfl (zIO_lt q1.1).2.2) ?_
    refine Eq.trans (ev_aload_n (pc := 13) (x := a0) k_87_13 rfl rfl (zIO_lt q0.1).2.2) ?_
    refine Eq.trans (ev_getR (pc := 14) (b := a0 + 1) k_87_14 rfl q0.1.1 q0.2.1) ?_
    refine Eq.trans (ev_iload_n (pc := 17) k_87_17 rfl rfl) ?_
    refine Eq.trans (ev_iald_c (pc := 18) k_87_18 rfl q0.2.2.2.2.2.2.1) (z_it1 ?_)
    refine Eq.trans (ev_vi (pc := 19) (as := [.int (h.1 (a0 + 1) v3.toNatClampNeg)]) (rest := []) k_87_19 rfl q1.1 rfl rfl (Nat.le_of_ble_eq_true rfl) (Nat.le_of_ble_eq_true rfl)) (z_cbi fun x1 h1 => ?_)
    refine Eq.trans (ev_istore (pc := 22) (lv' := [some (.ref a0), some (.ref a1), some (.int v2), some (.int v3), some (.int x1), none, none]) k_87_22 rfl (Nat.le_of_ble_eq_true rfl) rfl) ?_
    refine Eq.trans (ev_iload (pc := 24) k_87_24 rfl rfl) ?_
    refine Eq.trans (ev_aload_n (pc := 26) (x := a0) k_87_26 rfl rfl (zIO_lt q0.1).2.2) ?_
    refine Eq.trans (ev_getR (pc := 27) (b := a0 + 2) k_87_27 rfl q0.1.1 q0.2.2.1) ?_
    refine Eq.trans (ev_iload_n (pc := 30) k_87_30 rfl rfl) ?_
    refine Eq.trans (ev_iald_c (pc := 31) k_87_31 rfl q0.2.2.2.2.2.2.2.1) (z_it1 ?_)
    refine Eq.trans (ev_iceq (pc := 32) k_87_32.1 rfl k_87_32.2) (z_ite ?_ ?_)
    · refine Eq.trans (ev_aload_n (pc := 41) (x := a0) k_87_41 rfl rfl (zIO_lt q0.1).2.2) ?_
      refine Eq.trans (ev_getR (pc := 42) (b := a0 + 2) k_87_42 rfl q0.1.1 q0.2.2.1) ?_
      refine Eq.trans (ev_iload_n (pc := 45) k_87_45 rfl rfl) ?_
      refine Eq.trans (ev_iload (pc := 46) k_87_46 rfl rfl) ?_
      refine Eq.trans (ev_iast_c (pc := 48) k_87_48 rfl q0.2.2.2.2.2.2.2.1) (z_it1 ?_)
      refine Eq.trans (ev_iinc (pc := 49) (v := 1) (lv' := [some (.ref a0), some (.ref a1), some (.int v2), some (.int (v3 + 1)), some (.int x1), none, none]) k_87_49 rfl rfl (by decide) rfl) ?_
      refine Eq.trans (ev_goto (pc := 52) k_87_52.1 rfl k_87_52.2) ?_
      exact ev_mk kd_87_4 rfl
    · refine Eq.trans (ev_iload_n (pc := 35) k_87_35 rfl rfl) ?_
      refine Eq.trans (ev_iconst (pc := 36) (v := 1) k_87_36 rfl (by decide)) ?_
      refine Eq.trans (ev_iload_n (pc := 37) k_87_37 rfl rfl) ?_
      refine Eq.trans (ev_ishl (pc := 38) k_87_38 rfl) ?_
      refine Eq.trans (ev_ior (pc := 39) k_87_39 rfl) ?_
      refine Eq.trans (ev_istore_n (pc := 40) (lv' := [some (.ref a0), some (.ref a1), some (.int (v2 ||| ((1 : Int32) <<< (v3 &&& 31)))), some (.int v3), some (.int x1), none, none]) k_87_40 rfl (Nat.le_of_ble_eq_true rfl) rfl) ?_
      refine Eq.trans (ev_aload_n (pc := 41) (x := a0) k_87_41 rfl rfl (zIO_lt q0.1).2.2) ?_
      refine Eq.trans (ev_getR (pc := 42) (b := a0 + 2) k_87_42 rfl q0.1.1 q0.2.2.1) ?_
      refine Eq.trans (ev_iload_n (pc := 45) k_87_45 rfl rfl) ?_
      refine Eq.trans (ev_iload (pc := 46) k_87_46 rfl rfl) ?_
      refine Eq.trans (ev_iast_c (pc := 48) k_87_48 rfl q0.2.2.2.2.2.2.2.1) (z_it1 ?_)
      refine Eq.trans (ev_iinc (pc := 49) (v := 1) (lv' := [some (.ref a0), some (.ref a1), some (.int (v2 ||| ((1 : Int32) <<< (v3 &&& 31)))), some (.int (v3 + 1)), some (.int x1), none, none]) k_87_49 rfl rfl (by decide) rfl) ?_
      refine Eq.trans (ev_goto (pc := 52) k_87_52.1 rfl k_87_52.2) ?_
      exact ev_mk kd_87_4 rfl
  · refine Eq.trans (ev_iconst (pc := 55) (v := 0) k_87_55 rfl (by decide)) ?_
    refine Eq.trans (ev_istore_n (pc := 56) (lv' := [some (.ref a0), some (.ref a1), some (.int v2), some (.int 0), none, none, none]) k_87_56 rfl (Nat.le_of_ble_eq_true rfl) rfl) ?_
    exact ev_mk kd_87_57 rfl

set_option maxRecDepth 100000 in
theorem E_Tk_wake_57 (sc : zSc) (d : Nat) (g : zSg) (h : zHp) (a0 : Nat) (q0 : zS4 g a0) (a1 : Nat) (q1 : zS6 g a1) (v2 : Int32) (v3 : Int32) : zE sc (d + 1) 87 57 [some (.ref a0), some (.ref a1), some (.int v2), some (.int v3), none, none, none] [] g h = (if v3 < (h.1 a1 1) then zE sc (d + 1) 87 68 [some (.ref a0), some (.ref a1), some (.int v2), some (.int v3), some (.int 0), none, none] [] g h else some (some (.int v2), g, zPI h a0 5 0)) := by
  refine Eq.trans (ev_iload_n (pc := 57) k_87_57 rfl rfl) ?_
  refine Eq.trans (ev_aload_n (pc := 58) (x := a1) k_87_58 rfl rfl (zIO_lt q1.1).2.2) ?_
  refine Eq.trans (ev_getI (pc := 59) k_87_59 rfl q1.1.1) ?_
  refine Eq.trans (ev_icge (pc := 62) k_87_62.1 rfl k_87_62.2) (z_ite ?_ ?_)
  · refine Eq.trans (ev_iconst (pc := 65) (v := 0) k_87_65 rfl (by decide)) ?_
    refine Eq.trans (ev_istore (pc := 66) (lv' := [some (.ref a0), some (.ref a1), some (.int v2), some (.int v3), some (.int 0), none, none]) k_87_66 rfl (Nat.le_of_ble_eq_true rfl) rfl) ?_
    exact ev_mk kd_87_68 rfl
  · refine Eq.trans (ev_aload_n (pc := 126) (x := a0) k_87_126 rfl rfl (zIO_lt q0.1).2.2) ?_
    refine Eq.trans (ev_iconst (pc := 127) (v := 0) k_87_127 rfl (by decide)) ?_
    refine Eq.trans (ev_putI (pc := 128) k_87_128 rfl q0.1.1) ?_
    refine Eq.trans (ev_iload_n (pc := 131) k_87_131 rfl rfl) ?_
    exact ev_ret_int k_87_132 rfl rt_87

set_option maxRecDepth 100000 in
theorem E_Tk_wake_68 (sc : zSc) (d : Nat) (g : zSg) (h : zHp) (a0 : Nat) (q0 : zS4 g a0) (a1 : Nat) (q1 : zS6 g a1) (v2 : Int32) (v3 : Int32) (v4 : Int32) : zE sc (d + 1) 87 68 [some (.ref a0), some (.ref a1), some (.int v2), some (.int v3), some (.int v4), none, none] [] g h = (if v4 < (h.1 a1 1) then (if zin v4 5 = true then (zBj (zRun sc d 19 [.ref a1, .int (h.1 (a0 + 2) v4.toNatClampNeg)] g h) g fun x1 h1 => (zBi (zRun sc d 65 [.ref a0, .ref a1, .int v3, .int v4] g h1) g fun x2 h2 => (zBj (zRun sc d 10 [.long x1, .int x2] g h2) g fun x3 h3 => (if zin ((v3 * (5 : Int32)) + v4) 25 = true then zE sc (d + 1) 87 68 [some (.ref a0), some (.ref a1), some (.int v2), some (.int v3), some (.int (v4 + 1)), none, none] [] g (zPL h3 (a0 + 4) ((v3 * (5 : Int32)) + v4).toNatClampNeg x3) else none)))) else none) else zE sc (d + 1) 87 57 [some (.ref a0), some (.ref a1), some (.int v2), some (.int (v3 + 1)), none, none, none] [] g h) := by
  refine Eq.trans (ev_iload (pc := 68) k_87_68 rfl rfl) ?_
  refine Eq.trans (ev_aload_n (pc := 70) (x := a1) k_87_70 rfl rfl (zIO_lt q1.1).2.2) ?_
  refine Eq.trans (ev_getI (pc := 71) k_87_71 rfl q1.1.1) ?_
  refine Eq.trans (ev_icge (pc := 74) k_87_74.1 rfl k_87_74.2) (z_ite ?_ ?_)
  · refine Eq.trans (ev_aload_n (pc := 77) (x := a1) k_87_77 rfl rfl (zIO_lt q1.1).2.2) ?_
    refine Eq.trans (ev_aload_n (pc := 78) (x := a0) k_87_78 rfl rfl (zIO_lt q0.1).2.2) ?_
    refine Eq.trans (ev_getR (pc := 79) (b := a0 + 2) k_87_79 rfl q0.1.1 q0.2.2.1) ?_
    refine Eq.trans (ev_iload (pc := 82) k_87_82 rfl rfl) ?_
    refine Eq.trans (ev_iald_c (pc := 84) k_87_84 rfl q0.2.2.2.2.2.2.2.1) (z_it1 ?_)
    refine Eq.trans (ev_vj (pc := 85) (as := [.int (h.1 (a0 + 2) v4.toNatClampNeg)]) (rest := []) k_87_85 rfl q1.1 rfl rfl (Nat.le_of_ble_eq_true rfl) (Nat.le_of_ble_eq_true rfl)) (z_cbj fun x1 h1 => ?_)
    refine Eq.trans (ev_lstore (pc := 88) (lv' := [some (.ref a0), some (.ref a1), some (.int v2), some (.int v3), some (.int v4), some (.long x1), none]) k_87_88 rfl (Nat.le_of_ble_eq_true rfl) rfl) ?_
    refine Eq.trans (ev_aload_n (pc := 90) (x := a0) k_87_90 rfl rfl (zIO_lt q0.1).2.2) ?_
    refine Eq.trans (ev_getR (pc := 91) (b := a0 + 4) k_87_91 rfl q0.1.1 q0.2.2.2.2.1) ?_
    refine Eq.trans (ev_iload_n (pc := 94) k_87_94 rfl rfl) ?_
    refine Eq.trans (ev_iconst (pc := 95) (v := 5) k_87_95 rfl (by decide)) ?_
    refine Eq.trans (ev_imul (pc := 96) k_87_96 rfl) ?_
    refine Eq.trans (ev_iload (pc := 97) k_87_97 rfl rfl) ?_
    refine Eq.trans (ev_iadd (pc := 99) k_87_99 rfl) ?_
    refine Eq.trans (ev_lload (pc := 100) k_87_100 rfl rfl) ?_
    refine Eq.trans (ev_aload_n (pc := 102) (x := a0) k_87_102 rfl rfl (zIO_lt q0.1).2.2) ?_
    refine Eq.trans (ev_aload_n (pc := 103) (x := a1) k_87_103 rfl rfl (zIO_lt q1.1).2.2) ?_
    refine Eq.trans (ev_iload_n (pc := 104) k_87_104 rfl rfl) ?_
    refine Eq.trans (ev_iload (pc := 105) k_87_105 rfl rfl) ?_
    refine Eq.trans (ev_vi (pc := 107) (as := [.ref a1, .int v3, .int v4]) (rest := [.long x1, .int ((v3 * (5 : Int32)) + v4), .ref (a0 + 4)]) k_87_107 rfl q0.1 rfl rfl (Nat.le_of_ble_eq_true rfl) (Nat.le_of_ble_eq_true rfl)) (z_cbi fun x2 h2 => ?_)
    refine Eq.trans (ev_sj (pc := 110) (as := [.long x1, .int x2]) (rest := [.int ((v3 * (5 : Int32)) + v4), .ref (a0 + 4)]) k_87_110 rfl rfl rfl (Nat.le_of_ble_eq_true rfl) (Nat.le_of_ble_eq_true rfl)) (z_cbj fun x3 h3 => ?_)
    refine Eq.trans (ev_last_c (pc := 113) k_87_113 rfl q0.2.2.2.2.2.2.2.2.2.1) (z_it1 ?_)
    refine Eq.trans (ev_iinc (pc := 114) (v := 1) (lv' := [some (.ref a0), some (.ref a1), some (.int v2), some (.int v3), some (.int (v4 + 1)), some (.long x1), none]) k_87_114 rfl rfl (by decide) rfl) ?_
    refine Eq.trans (ev_goto (pc := 117) k_87_117.1 rfl k_87_117.2) ?_
    exact ev_mk kd_87_68 rfl
  · refine Eq.trans (ev_iinc (pc := 120) (v := 1) (lv' := [some (.ref a0), some (.ref a1), some (.int v2), some (.int (v3 + 1)), some (.int v4), none, none]) k_87_120 rfl rfl (by decide) rfl) ?_
    refine Eq.trans (ev_goto (pc := 123) k_87_123.1 rfl k_87_123.2) ?_
    exact ev_mk kd_87_57 rfl

set_option maxRecDepth 100000 in
theorem E_Tk_knownAtFirst (sc : zSc) (d : Nat) (g : zSg) (h : zHp) (a0 : Nat) (q0 : zS4 g a0) (a1 : Nat) (q1 : zS6 g a1) (v2 : Int32) : zRun sc (d + 1) 107 [.ref a0, .ref a1, .int v2] g h = (if zin v2 5 = true then (zBj (zRun sc d 19 [.ref a1, .int (h.1 (a0 + 2) v2.toNatClampNeg)] g h) g fun x1 h1 => zE sc (d + 1) 107 17 [some (.ref a0), some (.ref a1), some (.int v2), some (.long x1), none, some (.long 0), none, some (.int 0)] [] g h1) else none) := by
  have he : zEnt 107 [.ref a0, .ref a1, .int v2] = [some (.ref a0), some (.ref a1), some (.int v2), none, none, none, none, none] := by unfold zEnt; rw [ml_107]; rfl
  unfold zRun
  rw [he]
  refine Eq.trans (ev_aload_n (pc := 0) (x := a1) k_107_0 rfl rfl (zIO_lt q1.1).2.2) ?_
  refine Eq.trans (ev_aload_n (pc := 1) (x := a0) k_107_1 rfl rfl (zIO_lt q0.1).2.2) ?_
  refine Eq.trans (ev_getR (pc := 2) (b := a0 + 2) k_107_2 rfl q0.1.1 q0.2.2.1) ?_
  refine Eq.trans (ev_iload_n (pc := 5) k_107_5 rfl rfl) ?_
  refine Eq.trans (ev_iald_c (pc := 6) k_107_6 rfl q0.2.2.2.2.2.2.2.1) (z_it1 ?_)
  refine Eq.trans (ev_vj (pc := 7) (as := [.int (h.1 (a0 + 2) v2.toNatClampNeg)]) (rest := []) k_107_7 rfl q1.1 rfl rfl (Nat.le_of_ble_eq_true rfl) (Nat.le_of_ble_eq_true rfl)) (z_cbj fun x1 h1 => ?_)
  refine Eq.trans (ev_lstore_n (pc := 10) (lv' := [some (.ref a0), some (.ref a1), some (.int v2), some (.long x1), none, none, none, none]) k_107_10 rfl (Nat.le_of_ble_eq_true rfl) rfl) ?_
  refine Eq.trans (ev_lconst (pc := 11) (v := 0) k_107_11 rfl (by decide)) ?_
  refine Eq.trans (ev_lstore (pc := 12) (lv' := [some (.ref a0), some (.ref a1), some (.int v2), some (.long x1), none, some (.long 0), none, none]) k_107_12 rfl (Nat.le_of_ble_eq_true rfl) rfl) ?_
  refine Eq.trans (ev_iconst (pc := 14) (v := 0) k_107_14 rfl (by decide)) ?_
  refine Eq.trans (ev_istore (pc := 15) (lv' := [some (.ref a0), some (.ref a1), some (.int v2), some (.long x1), none, some (.long 0), none, some (.int 0)]) k_107_15 rfl (Nat.le_of_ble_eq_true rfl) rfl) ?_
  exact ev_mk kd_107_17 rfl

set_option maxRecDepth 100000 in
theorem E_Tk_knownAtFirst_17 (sc : zSc) (d : Nat) (g : zSg) (h : zHp) (a0 : Nat) (q0 : zS4 g a0) (a1 : Nat) (q1 : zS6 g a1) (v2 : Int32) (w3 : Int64) (w5 : Int64) (v7 : Int32) : zE sc (d + 1) 107 17 [some (.ref a0), some (.ref a1), some (.int v2), some (.long w3), none, some (.long w5), none, some (.int v7)] [] g h = (if v7 < (64 : Int32) then (zBi (zRun sc d 14 [.long w3, .int v7] g h) g fun x1 h1 => (if x1 = 0 then zE sc (d + 1) 107 17 [some (.ref a0), some (.ref a1), some (.int v2), some (.long w3), none, some (.long w5), none, some (.int (v7 + 1))] [] g h1 else (zBi (zRun sc d 108 [.ref a0, .ref a1, .int v2, .int v7] g h1) g fun x2 h2 => (if x2 = 0 then zE sc (d + 1) 107 17 [some (.ref a0), some (.ref a1), some (.int v2), some (.long w3), none, some (.long w5), none, some (.int (v7 + 1))] [] g h2 else zE sc (d + 1) 107 17 [some (.ref a0), some (.ref a1), some (.int v2), some (.long w3), none, some (.long (w5 ||| ((1 : Int64) <<< (v7.toInt64 &&& 63)))), none, some (.int (v7 + 1))] [] g h2)))) else some (some (.long w5), g, h)) := by
  refine Eq.trans (ev_iload (pc := 17) k_107_17 rfl rfl) ?_
  refine Eq.trans (ev_bipush (pc := 19) (v := 64) k_107_19 rfl (by decide)) ?_
  refine Eq.trans (ev_icge (pc := 21) k_107_21.1 rfl k_107_21.2) (z_ite ?_ ?_)
  · refine Eq.trans (ev_lload_n (pc := 24) k_107_24 rfl rfl) ?_
    refine Eq.trans (ev_iload (pc := 25) k_107_25 rfl rfl) ?_
    refine Eq.trans (ev_si (pc := 27) (as := [.long w3, .int v7]) (rest := []) k_107_27 rfl rfl rfl (Nat.le_of_ble_eq_true rfl) (Nat.le_of_ble_eq_true rfl)) (z_cbi fun x1 h1 => ?_)
    refine Eq.trans (ev_ifeq (pc := 30) k_107_30.1 rfl k_107_30.2) (z_ite ?_ ?_)
    · refine Eq.trans (ev_iinc (pc := 53) (v := 1) (lv' := [some (.ref a0), some (.ref a1), some (.int v2), some (.long w3), none, some (.long w5), none, some (.int (v7 + 1))]) k_107_53 rfl rfl (by decide) rfl) ?_
      refine Eq.trans (ev_goto (pc := 56) k_107_56.1 rfl k_107_56.2) ?_
      exact ev_mk kd_107_17 rfl
    · refine Eq.trans (ev_aload_n (pc := 33) (x := a0) k_107_33 rfl rfl (zIO_lt q0.1).2.2) ?_
      refine Eq.trans (ev_aload_n (pc := 34) (x := a1) k_107_34 rfl rfl (zIO_lt q1.1).2.2) ?_
      refine Eq.trans (ev_iload_n (pc := 35) k_107_35 rfl rfl) ?_
      refine Eq.trans (ev_iload (pc := 36) k_107_36 rfl rfl) ?_
      refine Eq.trans (ev_vi (pc := 38) (as := [.ref a1, .int v2, .int v7]) (rest := []) k_107_38 rfl q0.1 rfl rfl (Nat.le_of_ble_eq_true rfl) (Nat.le_of_ble_eq_true rfl)) (z_cbi fun x2 h2 => ?_)
      refine Eq.trans (ev_ifeq (pc := 41) k_107_41.1 rfl k_107_41.2) (z_ite ?_ ?_)
      · refine Eq.trans (ev_iinc (pc := 53) (v := 1) (lv' := [some (.ref a0), some (.ref a1), some (.int v2), some (.long w3), none, some (.long w5), none, some (.int (v7 + 1))]) k_107_53 rfl rfl (by decide) rfl) ?_
        refine Eq.trans (ev_goto (pc := 56) k_107_56.1 rfl k_107_56.2) ?_
        exact ev_mk kd_107_17 rfl
      · refine Eq.trans (ev_lload (pc := 44) k_107_44 rfl rfl) ?_
        refine Eq.trans (ev_lconst (pc := 46) (v := 1) k_107_46 rfl (by decide)) ?_
        refine Eq.trans (ev_iload (pc := 47) k_107_47 rfl rfl) ?_
        refine Eq.trans (ev_lshl (pc := 49) k_107_49 rfl) ?_
        refine Eq.trans (ev_lor (pc := 50) k_107_50 rfl) ?_
        refine Eq.trans (ev_lstore (pc := 51) (lv' := [some (.ref a0), some (.ref a1), some (.int v2), some (.long w3), none, some (.long (w5 ||| ((1 : Int64) <<< (v7.toInt64 &&& 63)))), none, some (.int v7)]) k_107_51 rfl (Nat.le_of_ble_eq_true rfl) rfl) ?_
        refine Eq.trans (ev_iinc (pc := 53) (v := 1) (lv' := [some (.ref a0), some (.ref a1), some (.int v2), some (.long w3), none, some (.long (w5 ||| ((1 : Int64) <<< (v7.toInt64 &&& 63)))), none, some (.int (v7 + 1))]) k_107_53 rfl rfl (by decide) rfl) ?_
        refine Eq.trans (ev_goto (pc := 56) k_107_56.1 rfl k_107_56.2) ?_
        exact ev_mk kd_107_17 rfl
  · refine Eq.trans (ev_lload (pc := 59) k_107_59 rfl rfl) ?_
    exact ev_ret_long k_107_61 rfl rt_107

set_option maxRecDepth 100000 in
theorem E_Tk_fitsLog (sc : zSc) (d : Nat) (g : zSg) (h : zHp) (a0 : Nat) (q0 : zS4 g a0) (a1 : Nat) (q1 : zS6 g a1) (v2 : Int32) (v3 : Int32) : zRun sc (d + 1) 108 [.ref a0, .ref a1, .int v2, .int v3] g h = zE sc (d + 1) 108 6 [some (.ref a0), some (.ref a1), some (.int v2), none, some (.int v3), some (.int 0), none, none, none] [] g h := by
  have he : zEnt 108 [.ref a0, .ref a1, .int v2, .int v3] = [some (.ref a0), some (.ref a1), some (.int v2), some (.int v3), none, none, none, none, none] := by unfold zEnt; rw [ml_108]; rfl
  unfold zRun
  rw [he]
  refine Eq.trans (ev_iload_n (pc := 0) k_108_0 rfl rfl) ?_
  refine Eq.trans (ev_istore (pc := 1) (lv' := [some (.ref a0), some (.ref a1), some (.int v2), some (.int v3), some (.int v3), none, none, none, none]) k_108_1 rfl (Nat.le_of_ble_eq_true rfl) rfl) ?_
  refine Eq.trans (ev_iconst (pc := 3) (v := 0) k_108_3 rfl (by decide)) ?_
  refine Eq.trans (ev_istore (pc := 4) (lv' := [some (.ref a0), some (.ref a1), some (.int v2), some (.int v3), some (.int v3), some (.int 0), none, none, none]) k_108_4 rfl (Nat.le_of_ble_eq_true rfl) rfl) ?_
  exact ev_mk kd_108_6 rfl

set_option maxRecDepth 100000 in
theorem E_Tk_fitsLog_6 (sc : zSc) (d : Nat) (g : zSg) (h : zHp) (a0 : Nat) (q0 : zS4 g a0) (a1 : Nat) (q1 : zS6 g a1) (v2 : Int32) (v4 : Int32) (v5 : Int32) : zE sc (d + 1) 108 6 [some (.ref a0), some (.ref a1), some (.int v2), none, some (.int v4), some (.int v5), none, none, none] [] g h = (if v5 < (h.1 a0 5) then (if v5 < (60 : Int32) then (if zin ((v5 * (5 : Int32)) + (2 : Int32)) 300 = true then (zBi (zRun sc d 11 [.int v4, .int (h.1 (a0 + 5) ((v5 * (5 : Int32)) + (2 : Int32)).toNatClampNeg)] g h) g fun x1 h1 => (if zin ((v5 * (5 : Int32)) + (1 : Int32)) 300 = true then (if (h1.1 (a0 + 5) ((v5 * (5 : Int32)) + (1 : Int32)).toNatClampNeg) = v2 then zE sc (d + 1) 108 62 [some (.ref a0), some (.ref a1), some (.int v2), none, some (.int v4), some (.int v5), some (.int (v5 * (5 : Int32))), some (.int x1), none] [.int 1] g h1 else zE sc (d + 1) 108 62 [some (.ref a0), some (.ref a1), some (.int v2), none, some (.int v4), some (.int v5), some (.int (v5 * (5 : Int32))), some (.int x1), none] [.int 0] g h1) else none)) else none) else some (some (.int 1), g, h)) else some (some (.int 1), g, h)) := by
  refine Eq.trans (ev_iload (pc := 6) k_108_6 rfl rfl) ?_
  refine Eq.trans (ev_aload_n (pc := 8) (x := a0) k_108_8 rfl rfl (zIO_lt q0.1).2.2) ?_
  refine Eq.trans (ev_getI (pc := 9) k_108_9 rfl q0.1.1) ?_
  refine Eq.trans (ev_icge (pc := 12) k_108_12.1 rfl k_108_12.2) (z_ite ?_ ?_)
  · refine Eq.trans (ev_iload (pc := 15) k_108_15 rfl rfl) ?_
    refine Eq.trans (ev_bipush (pc := 17) (v := 60) k_108_17 rfl (by decide)) ?_
    refine Eq.trans (ev_icge (pc := 19) k_108_19.1 rfl k_108_19.2) (z_ite ?_ ?_)
    · refine Eq.trans (ev_iload (pc := 22) k_108_22 rfl rfl) ?_
      refine Eq.trans (ev_iconst (pc := 24) (v := 5) k_108_24 rfl (by decide)) ?_
      refine Eq.trans (ev_imul (pc := 25) k_108_25 rfl) ?_
      refine Eq.trans (ev_istore (pc := 26) (lv' := [some (.ref a0), some (.ref a1), some (.int v2), none, some (.int v4), some (.int v5), some (.int (v5 * (5 : Int32))), none, none]) k_108_26 rfl (Nat.le_of_ble_eq_true rfl) rfl) ?_
      refine Eq.trans (ev_iload (pc := 28) k_108_28 rfl rfl) ?_
      refine Eq.trans (ev_aload_n (pc := 30) (x := a0) k_108_30 rfl rfl (zIO_lt q0.1).2.2) ?_
      refine Eq.trans (ev_getR (pc := 31) (b := a0 + 5) k_108_31 rfl q0.1.1 q0.2.2.2.2.2.1) ?_
      refine Eq.trans (ev_iload (pc := 34) k_108_34 rfl rfl) ?_
      refine Eq.trans (ev_iconst (pc := 36) (v := 2) k_108_36 rfl (by decide)) ?_
      refine Eq.trans (ev_iadd (pc := 37) k_108_37 rfl) ?_
      refine Eq.trans (ev_iald_c (pc := 38) k_108_38 rfl q0.2.2.2.2.2.2.2.2.2.2) (z_it1 ?_)
      refine Eq.trans (ev_si (pc := 39) (as := [.int v4, .int (h.1 (a0 + 5) ((v5 * (5 : Int32)) + (2 : Int32)).toNatClampNeg)]) (rest := []) k_108_39 rfl rfl rfl (Nat.le_of_ble_eq_true rfl) (Nat.le_of_ble_eq_true rfl)) (z_cbi fun x1 h1 => ?_)
      refine Eq.trans (ev_istore (pc := 42) (lv' := [some (.ref a0), some (.ref a1), some (.int v2), none, some (.int v4), some (.int v5), some (.int (v5 * (5 : Int32))), some (.int x1), none]) k_108_42 rfl (Nat.le_of_ble_eq_true rfl) rfl) ?_
      refine Eq.trans (ev_aload_n (pc := 44) (x := a0) k_108_44 rfl rfl (zIO_lt q0.1).2.2) ?_
      refine Eq.trans (ev_getR (pc := 45) (b := a0 + 5) k_108_45 rfl q0.1.1 q0.2.2.2.2.2.1) ?_
      refine Eq.trans (ev_iload (pc := 48) k_108_48 rfl rfl) ?_
      refine Eq.trans (ev_iconst (pc := 50) (v := 1) k_108_50 rfl (by decide)) ?_
      refine Eq.trans (ev_iadd (pc := 51) k_108_51 rfl) ?_
      refine Eq.trans (ev_iald_c (pc := 52) k_108_52 rfl q0.2.2.2.2.2.2.2.2.2.2) (z_it1 ?_)
      refine Eq.trans (ev_iload_n (pc := 53) k_108_53 rfl rfl) ?_
      refine Eq.trans (ev_icne (pc := 54) k_108_54.1 rfl k_108_54.2) (z_ite ?_ ?_)
      · refine Eq.trans (ev_iconst (pc := 57) (v := 1) k_108_57 rfl (by decide)) ?_
        refine Eq.trans (ev_goto (pc := 58) k_108_58.1 rfl k_108_58.2) ?_
        exact ev_mk kd_108_62 rfl
      · refine Eq.trans (ev_iconst (pc := 61) (v := 0) k_108_61 rfl (by decide)) ?_
        exact ev_mk kd_108_62 rfl
    · refine Eq.trans (ev_mk (pc := 159) (lv' := [none, none, none, none, none, none, none, none, none]) kd_108_159 rfl) ?_
      refine Eq.trans (ev_iconst (pc := 159) (v := 1) k_108_159 rfl (by decide)) ?_
      exact ev_ret_b1 k_108_160 rfl rt_108 (by decide)
  · refine Eq.trans (ev_mk (pc := 159) (lv' := [none, none, none, none, none, none, none, none, none]) kd_108_159 rfl) ?_
    refine Eq.trans (ev_iconst (pc := 159) (v := 1) k_108_159 rfl (by decide)) ?_
    exact ev_ret_b1 k_108_160 rfl rt_108 (by decide)

set_option maxRecDepth 100000 in
theorem E_Tk_fitsLog_62 (sc : zSc) (d : Nat) (g : zSg) (h : zHp) (a0 : Nat) (q0 : zS4 g a0) (a1 : Nat) (q1 : zS6 g a1) (v2 : Int32) (v4 : Int32) (v5 : Int32) (v6 : Int32) (v7 : Int32) (s0 : Int32) : zE sc (d + 1) 108 62 [some (.ref a0), some (.ref a1), some (.int v2), none, some (.int v4), some (.int v5), some (.int v6), some (.int v7), none] [.int s0] g h = (if zin v6 300 = true then (if (h.1 (a0 + 5) v6.toNatClampNeg) = v2 then (if v7 = 0 then some (some (.int 0), g, h) else zE sc (d + 1) 108 82 [some (.ref a0), some (.ref a1), some (.int v2), none, some (.int v4), some (.int v5), some (.int v6), some (.int v7), some (.int s0)] [] g h) else zE sc (d + 1) 108 82 [some (.ref a0), some (.ref a1), some (.int v2), none, some (.int v4), some (.int v5), some (.int v6), some (.int v7), some (.int s0)] [] g h) else none) := by
  refine Eq.trans (ev_istore (pc := 62) (lv' := [some (.ref a0), some (.ref a1), some (.int v2), none, some (.int v4), some (.int v5), some (.int v6), some (.int v7), some (.int s0)]) k_108_62 rfl (Nat.le_of_ble_eq_true rfl) rfl) ?_
  refine Eq.trans (ev_aload_n (pc := 64) (x := a0) k_108_64 rfl rfl (zIO_lt q0.1).2.2) ?_
  refine Eq.trans (ev_getR (pc := 65) (b := a0 + 5) k_108_65 rfl q0.1.1 q0.2.2.2.2.2.1) ?_
  refine Eq.trans (ev_iload (pc := 68) k_108_68 rfl rfl) ?_
  refine Eq.trans (ev_iald_c (pc := 70) k_108_70 rfl q0.2.2.2.2.2.2.2.2.2.2) (z_it1 ?_)
  refine Eq.trans (ev_iload_n (pc := 71) k_108_71 rfl rfl) ?_
  refine Eq.trans (ev_icne (pc := 72) k_108_72.1 rfl k_108_72.2) (z_ite ?_ ?_)
  · refine Eq.trans (ev_iload (pc := 75) k_108_75 rfl rfl) ?_
    refine Eq.trans (ev_ifne (pc := 77) k_108_77.1 rfl k_108_77.2) (z_ite ?_ ?_)
    · refine Eq.trans (ev_iconst (pc := 80) (v := 0) k_108_80 rfl (by decide)) ?_
      exact ev_ret_b1 k_108_81 rfl rt_108 (by decide)
    · exact ev_mk kd_108_82 rfl
  · exact ev_mk kd_108_82 rfl

set_option maxRecDepth 100000 in
theorem E_Tk_fitsLog_82 (sc : zSc) (d : Nat) (g : zSg) (h : zHp) (a0 : Nat) (q0 : zS4 g a0) (a1 : Nat) (q1 : zS6 g a1) (v2 : Int32) (v4 : Int32) (v5 : Int32) (v6 : Int32) (v7 : Int32) (v8 : Int32) : zE sc (d + 1) 108 82 [some (.ref a0), some (.ref a1), some (.int v2), none, some (.int v4), some (.int v5), some (.int v6), some (.int v7), some (.int v8)] [] g h = (if v8 = 0 then zE sc (d + 1) 108 112 [some (.ref a0), some (.ref a1), some (.int v2), none, some (.int v4), some (.int v5), some (.int v6), none, some (.int v8)] [] g h else (if zin (v6 + (4 : Int32)) 300 = true then (if (h.1 (a0 + 5) (v6 + (4 : Int32)).toNatClampNeg) = (1 : Int32) then zE sc (d + 1) 108 107 [some (.ref a0), some (.ref a1), some (.int v2), none, some (.int v4), some (.int v5), some (.int v6), none, some (.int v8)] [.int 1, .int v7] g h else zE sc (d + 1) 108 107 [some (.ref a0), some (.ref a1), some (.int v2), none, some (.int v4), some (.int v5), some (.int v6), none, some (.int v8)] [.int 0, .int v7] g h) else none)) := by
  refine Eq.trans (ev_iload (pc := 82) k_108_82 rfl rfl) ?_
  refine Eq.trans (ev_ifeq (pc := 84) k_108_84.1 rfl k_108_84.2) (z_ite ?_ ?_)
  · exact ev_mk kd_108_112 rfl
  · refine Eq.trans (ev_iload (pc := 87) k_108_87 rfl rfl) ?_
    refine Eq.trans (ev_aload_n (pc := 89) (x := a0) k_108_89 rfl rfl (zIO_lt q0.1).2.2) ?_
    refine Eq.trans (ev_getR (pc := 90) (b := a0 + 5) k_108_90 rfl q0.1.1 q0.2.2.2.2.2.1) ?_
    refine Eq.trans (ev_iload (pc := 93) k_108_93 rfl rfl) ?_
    refine Eq.trans (ev_iconst (pc := 95) (v := 4) k_108_95 rfl (by decide)) ?_
    refine Eq.trans (ev_iadd (pc := 96) k_108_96 rfl) ?_
    refine Eq.trans (ev_iald_c (pc := 97) k_108_97 rfl q0.2.2.2.2.2.2.2.2.2.2) (z_it1 ?_)
    refine Eq.trans (ev_iconst (pc := 98) (v := 1) k_108_98 rfl (by decide)) ?_
    refine Eq.trans (ev_icne (pc := 99) k_108_99.1 rfl k_108_99.2) (z_ite ?_ ?_)
    · refine Eq.trans (ev_iconst (pc := 102) (v := 1) k_108_102 rfl (by decide)) ?_
      refine Eq.trans (ev_goto (pc := 103) k_108_103.1 rfl k_108_103.2) ?_
      exact ev_mk kd_108_107 rfl
    · refine Eq.trans (ev_iconst (pc := 106) (v := 0) k_108_106 rfl (by decide)) ?_
      exact ev_mk kd_108_107 rfl

set_option maxRecDepth 100000 in
theorem E_Tk_fitsLog_107 (sc : zSc) (d : Nat) (g : zSg) (h : zHp) (a0 : Nat) (q0 : zS4 g a0) (a1 : Nat) (q1 : zS6 g a1) (v2 : Int32) (v4 : Int32) (v5 : Int32) (v6 : Int32) (v8 : Int32) (s0 : Int32) (s1 : Int32) : zE sc (d + 1) 108 107 [some (.ref a0), some (.ref a1), some (.int v2), none, some (.int v4), some (.int v5), some (.int v6), none, some (.int v8)] [.int s0, .int s1] g h = (if s1 = s0 then zE sc (d + 1) 108 112 [some (.ref a0), some (.ref a1), some (.int v2), none, some (.int v4), some (.int v5), some (.int v6), none, some (.int v8)] [] g h else some (some (.int 0), g, h)) := by
  refine Eq.trans (ev_iceq (pc := 107) k_108_107.1 rfl k_108_107.2) (z_ite ?_ ?_)
  · exact ev_mk kd_108_112 rfl
  · refine Eq.trans (ev_iconst (pc := 110) (v := 0) k_108_110 rfl (by decide)) ?_
    exact ev_ret_b1 k_108_111 rfl rt_108 (by decide)

set_option maxRecDepth 100000 in
theorem E_Tk_fitsLog_112 (sc : zSc) (d : Nat) (g : zSg) (h : zHp) (a0 : Nat) (q0 : zS4 g a0) (a1 : Nat) (q1 : zS6 g a1) (v2 : Int32) (v4 : Int32) (v5 : Int32) (v6 : Int32) (v8 : Int32) : zE sc (d + 1) 108 112 [some (.ref a0), some (.ref a1), some (.int v2), none, some (.int v4), some (.int v5), some (.int v6), none, some (.int v8)] [] g h = (if v8 = 0 then (if zin (v6 + (3 : Int32)) 300 = true then (zBi (zRun sc d 11 [.int (h.1 (a0 + 5) (v6 + (3 : Int32)).toNatClampNeg), .int v2] g h) g fun x1 h1 => (if x1 = 0 then zE sc (d + 1) 108 6 [some (.ref a0), some (.ref a1), some (.int v2), none, some (.int v4), some (.int (v5 + 1)), none, none, none] [] g h1 else zE sc (d + 1) 108 133 [some (.ref a0), some (.ref a1), some (.int v2), none, some (.int v4), some (.int v5), some (.int v6), none, none] [] g h1)) else none) else zE sc (d + 1) 108 133 [some (.ref a0), some (.ref a1), some (.int v2), none, some (.int v4), some (.int v5), some (.int v6), none, none] [] g h) := by
  refine Eq.trans (ev_iload (pc := 112) k_108_112 rfl rfl) ?_
  refine Eq.trans (ev_ifne (pc := 114) k_108_114.1 rfl k_108_114.2) (z_ite ?_ ?_)
  · refine Eq.trans (ev_aload_n (pc := 117) (x := a0) k_108_117 rfl rfl (zIO_lt q0.1).2.2) ?_
    refine Eq.trans (ev_getR (pc := 118) (b := a0 + 5) k_108_118 rfl q0.1.1 q0.2.2.2.2.2.1) ?_
    refine Eq.trans (ev_iload (pc := 121) k_108_121 rfl rfl) ?_
    refine Eq.trans (ev_iconst (pc := 123) (v := 3) k_108_123 rfl (by decide)) ?_
    refine Eq.trans (ev_iadd (pc := 124) k_108_124 rfl) ?_
    refine Eq.trans (ev_iald_c (pc := 125) k_108_125 rfl q0.2.2.2.2.2.2.2.2.2.2) (z_it1 ?_)
    refine Eq.trans (ev_iload_n (pc := 126) k_108_126 rfl rfl) ?_
    refine Eq.trans (ev_si (pc := 127) (as := [.int (h.1 (a0 + 5) (v6 + (3 : Int32)).toNatClampNeg), .int v2]) (rest := []) k_108_127 rfl rfl rfl (Nat.le_of_ble_eq_true rfl) (Nat.le_of_ble_eq_true rfl)) (z_cbi fun x1 h1 => ?_)
    refine Eq.trans (ev_ifeq (pc := 130) k_108_130.1 rfl k_108_130.2) (z_ite ?_ ?_)
    · refine Eq.trans (ev_mk (pc := 153) (lv' := [some (.ref a0), some (.ref a1), some (.int v2), none, some (.int v4), some (.int v5), none, none, none]) kd_108_153 rfl) ?_
      refine Eq.trans (ev_iinc (pc := 153) (v := 1) (lv' := [some (.ref a0), some (.ref a1), some (.int v2), none, some (.int v4), some (.int (v5 + 1)), none, none, none]) k_108_153 rfl rfl (by decide) rfl) ?_
      refine Eq.trans (ev_goto (pc := 156) k_108_156.1 rfl k_108_156.2) ?_
      exact ev_mk kd_108_6 rfl
    · exact ev_mk kd_108_133 rfl
  · exact ev_mk kd_108_133 rfl

set_option maxRecDepth 100000 in
theorem E_Tk_fitsLog_133 (sc : zSc) (d : Nat) (g : zSg) (h : zHp) (a0 : Nat) (q0 : zS4 g a0) (a1 : Nat) (q1 : zS6 g a1) (v2 : Int32) (v4 : Int32) (v5 : Int32) (v6 : Int32) : zE sc (d + 1) 108 133 [some (.ref a0), some (.ref a1), some (.int v2), none, some (.int v4), some (.int v5), some (.int v6), none, none] [] g h = (if zin (v6 + (2 : Int32)) 300 = true then (zBi (zRun sc d 18 [.ref a1, .int (v4 ||| ((1 : Int32) <<< ((h.1 (a0 + 5) (v6 + (2 : Int32)).toNatClampNeg) &&& 31)))] g h) g fun x1 h1 => zE sc (d + 1) 108 6 [some (.ref a0), some (.ref a1), some (.int v2), none, some (.int x1), some (.int (v5 + 1)), none, none, none] [] g h1) else none) := by
  refine Eq.trans (ev_aload_n (pc := 133) (x := a1) k_108_133 rfl rfl (zIO_lt q1.1).2.2) ?_
  refine Eq.trans (ev_iload (pc := 134) k_108_134 rfl rfl) ?_
  refine Eq.trans (ev_iconst (pc := 136) (v := 1) k_108_136 rfl (by decide)) ?_
  refine Eq.trans (ev_aload_n (pc := 137) (x := a0) k_108_137 rfl rfl (zIO_lt q0.1).2.2) ?_
  refine Eq.trans (ev_getR (pc := 138) (b := a0 + 5) k_108_138 rfl q0.1.1 q0.2.2.2.2.2.1) ?_
  refine Eq.trans (ev_iload (pc := 141) k_108_141 rfl rfl) ?_
  refine Eq.trans (ev_iconst (pc := 143) (v := 2) k_108_143 rfl (by decide)) ?_
  refine Eq.trans (ev_iadd (pc := 144) k_108_144 rfl) ?_
  refine Eq.trans (ev_iald_c (pc := 145) k_108_145 rfl q0.2.2.2.2.2.2.2.2.2.2) (z_it1 ?_)
  refine Eq.trans (ev_ishl (pc := 146) k_108_146 rfl) ?_
  refine Eq.trans (ev_ior (pc := 147) k_108_147 rfl) ?_
  refine Eq.trans (ev_vi (pc := 148) (as := [.int (v4 ||| ((1 : Int32) <<< ((h.1 (a0 + 5) (v6 + (2 : Int32)).toNatClampNeg) &&& 31)))]) (rest := []) k_108_148 rfl q1.1 rfl rfl (Nat.le_of_ble_eq_true rfl) (Nat.le_of_ble_eq_true rfl)) (z_cbi fun x1 h1 => ?_)
  refine Eq.trans (ev_istore (pc := 151) (lv' := [some (.ref a0), some (.ref a1), some (.int v2), none, some (.int x1), some (.int v5), some (.int v6), none, none]) k_108_151 rfl (Nat.le_of_ble_eq_true rfl) rfl) ?_
  refine Eq.trans (ev_mk (pc := 153) (lv' := [some (.ref a0), some (.ref a1), some (.int v2), none, some (.int x1), some (.int v5), none, none, none]) kd_108_153 rfl) ?_
  refine Eq.trans (ev_iinc (pc := 153) (v := 1) (lv' := [some (.ref a0), some (.ref a1), some (.int v2), none, some (.int x1), some (.int (v5 + 1)), none, none, none]) k_108_153 rfl rfl (by decide) rfl) ?_
  refine Eq.trans (ev_goto (pc := 156) k_108_156.1 rfl k_108_156.2) ?_
  exact ev_mk kd_108_6 rfl

set_option maxRecDepth 100000 in
theorem E_Tk_sureness (sc : zSc) (d : Nat) (g : zSg) (h : zHp) (a0 : Nat) (q0 : zS4 g a0) (a1 : Nat) (q1 : zS6 g a1) (v2 : Int32) : zRun sc (d + 1) 110 [.ref a0, .ref a1, .int v2] g h = zE sc (d + 1) 110 5 [some (.ref a0), some (.ref a1), some (.int v2), some (.int 0), some (.int 0)] [] g h := by
  have he : zEnt 110 [.ref a0, .ref a1, .int v2] = [some (.ref a0), some (.ref a1), some (.int v2), none, none] := by unfold zEnt; rw [ml_110]; rfl
  unfold zRun
  rw [he]
  refine Eq.trans (ev_iconst (pc := 0) (v := 0) k_110_0 rfl (by decide)) ?_
  refine Eq.trans (ev_istore_n (pc := 1) (lv' := [some (.ref a0), some (.ref a1), some (.int v2), some (.int 0), none]) k_110_1 rfl (Nat.le_of_ble_eq_true rfl) rfl) ?_
  refine Eq.trans (ev_iconst (pc := 2) (v := 0) k_110_2 rfl (by decide)) ?_
  refine Eq.trans (ev_istore (pc := 3) (lv' := [some (.ref a0), some (.ref a1), some (.int v2), some (.int 0), some (.int 0)]) k_110_3 rfl (Nat.le_of_ble_eq_true rfl) rfl) ?_
  exact ev_mk kd_110_5 rfl

set_option maxRecDepth 100000 in
theorem E_Tk_sureness_5 (sc : zSc) (d : Nat) (g : zSg) (h : zHp) (a0 : Nat) (q0 : zS4 g a0) (a1 : Nat) (q1 : zS6 g a1) (v2 : Int32) (v3 : Int32) (v4 : Int32) : zE sc (d + 1) 110 5 [some (.ref a0), some (.ref a1), some (.int v2), some (.int v3), some (.int v4)] [] g h = (if v4 < (h.1 a1 1) then (if v4 = v2 then zE sc (d + 1) 110 5 [some (.ref a0), some (.ref a1), some (.int v2), some (.int v3), some (.int (v4 + 1))] [] g h else (zBi (zRun sc d 65 [.ref a0, .ref a1, .int v2, .int v4] g h) g fun x1 h1 => (zBi (zRun sc d 96 [.int x1] g h1) g fun x2 h2 => (zBi (zRun sc d 67 [.ref a0, .ref a1, .int v2, .int v4] g h2) g fun x3 h3 => (zBi (zRun sc d 96 [.int x3] g h3) g fun x4 h4 => zE sc (d + 1) 110 5 [some (.ref a0), some (.ref a1), some (.int v2), some (.int ((v3 + x2) + x4)), some (.int (v4 + 1))] [] g h4))))) else some (some (.int v3), g, h)) := by
  refine Eq.trans (ev_iload (pc := 5) k_110_5 rfl rfl) ?_
  refine Eq.trans (ev_aload_n (pc := 7) (x := a1) k_110_7 rfl rfl (zIO_lt q1.1).2.2) ?_
  refine Eq.trans (ev_getI (pc := 8) k_110_8 rfl q1.1.1) ?_
  refine Eq.trans (ev_icge (pc := 11) k_110_11.1 rfl k_110_11.2) (z_ite ?_ ?_)
  · refine Eq.trans (ev_iload (pc := 14) k_110_14 rfl rfl) ?_
    refine Eq.trans (ev_iload_n (pc := 16) k_110_16 rfl rfl) ?_
    refine Eq.trans (ev_iceq (pc := 17) k_110_17.1 rfl k_110_17.2) (z_ite ?_ ?_)
    · refine Eq.trans (ev_iinc (pc := 48) (v := 1) (lv' := [some (.ref a0), some (.ref a1), some (.int v2), some (.int v3), some (.int (v4 + 1))]) k_110_48 rfl rfl (by decide) rfl) ?_
      refine Eq.trans (ev_goto (pc := 51) k_110_51.1 rfl k_110_51.2) ?_
      exact ev_mk kd_110_5 rfl
    · refine Eq.trans (ev_iload_n (pc := 20) k_110_20 rfl rfl) ?_
      refine Eq.trans (ev_aload_n (pc := 21) (x := a0) k_110_21 rfl rfl (zIO_lt q0.1).2.2) ?_
      refine Eq.trans (ev_aload_n (pc := 22) (x := a1) k_110_22 rfl rfl (zIO_lt q1.1).2.2) ?_
      refine Eq.trans (ev_iload_n (pc := 23) k_110_23 rfl rfl) ?_
      refine Eq.trans (ev_iload (pc := 24) k_110_24 rfl rfl) ?_
      refine Eq.trans (ev_vi (pc := 26) (as := [.ref a1, .int v2, .int v4]) (rest := [.int v3]) k_110_26 rfl q0.1 rfl rfl (Nat.le_of_ble_eq_true rfl) (Nat.le_of_ble_eq_true rfl)) (z_cbi fun x1 h1 => ?_)
      refine Eq.trans (ev_si (pc := 29) (as := [.int x1]) (rest := [.int v3]) k_110_29 rfl rfl rfl (Nat.le_of_ble_eq_true rfl) (Nat.le_of_ble_eq_true rfl)) (z_cbi fun x2 h2 => ?_)
      refine Eq.trans (ev_iadd (pc := 32) k_110_32 rfl) ?_
      refine Eq.trans (ev_istore_n (pc := 33) (lv' := [some (.ref a0), some (.ref a1), some (.int v2), some (.int (v3 + x2)), some (.int v4)]) k_110_33 rfl (Nat.le_of_ble_eq_true rfl) rfl) ?_
      refine Eq.trans (ev_iload_n (pc := 34) k_110_34 rfl rfl) ?_
      refine Eq.trans (ev_aload_n (pc := 35) (x := a0) k_110_35 rfl rfl (zIO_lt q0.1).2.2) ?_
      refine Eq.trans (ev_aload_n (pc := 36) (x := a1) k_110_36 rfl rfl (zIO_lt q1.1).2.2) ?_
      refine Eq.trans (ev_iload_n (pc := 37) k_110_37 rfl rfl) ?_
      refine Eq.trans (ev_iload (pc := 38) k_110_38 rfl rfl) ?_
      refine Eq.trans (ev_vi (pc := 40) (as := [.ref a1, .int v2, .int v4]) (rest := [.int (v3 + x2)]) k_110_40 rfl q0.1 rfl rfl (Nat.le_of_ble_eq_true rfl) (Nat.le_of_ble_eq_true rfl)) (z_cbi fun x3 h3 => ?_)
      refine Eq.trans (ev_si (pc := 43) (as := [.int x3]) (rest := [.int (v3 + x2)]) k_110_43 rfl rfl rfl (Nat.le_of_ble_eq_true rfl) (Nat.le_of_ble_eq_true rfl)) (z_cbi fun x4 h4 => ?_)
      refine Eq.trans (ev_iadd (pc := 46) k_110_46 rfl) ?_
      refine Eq.trans (ev_istore_n (pc := 47) (lv' := [some (.ref a0), some (.ref a1), some (.int v2), some (.int ((v3 + x2) + x4)), some (.int v4)]) k_110_47 rfl (Nat.le_of_ble_eq_true rfl) rfl) ?_
      refine Eq.trans (ev_iinc (pc := 48) (v := 1) (lv' := [some (.ref a0), some (.ref a1), some (.int v2), some (.int ((v3 + x2) + x4)), some (.int (v4 + 1))]) k_110_48 rfl rfl (by decide) rfl) ?_
      refine Eq.trans (ev_goto (pc := 51) k_110_51.1 rfl k_110_51.2) ?_
      exact ev_mk kd_110_5 rfl
  · refine Eq.trans (ev_iload_n (pc := 54) k_110_54 rfl rfl) ?_
    exact ev_ret_int k_110_55 rfl rt_110

set_option maxRecDepth 100000 in
theorem E_Tk_draw (sc : zSc) (d : Nat) (g : zSg) (h : zHp) (a0 : Nat) (q0 : zS4 g a0) (v1 : Int32) : zRun sc d 119 [.ref a0, .int v1] g h = (if 0 < v1 then (if v1 = 0 then none else some (some (.int ((((zPI h a0 6 ((((((h.1 a0 6).toInt64) * (1103515245 : Int64)) + (12345 : Int64)) &&& (2147483647 : Int64)).toInt32)).1 a0 6) / (65536 : Int32)) - (((zPI h a0 6 ((((((h.1 a0 6).toInt64) * (1103515245 : Int64)) + (12345 : Int64)) &&& (2147483647 : Int64)).toInt32)).1 a0 6) / (65536 : Int32)) / v1 * v1)), g, zPI h a0 6 ((((((h.1 a0 6).toInt64) * (1103515245 : Int64)) + (12345 : Int64)) &&& (2147483647 : Int64)).toInt32))) else some (some (.int 0), g, zPI h a0 6 ((((((h.1 a0 6).toInt64) * (1103515245 : Int64)) + (12345 : Int64)) &&& (2147483647 : Int64)).toInt32))) := by
  have he : zEnt 119 [.ref a0, .int v1] = [some (.ref a0), some (.int v1)] := by unfold zEnt; rw [ml_119]; rfl
  unfold zRun
  rw [he]
  refine Eq.trans (ev_aload_n (pc := 0) (x := a0) k_119_0 rfl rfl (zIO_lt q0.1).2.2) ?_
  refine Eq.trans (ev_aload_n (pc := 1) (x := a0) k_119_1 rfl rfl (zIO_lt q0.1).2.2) ?_
  refine Eq.trans (ev_getI (pc := 2) k_119_2 rfl q0.1.1) ?_
  refine Eq.trans (ev_i2l (pc := 5) k_119_5 rfl) ?_
  refine Eq.trans (ev_ldc2 (pc := 6) (v := 1103515245) k_119_6 rfl) ?_
  refine Eq.trans (ev_lmul (pc := 9) k_119_9 rfl) ?_
  refine Eq.trans (ev_ldc2 (pc := 10) (v := 12345) k_119_10 rfl) ?_
  refine Eq.trans (ev_ladd (pc := 13) k_119_13 rfl) ?_
  refine Eq.trans (ev_ldc2 (pc := 14) (v := 2147483647) k_119_14 rfl) ?_
  refine Eq.trans (ev_land (pc := 17) k_119_17 rfl) ?_
  refine Eq.trans (ev_l2i (pc := 18) k_119_18 rfl) ?_
  refine Eq.trans (ev_putI (pc := 19) k_119_19 rfl q0.1.1) ?_
  refine Eq.trans (ev_iload_n (pc := 22) k_119_22 rfl rfl) ?_
  refine Eq.trans (ev_ifle (pc := 23) k_119_23.1 rfl k_119_23.2) (z_ite ?_ ?_)
  · refine Eq.trans (ev_aload_n (pc := 26) (x := a0) k_119_26 rfl rfl (zIO_lt q0.1).2.2) ?_
    refine Eq.trans (ev_getI (pc := 27) k_119_27 rfl q0.1.1) ?_
    refine Eq.trans (ev_ldc (pc := 30) (v := 65536) k_119_30 rfl) ?_
    refine Eq.trans (ev_idiv (pc := 32) k_119_32 rfl (by decide)) ?_
    refine Eq.trans (ev_iload_n (pc := 33) k_119_33 rfl rfl) ?_
    refine Eq.trans (ev_irem_c (pc := 34) k_119_34 rfl) (z_it2 ?_)
    refine Eq.trans (ev_goto (pc := 35) k_119_35.1 rfl k_119_35.2) ?_
    refine Eq.trans (ev_mk (pc := 39) (lv' := [none, none]) kd_119_39 rfl) ?_
    exact ev_ret_int k_119_39 rfl rt_119
  · refine Eq.trans (ev_iconst (pc := 38) (v := 0) k_119_38 rfl (by decide)) ?_
    refine Eq.trans (ev_mk (pc := 39) (lv' := [none, none]) kd_119_39 rfl) ?_
    exact ev_ret_int k_119_39 rfl rt_119

set_option maxRecDepth 100000 in
theorem E_Tk_copyFrom (sc : zSc) (d : Nat) (g : zSg) (h : zHp) (a0 : Nat) (q0 : zS4 g a0) (a1 : Nat) (q1 : zS4 g a1) : zRun sc (d + 1) 123 [.ref a0, .ref a1] g h = some (none, g, zPI (zPI (zCI (zCL (zCI (zCI (zCI h (a1 + 1) (a0 + 1) (0 : Int32).toNatClampNeg (0 : Int32).toNatClampNeg (5 : Int32).toNatClampNeg) (a1 + 2) (a0 + 2) (0 : Int32).toNatClampNeg (0 : Int32).toNatClampNeg (5 : Int32).toNatClampNeg) (a1 + 3) (a0 + 3) (0 : Int32).toNatClampNeg (0 : Int32).toNatClampNeg (5 : Int32).toNatClampNeg) (a1 + 4) (a0 + 4) (0 : Int32).toNatClampNeg (0 : Int32).toNatClampNeg (25 : Int32).toNatClampNeg) (a1 + 5) (a0 + 5) (0 : Int32).toNatClampNeg (0 : Int32).toNatClampNeg (300 : Int32).toNatClampNeg) a0 5 ((zCI (zCL (zCI (zCI (zCI h (a1 + 1) (a0 + 1) (0 : Int32).toNatClampNeg (0 : Int32).toNatClampNeg (5 : Int32).toNatClampNeg) (a1 + 2) (a0 + 2) (0 : Int32).toNatClampNeg (0 : Int32).toNatClampNeg (5 : Int32).toNatClampNeg) (a1 + 3) (a0 + 3) (0 : Int32).toNatClampNeg (0 : Int32).toNatClampNeg (5 : Int32).toNatClampNeg) (a1 + 4) (a0 + 4) (0 : Int32).toNatClampNeg (0 : Int32).toNatClampNeg (25 : Int32).toNatClampNeg) (a1 + 5) (a0 + 5) (0 : Int32).toNatClampNeg (0 : Int32).toNatClampNeg (300 : Int32).toNatClampNeg).1 a1 5)) a0 6 ((zPI (zCI (zCL (zCI (zCI (zCI h (a1 + 1) (a0 + 1) (0 : Int32).toNatClampNeg (0 : Int32).toNatClampNeg (5 : Int32).toNatClampNeg) (a1 + 2) (a0 + 2) (0 : Int32).toNatClampNeg (0 : Int32).toNatClampNeg (5 : Int32).toNatClampNeg) (a1 + 3) (a0 + 3) (0 : Int32).toNatClampNeg (0 : Int32).toNatClampNeg (5 : Int32).toNatClampNeg) (a1 + 4) (a0 + 4) (0 : Int32).toNatClampNeg (0 : Int32).toNatClampNeg (25 : Int32).toNatClampNeg) (a1 + 5) (a0 + 5) (0 : Int32).toNatClampNeg (0 : Int32).toNatClampNeg (300 : Int32).toNatClampNeg) a0 5 ((zCI (zCL (zCI (zCI (zCI h (a1 + 1) (a0 + 1) (0 : Int32).toNatClampNeg (0 : Int32).toNatClampNeg (5 : Int32).toNatClampNeg) (a1 + 2) (a0 + 2) (0 : Int32).toNatClampNeg (0 : Int32).toNatClampNeg (5 : Int32).toNatClampNeg) (a1 + 3) (a0 + 3) (0 : Int32).toNatClampNeg (0 : Int32).toNatClampNeg (5 : Int32).toNatClampNeg) (a1 + 4) (a0 + 4) (0 : Int32).toNatClampNeg (0 : Int32).toNatClampNeg (25 : Int32).toNatClampNeg) (a1 + 5) (a0 + 5) (0 : Int32).toNatClampNeg (0 : Int32).toNatClampNeg (300 : Int32).toNatClampNeg).1 a1 5)).1 a1 6)) := by
  have he : zEnt 123 [.ref a0, .ref a1] = [some (.ref a0), some (.ref a1)] := by unfold zEnt; rw [ml_123]; rfl
  unfold zRun
  rw [he]
  refine Eq.trans (ev_aload_n (pc := 0) (x := a1) k_123_0 rfl rfl (zIO_lt q1.1).2.2) ?_
  refine Eq.trans (ev_getR (pc := 1) (b := a1 + 1) k_123_1 rfl q1.1.1 q1.2.1) ?_
  refine Eq.trans (ev_iconst (pc := 4) (v := 0) k_123_4 rfl (by decide)) ?_
  refine Eq.trans (ev_aload_n (pc := 5) (x := a0) k_123_5 rfl rfl (zIO_lt q0.1).2.2) ?_
  refine Eq.trans (ev_getR (pc := 6) (b := a0 + 1) k_123_6 rfl q0.1.1 q0.2.1) ?_
  refine Eq.trans (ev_iconst (pc := 9) (v := 0) k_123_9 rfl (by decide)) ?_
  refine Eq.trans (ev_iconst (pc := 10) (v := 5) k_123_10 rfl (by decide)) ?_
  refine Eq.trans (ev_cpyI (pc := 11) k_123_11 rfl q1.2.2.2.2.2.2.1 q0.2.2.2.2.2.2.1 (Nat.le_of_ble_eq_true rfl) (by decide)) ?_
  refine Eq.trans (ev_aload_n (pc := 14) (x := a1) k_123_14 rfl rfl (zIO_lt q1.1).2.2) ?_
  refine Eq.trans (ev_getR (pc := 15) (b := a1 + 2) k_123_15 rfl q1.1.1 q1.2.2.1) ?_
  refine Eq.trans (ev_iconst (pc := 18) (v := 0) k_123_18 rfl (by decide)) ?_
  refine Eq.trans (ev_aload_n (pc := 19) (x := a0) k_123_19 rfl rfl (zIO_lt q0.1).2.2) ?_
  refine Eq.trans (ev_getR (pc := 20) (b := a0 + 2) k_123_20 rfl q0.1.1 q0.2.2.1) ?_
  refine Eq.trans (ev_iconst (pc := 23) (v := 0) k_123_23 rfl (by decide)) ?_
  refine Eq.trans (ev_iconst (pc := 24) (v := 5) k_123_24 rfl (by decide)) ?_
  refine Eq.trans (ev_cpyI (pc := 25) k_123_25 rfl q1.2.2.2.2.2.2.2.1 q0.2.2.2.2.2.2.2.1 (Nat.le_of_ble_eq_true rfl) (by decide)) ?_
  refine Eq.trans (ev_aload_n (pc := 28) (x := a1) k_123_28 rfl rfl (zIO_lt q1.1).2.2) ?_
  refine Eq.trans (ev_getR (pc := 29) (b := a1 + 3) k_123_29 rfl q1.1.1 q1.2.2.2.1) ?_
  refine Eq.trans (ev_iconst (pc := 32) (v := 0) k_123_32 rfl (by decide)) ?_
  refine Eq.trans (ev_aload_n (pc := 33) (x := a0) k_123_33 rfl rfl (zIO_lt q0.1).2.2) ?_
  refine Eq.trans (ev_getR (pc := 34) (b := a0 + 3) k_123_34 rfl q0.1.1 q0.2.2.2.1) ?_
  refine Eq.trans (ev_iconst (pc := 37) (v := 0) k_123_37 rfl (by decide)) ?_
  refine Eq.trans (ev_iconst (pc := 38) (v := 5) k_123_38 rfl (by decide)) ?_
  refine Eq.trans (ev_cpyI (pc := 39) k_123_39 rfl q1.2.2.2.2.2.2.2.2.1 q0.2.2.2.2.2.2.2.2.1 (Nat.le_of_ble_eq_true rfl) (by decide)) ?_
  refine Eq.trans (ev_aload_n (pc := 42) (x := a1) k_123_42 rfl rfl (zIO_lt q1.1).2.2) ?_
  refine Eq.trans (ev_getR (pc := 43) (b := a1 + 4) k_123_43 rfl q1.1.1 q1.2.2.2.2.1) ?_
  refine Eq.trans (ev_iconst (pc := 46) (v := 0) k_123_46 rfl (by decide)) ?_
  refine Eq.trans (ev_aload_n (pc := 47) (x := a0) k_123_47 rfl rfl (zIO_lt q0.1).2.2) ?_
  refine Eq.trans (ev_getR (pc := 48) (b := a0 + 4) k_123_48 rfl q0.1.1 q0.2.2.2.2.1) ?_
  refine Eq.trans (ev_iconst (pc := 51) (v := 0) k_123_51 rfl (by decide)) ?_
  refine Eq.trans (ev_bipush (pc := 52) (v := 25) k_123_52 rfl (by decide)) ?_
  refine Eq.trans (ev_cpyL (pc := 54) k_123_54 rfl q1.2.2.2.2.2.2.2.2.2.1 q0.2.2.2.2.2.2.2.2.2.1 (Nat.le_of_ble_eq_true rfl) (by decide)) ?_
  refine Eq.trans (ev_aload_n (pc := 57) (x := a1) k_123_57 rfl rfl (zIO_lt q1.1).2.2) ?_
  refine Eq.trans (ev_getR (pc := 58) (b := a1 + 5) k_123_58 rfl q1.1.1 q1.2.2.2.2.2.1) ?_
  refine Eq.trans (ev_iconst (pc := 61) (v := 0) k_123_61 rfl (by decide)) ?_
  refine Eq.trans (ev_aload_n (pc := 62) (x := a0) k_123_62 rfl rfl (zIO_lt q0.1).2.2) ?_
  refine Eq.trans (ev_getR (pc := 63) (b := a0 + 5) k_123_63 rfl q0.1.1 q0.2.2.2.2.2.1) ?_
  refine Eq.trans (ev_iconst (pc := 66) (v := 0) k_123_66 rfl (by decide)) ?_
  refine Eq.trans (ev_sipush (pc := 67) (v := 300) k_123_67 rfl (by decide)) ?_
  refine Eq.trans (ev_cpyI (pc := 70) k_123_70 rfl q1.2.2.2.2.2.2.2.2.2.2 q0.2.2.2.2.2.2.2.2.2.2 (Nat.le_of_ble_eq_true rfl) (by decide)) ?_
  refine Eq.trans (ev_aload_n (pc := 73) (x := a0) k_123_73 rfl rfl (zIO_lt q0.1).2.2) ?_
  refine Eq.trans (ev_aload_n (pc := 74) (x := a1) k_123_74 rfl rfl (zIO_lt q1.1).2.2) ?_
  refine Eq.trans (ev_getI (pc := 75) k_123_75 rfl q1.1.1) ?_
  refine Eq.trans (ev_putI (pc := 78) k_123_78 rfl q0.1.1) ?_
  refine Eq.trans (ev_aload_n (pc := 81) (x := a0) k_123_81 rfl rfl (zIO_lt q0.1).2.2) ?_
  refine Eq.trans (ev_aload_n (pc := 82) (x := a1) k_123_82 rfl rfl (zIO_lt q1.1).2.2) ?_
  refine Eq.trans (ev_getI (pc := 83) k_123_83 rfl q1.1.1) ?_
  refine Eq.trans (ev_putI (pc := 86) k_123_86 rfl q0.1.1) ?_
  exact ev_ret_void k_123_89 rfl rt_123

set_option maxRecDepth 100000 in
theorem E_Bk_append (sc : zSc) (d : Nat) (h : zHp) (v1 : Int32) (v2 : Int32) (v3 : Int32) : zRun sc d 113 [.ref 21, .int v1, .int v2, .int v3] zGL h = (if (h.1 21 4) < (30 : Int32) then (if zin (h.1 21 4) 30 = true then (if zin ((zPI h 22 (h.1 21 4).toNatClampNeg v1).1 21 4) 30 = true then (if zin ((zPI (zPI h 22 (h.1 21 4).toNatClampNeg v1) 23 ((zPI h 22 (h.1 21 4).toNatClampNeg v1).1 21 4).toNatClampNeg v2).1 21 4) 30 = true then some (some (.int 1), zGL, zPI (zPI (zPI (zPI h 22 (h.1 21 4).toNatClampNeg v1) 23 ((zPI h 22 (h.1 21 4).toNatClampNeg v1).1 21 4).toNatClampNeg v2) 24 ((zPI (zPI h 22 (h.1 21 4).toNatClampNeg v1) 23 ((zPI h 22 (h.1 21 4).toNatClampNeg v1).1 21 4).toNatClampNeg v2).1 21 4).toNatClampNeg v3) 21 4 (((zPI (zPI (zPI h 22 (h.1 21 4).toNatClampNeg v1) 23 ((zPI h 22 (h.1 21 4).toNatClampNeg v1).1 21 4).toNatClampNeg v2) 24 ((zPI (zPI h 22 (h.1 21 4).toNatClampNeg v1) 23 ((zPI h 22 (h.1 21 4).toNatClampNeg v1).1 21 4).toNatClampNeg v2).1 21 4).toNatClampNeg v3).1 21 4) + (1 : Int32))) else none) else none) else none) else some (some (.int 0), zGL, h)) := by
  have he : zEnt 113 [.ref 21, .int v1, .int v2, .int v3] = [some (.ref 21), some (.int v1), some (.int v2), some (.int v3)] := by unfold zEnt; rw [ml_113]; rfl
  unfold zRun
  rw [he]
  refine Eq.trans (ev_aload_n (pc := 0) (x := 21) k_113_0 rfl rfl (by decide)) ?_
  refine Eq.trans (ev_getI (pc := 1) k_113_1 rfl zo_21.1) ?_
  refine Eq.trans (ev_bipush (pc := 4) (v := 30) k_113_4 rfl (by decide)) ?_
  refine Eq.trans (ev_iclt (pc := 6) k_113_6.1 rfl k_113_6.2) (z_ite ?_ ?_)
  · refine Eq.trans (ev_aload_n (pc := 11) (x := 21) k_113_11 rfl rfl (by decide)) ?_
    refine Eq.trans (ev_getR (pc := 12) (b := 22) k_113_12 rfl zo_21.1 zg_21_0) ?_
    refine Eq.trans (ev_aload_n (pc := 15) (x := 21) k_113_15 rfl rfl (by decide)) ?_
    refine Eq.trans (ev_getI (pc := 16) k_113_16 rfl zo_21.1) ?_
    refine Eq.trans (ev_iload_n (pc := 19) k_113_19 rfl rfl) ?_
    refine Eq.trans (ev_iast_c (pc := 20) k_113_20 rfl za_22) (z_it1 ?_)
    refine Eq.trans (ev_aload_n (pc := 21) (x := 21) k_113_21 rfl rfl (by decide)) ?_
    refine Eq.trans (ev_getR (pc := 22) (b := 23) k_113_22 rfl zo_21.1 zg_21_1) ?_
    refine Eq.trans (ev_aload_n (pc := 25) (x := 21) k_113_25 rfl rfl (by decide)) ?_
    refine Eq.trans (ev_getI (pc := 26) k_113_26 rfl zo_21.1) ?_
    refine Eq.trans (ev_iload_n (pc := 29) k_113_29 rfl rfl) ?_
    refine Eq.trans (ev_iast_c (pc := 30) k_113_30 rfl za_23) (z_it1 ?_)
    refine Eq.trans (ev_aload_n (pc := 31) (x := 21) k_113_31 rfl rfl (by decide)) ?_
    refine Eq.trans (ev_getR (pc := 32) (b := 24) k_113_32 rfl zo_21.1 zg_21_2) ?_
    refine Eq.trans (ev_aload_n (pc := 35) (x := 21) k_113_35 rfl rfl (by decide)) ?_
    refine Eq.trans (ev_getI (pc := 36) k_113_36 rfl zo_21.1) ?_
    refine Eq.trans (ev_iload_n (pc := 39) k_113_39 rfl rfl) ?_
    refine Eq.trans (ev_iast_c (pc := 40) k_113_40 rfl za_24) (z_it1 ?_)
    refine Eq.trans (ev_aload_n (pc := 41) (x := 21) k_113_41 rfl rfl (by decide)) ?_
    refine Eq.trans (ev_dup (pc := 42) k_113_42 rfl rfl) ?_
    refine Eq.trans (ev_getI (pc := 43) k_113_43 rfl zo_21.1) ?_
    refine Eq.trans (ev_iconst (pc := 46) (v := 1) k_113_46 rfl (by decide)) ?_
    refine Eq.trans (ev_iadd (pc := 47) k_113_47 rfl) ?_
    refine Eq.trans (ev_putI (pc := 48) k_113_48 rfl zo_21.1) ?_
    refine Eq.trans (ev_iconst (pc := 51) (v := 1) k_113_51 rfl (by decide)) ?_
    exact ev_ret_b1 k_113_52 rfl rt_113 (by decide)
  · refine Eq.trans (ev_iconst (pc := 9) (v := 0) k_113_9 rfl (by decide)) ?_
    exact ev_ret_b1 k_113_10 rfl rt_113 (by decide)

set_option maxRecDepth 100000 in
theorem E_Bk_firstWrong (sc : zSc) (d : Nat) (h : zHp) (a1 : Nat) (q1 : zS6 zGL a1) (a2 : Nat) (q2 : zS4 zGL a2) : zRun sc (d + 1) 116 [.ref 21, .ref a1, .ref a2] zGL h = zE sc (d + 1) 116 16 [some (.ref 21), some (.ref a1), none, some (.int 0), none, none] [] zGL (zCI h (a2 + 1) 25 (0 : Int32).toNatClampNeg (0 : Int32).toNatClampNeg (5 : Int32).toNatClampNeg) := by
  have he : zEnt 116 [.ref 21, .ref a1, .ref a2] = [some (.ref 21), some (.ref a1), some (.ref a2), none, none, none] := by unfold zEnt; rw [ml_116]; rfl
  unfold zRun
  rw [he]
  refine Eq.trans (ev_aload_n (pc := 0) (x := a2) k_116_0 rfl rfl (zIO_lt q2.1).2.2) ?_
  refine Eq.trans (ev_getR (pc := 1) (b := a2 + 1) k_116_1 rfl q2.1.1 q2.2.1) ?_
  refine Eq.trans (ev_iconst (pc := 4) (v := 0) k_116_4 rfl (by decide)) ?_
  refine Eq.trans (ev_aload_n (pc := 5) (x := 21) k_116_5 rfl rfl (by decide)) ?_
  refine Eq.trans (ev_getR (pc := 6) (b := 25) k_116_6 rfl zo_21.1 zg_21_3) ?_
  refine Eq.trans (ev_iconst (pc := 9) (v := 0) k_116_9 rfl (by decide)) ?_
  refine Eq.trans (ev_iconst (pc := 10) (v := 5) k_116_10 rfl (by decide)) ?_
  refine Eq.trans (ev_cpyI (pc := 11) k_116_11 rfl q2.2.2.2.2.2.2.1 za_25 (Nat.le_of_ble_eq_true rfl) (by decide)) ?_
  refine Eq.trans (ev_iconst (pc := 14) (v := 0) k_116_14 rfl (by decide)) ?_
  refine Eq.trans (ev_istore_n (pc := 15) (lv' := [some (.ref 21), some (.ref a1), some (.ref a2), some (.int 0), none, none]) k_116_15 rfl (Nat.le_of_ble_eq_true rfl) rfl) ?_
  exact ev_mk kd_116_16 rfl

set_option maxRecDepth 100000 in
theorem E_Bk_firstWrong_16 (sc : zSc) (d : Nat) (h : zHp) (a1 : Nat) (q1 : zS6 zGL a1) (v3 : Int32) : zE sc (d + 1) 116 16 [some (.ref 21), some (.ref a1), none, some (.int v3), none, none] [] zGL h = (if v3 < (h.1 21 4) then (if v3 < (30 : Int32) then (if zin v3 30 = true then (if zin v3 30 = true then (if zin v3 30 = true then (if zin (h.1 22 v3.toNatClampNeg) 5 = true then (zBi (zRun sc d 11 [.int (h.1 25 (h.1 22 v3.toNatClampNeg).toNatClampNeg), .int (h.1 24 v3.toNatClampNeg)] zGL h) zGL fun x1 h1 => (if x1 = 0 then some (some (.int v3), zGL, h1) else (if zin (h.1 23 v3.toNatClampNeg) 5 = true then (zBi (zRun sc d 11 [.int (h1.1 25 (h.1 23 v3.toNatClampNeg).toNatClampNeg), .int (h.1 24 v3.toNatClampNeg)] zGL h1) zGL fun x2 h2 => (if x2 = 0 then (if zin (h.1 23 v3.toNatClampNeg) 5 = true then (zBi (zRun sc d 18 [.ref a1, .int ((h2.1 25 (h.1 23 v3.toNatClampNeg).toNatClampNeg) ||| ((1 : Int32) <<< ((h.1 24 v3.toNatClampNeg) &&& 31)))] zGL h2) zGL fun x3 h3 => (if zin (h.1 23 v3.toNatClampNeg) 5 = true then zE sc (d + 1) 116 16 [some (.ref 21), some (.ref a1), none, some (.int (v3 + 1)), none, none] [] zGL (zPI h3 25 (h.1 23 v3.toNatClampNeg).toNatClampNeg x3) else none)) else none) else some (some (.int v3), zGL, h2))) else none))) else none) else none) else none) else none) else some (some (.int (-1)), zGL, h)) else some (some (.int (-1)), zGL, h)) := by
  refine Eq.trans (ev_iload_n (pc := 16) k_116_16 rfl rfl) ?_
  refine Eq.trans (ev_aload_n (pc := 17) (x := 21) k_116_17 rfl rfl (by decide)) ?_
  refine Eq.trans (ev_getI (pc := 18) k_116_18 rfl zo_21.1) ?_
  refine Eq.trans (ev_icge (pc := 21) k_116_21.1 rfl k_116_21.2) (z_ite ?_ ?_)
  · refine Eq.trans (ev_iload_n (pc := 24) k_116_24 rfl rfl) ?_
    refine Eq.trans (ev_bipush (pc := 25) (v := 30) k_116_25 rfl (by decide)) ?_
    refine Eq.trans (ev_icge (pc := 27) k_116_27.1 rfl k_116_27.2) (z_ite ?_ ?_)
    · refine Eq.trans (ev_aload_n (pc := 30) (x := 21) k_116_30 rfl rfl (by decide)) ?_
      refine Eq.trans (ev_getR (pc := 31) (b := 23) k_116_31 rfl zo_21.1 zg_21_1) ?_
      refine Eq.trans (ev_iload_n (pc := 34) k_116_34 rfl rfl) ?_
      refine Eq.trans (ev_iald_c (pc := 35) k_116_35 rfl za_23) (z_it1 ?_)
      refine Eq.trans (ev_istore (pc := 36) (lv' := [some (.ref 21), some (.ref a1), none, some (.int v3), some (.int (h.1 23 v3.toNatClampNeg)), none]) k_116_36 rfl (Nat.le_of_ble_eq_true rfl) rfl) ?_
      refine Eq.trans (ev_aload_n (pc := 38) (x := 21) k_116_38 rfl rfl (by decide)) ?_
      refine Eq.trans (ev_getR (pc := 39) (b := 24) k_116_39 rfl zo_21.1 zg_21_2) ?_
      refine Eq.trans (ev_iload_n (pc := 42) k_116_42 rfl rfl) ?_
      refine Eq.trans (ev_iald_c (pc := 43) k_116_43 rfl za_24) (z_it1 ?_)
      refine Eq.trans (ev_istore (pc := 44) (lv' := [some (.ref 21), some (.ref a1), none, some (.int v3), some (.int (h.1 23 v3.toNatClampNeg)), some (.int (h.1 24 v3.toNatClampNeg))]) k_116_44 rfl (Nat.le_of_ble_eq_true rfl) rfl) ?_
      refine Eq.trans (ev_aload_n (pc := 46) (x := 21) k_116_46 rfl rfl (by decide)) ?_
      refine Eq.trans (ev_getR (pc := 47) (b := 25) k_116_47 rfl zo_21.1 zg_21_3) ?_
      refine Eq.trans (ev_aload_n (pc := 50) (x := 21) k_116_50 rfl rfl (by decide)) ?_
      refine Eq.trans (ev_getR (pc := 51) (b := 22) k_116_51 rfl zo_21.1 zg_21_0) ?_
      refine Eq.trans (ev_iload_n (pc := 54) k_116_54 rfl rfl) ?_
      refine Eq.trans (ev_iald_c (pc := 55) k_116_55 rfl za_22) (z_it1 ?_)
      refine Eq.trans (ev_iald_c (pc := 56) k_116_56 rfl za_25) (z_it1 ?_)
      refine Eq.trans (ev_iload (pc := 57) k_116_57 rfl rfl) ?_
      refine Eq.trans (ev_si (pc := 59) (as := [.int (h.1 25 (h.1 22 v3.toNatClampNeg).toNatClampNeg), .int (h.1 24 v3.toNatClampNeg)]) (rest := []) k_116_59 rfl rfl rfl (Nat.le_of_ble_eq_true rfl) (Nat.le_of_ble_eq_true rfl)) (z_cbi fun x1 h1 => ?_)
      refine Eq.trans (ev_ifeq (pc := 62) k_116_62.1 rfl k_116_62.2) (z_ite ?_ ?_)
      · refine Eq.trans (ev_mk (pc := 80) (lv' := [none, none, none, some (.int v3), none, none]) kd_116_80 rfl) ?_
        refine Eq.trans (ev_iload_n (pc := 80) k_116_80 rfl rfl) ?_
        exact ev_ret_int k_116_81 rfl rt_116
      · refine Eq.trans (ev_aload_n (pc := 65) (x := 21) k_116_65 rfl rfl (by decide)) ?_
        refine Eq.trans (ev_getR (pc := 66) (b := 25) k_116_66 rfl zo_21.1 zg_21_3) ?_
        refine Eq.trans (ev_iload (pc := 69) k_116_69 rfl rfl) ?_
        refine Eq.trans (ev_iald_c (pc := 71) k_116_71 rfl za_25) (z_it1 ?_)
        refine Eq.trans (ev_iload (pc := 72) k_116_72 rfl rfl) ?_
        refine Eq.trans (ev_si (pc := 74) (as := [.int (h1.1 25 (h.1 23 v3.toNatClampNeg).toNatClampNeg), .int (h.1 24 v3.toNatClampNeg)]) (rest := []) k_116_74 rfl rfl rfl (Nat.le_of_ble_eq_true rfl) (Nat.le_of_ble_eq_true rfl)) (z_cbi fun x2 h2 => ?_)
        refine Eq.trans (ev_ifeq (pc := 77) k_116_77.1 rfl k_116_77.2) (z_ite ?_ ?_)
        · refine Eq.trans (ev_aload_n (pc := 82) (x := 21) k_116_82 rfl rfl (by decide)) ?_
          refine Eq.trans (ev_getR (pc := 83) (b := 25) k_116_83 rfl zo_21.1 zg_21_3) ?_
          refine Eq.trans (ev_iload (pc := 86) k_116_86 rfl rfl) ?_
          refine Eq.trans (ev_aload_n (pc := 88) (x := a1) k_116_88 rfl rfl (zIO_lt q1.1).2.2) ?_
          refine Eq.trans (ev_aload_n (pc := 89) (x := 21) k_116_89 rfl rfl (by decide)) ?_
          refine Eq.trans (ev_getR (pc := 90) (b := 25) k_116_90 rfl zo_21.1 zg_21_3) ?_
          refine Eq.trans (ev_iload (pc := 93) k_116_93 rfl rfl) ?_
          refine Eq.trans (ev_iald_c (pc := 95) k_116_95 rfl za_25) (z_it1 ?_)
          refine Eq.trans (ev_iconst (pc := 96) (v := 1) k_116_96 rfl (by decide)) ?_
          refine Eq.trans (ev_iload (pc := 97) k_116_97 rfl rfl) ?_
          refine Eq.trans (ev_ishl (pc := 99) k_116_99 rfl) ?_
          refine Eq.trans (ev_ior (pc := 100) k_116_100 rfl) ?_
          refine Eq.trans (ev_vi (pc := 101) (as := [.int ((h2.1 25 (h.1 23 v3.toNatClampNeg).toNatClampNeg) ||| ((1 : Int32) <<< ((h.1 24 v3.toNatClampNeg) &&& 31)))]) (rest := [.int (h.1 23 v3.toNatClampNeg), .ref 25]) k_116_101 rfl q1.1 rfl rfl (Nat.le_of_ble_eq_true rfl) (Nat.le_of_ble_eq_true rfl)) (z_cbi fun x3 h3 => ?_)
          refine Eq.trans (ev_iast_c (pc := 104) k_116_104 rfl za_25) (z_it1 ?_)
          refine Eq.trans (ev_iinc (pc := 105) (v := 1) (lv' := [some (.ref 21), some (.ref a1), none, some (.int (v3 + 1)), some (.int (h.1 23 v3.toNatClampNeg)), some (.int (h.1 24 v3.toNatClampNeg))]) k_116_105 rfl rfl (by decide) rfl) ?_
          refine Eq.trans (ev_goto (pc := 108) k_116_108.1 rfl k_116_108.2) ?_
          exact ev_mk kd_116_16 rfl
        · refine Eq.trans (ev_mk (pc := 80) (lv' := [none, none, none, some (.int v3), none, none]) kd_116_80 rfl) ?_
          refine Eq.trans (ev_iload_n (pc := 80) k_116_80 rfl rfl) ?_
          exact ev_ret_int k_116_81 rfl rt_116
    · refine Eq.trans (ev_mk (pc := 111) (lv' := [none, none, none, none, none, none]) kd_116_111 rfl) ?_
      refine Eq.trans (ev_iconst (pc := 111) (v := (-1)) k_116_111 rfl (by decide)) ?_
      exact ev_ret_int k_116_112 rfl rt_116
  · refine Eq.trans (ev_mk (pc := 111) (lv' := [none, none, none, none, none, none]) kd_116_111 rfl) ?_
    refine Eq.trans (ev_iconst (pc := 111) (v := (-1)) k_116_111 rfl (by decide)) ?_
    exact ev_ret_int k_116_112 rfl rt_116

set_option maxRecDepth 100000 in
theorem E_Hc_least (sc : zSc) (d : Nat) (h : zHp) (a1 : Nat) (q1 : zS6 zGL a1) (v2 : Int32) : zRun sc (d + 1) 100 [.ref 19, .ref a1, .int v2] zGL h = (zBv (zRun sc d 101 [.ref 19, .ref a1, .int v2] zGL h) zGL fun h1 => zE sc (d + 1) 100 8 [some (.ref 19), none, none, some (.int 2)] [] zGL h1) := by
  have he : zEnt 100 [.ref 19, .ref a1, .int v2] = [some (.ref 19), some (.ref a1), some (.int v2), none] := by unfold zEnt; rw [ml_100]; rfl
  unfold zRun
  rw [he]
  refine Eq.trans (ev_aload_n (pc := 0) (x := 19) k_100_0 rfl rfl (by decide)) ?_
  refine Eq.trans (ev_aload_n (pc := 1) (x := a1) k_100_1 rfl rfl (zIO_lt q1.1).2.2) ?_
  refine Eq.trans (ev_iload_n (pc := 2) k_100_2 rfl rfl) ?_
  refine Eq.trans (ev_vv (pc := 3) (as := [.ref a1, .int v2]) (rest := []) k_100_3 rfl zo_19 rfl rfl (Nat.le_of_ble_eq_true rfl) (Nat.le_of_ble_eq_true rfl)) (z_cbv fun h1 => ?_)
  refine Eq.trans (ev_iconst (pc := 6) (v := 2) k_100_6 rfl (by decide)) ?_
  refine Eq.trans (ev_istore_n (pc := 7) (lv' := [some (.ref 19), some (.ref a1), some (.int v2), some (.int 2)]) k_100_7 rfl (Nat.le_of_ble_eq_true rfl) rfl) ?_
  exact ev_mk kd_100_8 rfl

set_option maxRecDepth 100000 in
theorem E_Hc_least_8 (sc : zSc) (d : Nat) (h : zHp) (v3 : Int32) : zE sc (d + 1) 100 8 [some (.ref 19), none, none, some (.int v3)] [] zGL h = (if (99 : Int32) < v3 then some (some (.int (-1)), zGL, h) else (zBi (zRun sc d 104 [.ref 19, .int v3] zGL h) zGL fun x1 h1 => (if x1 = 0 then zE sc (d + 1) 100 8 [some (.ref 19), none, none, some (.int (v3 + 1))] [] zGL h1 else some (some (.int v3), zGL, h1)))) := by
  refine Eq.trans (ev_iload_n (pc := 8) k_100_8 rfl rfl) ?_
  refine Eq.trans (ev_bipush (pc := 9) (v := 99) k_100_9 rfl (by decide)) ?_
  refine Eq.trans (ev_icgt (pc := 11) k_100_11.1 rfl k_100_11.2) (z_ite ?_ ?_)
  · refine Eq.trans (ev_iconst (pc := 30) (v := (-1)) k_100_30 rfl (by decide)) ?_
    exact ev_ret_int k_100_31 rfl rt_100
  · refine Eq.trans (ev_aload_n (pc := 14) (x := 19) k_100_14 rfl rfl (by decide)) ?_
    refine Eq.trans (ev_iload_n (pc := 15) k_100_15 rfl rfl) ?_
    refine Eq.trans (ev_vi (pc := 16) (as := [.int v3]) (rest := []) k_100_16 rfl zo_19 rfl rfl (Nat.le_of_ble_eq_true rfl) (Nat.le_of_ble_eq_true rfl)) (z_cbi fun x1 h1 => ?_)
    refine Eq.trans (ev_ifeq (pc := 19) k_100_19.1 rfl k_100_19.2) (z_ite ?_ ?_)
    · refine Eq.trans (ev_iinc (pc := 24) (v := 1) (lv' := [some (.ref 19), none, none, some (.int (v3 + 1))]) k_100_24 rfl rfl (by decide) rfl) ?_
      refine Eq.trans (ev_goto (pc := 27) k_100_27.1 rfl k_100_27.2) ?_
      exact ev_mk kd_100_8 rfl
    · refine Eq.trans (ev_iload_n (pc := 22) k_100_22 rfl rfl) ?_
      exact ev_ret_int k_100_23 rfl rt_100

set_option maxRecDepth 100000 in
theorem E_Hc_findDifferences (sc : zSc) (d : Nat) (h : zHp) (a1 : Nat) (q1 : zS6 zGL a1) (v2 : Int32) : zRun sc (d + 1) 101 [.ref 19, .ref a1, .int v2] zGL h = zE sc (d + 1) 101 2 [some (.ref 19), some (.ref a1), some (.int v2), some (.int 0)] [] zGL h := by
  have he : zEnt 101 [.ref 19, .ref a1, .int v2] = [some (.ref 19), some (.ref a1), some (.int v2), none] := by unfold zEnt; rw [ml_101]; rfl
  unfold zRun
  rw [he]
  refine Eq.trans (ev_iconst (pc := 0) (v := 0) k_101_0 rfl (by decide)) ?_
  refine Eq.trans (ev_istore_n (pc := 1) (lv' := [some (.ref 19), some (.ref a1), some (.int v2), some (.int 0)]) k_101_1 rfl (Nat.le_of_ble_eq_true rfl) rfl) ?_
  exact ev_mk kd_101_2 rfl

set_option maxRecDepth 100000 in
theorem E_Hc_findDifferences_2 (sc : zSc) (d : Nat) (h : zHp) (a1 : Nat) (q1 : zS6 zGL a1) (v2 : Int32) (v3 : Int32) : zE sc (d + 1) 101 2 [some (.ref 19), some (.ref a1), some (.int v2), some (.int v3)] [] zGL h = (if (594 : Int32) < v3 then zE sc (d + 1) 101 24 [some (.ref 19), some (.ref a1), some (.int v2), some (.int 0)] [] zGL h else (if zin v3 595 = true then zE sc (d + 1) 101 2 [some (.ref 19), some (.ref a1), some (.int v2), some (.int (v3 + 1))] [] zGL (zPI h 20 v3.toNatClampNeg 0) else none)) := by
  refine Eq.trans (ev_iload_n (pc := 2) k_101_2 rfl rfl) ?_
  refine Eq.trans (ev_sipush (pc := 3) (v := 594) k_101_3 rfl (by decide)) ?_
  refine Eq.trans (ev_icgt (pc := 6) k_101_6.1 rfl k_101_6.2) (z_ite ?_ ?_)
  · refine Eq.trans (ev_iconst (pc := 22) (v := 0) k_101_22 rfl (by decide)) ?_
    refine Eq.trans (ev_istore_n (pc := 23) (lv' := [some (.ref 19), some (.ref a1), some (.int v2), some (.int 0)]) k_101_23 rfl (Nat.le_of_ble_eq_true rfl) rfl) ?_
    exact ev_mk kd_101_24 rfl
  · refine Eq.trans (ev_aload_n (pc := 9) (x := 19) k_101_9 rfl rfl (by decide)) ?_
    refine Eq.trans (ev_getR (pc := 10) (b := 20) k_101_10 rfl zo_19.1 zg_19_0) ?_
    refine Eq.trans (ev_iload_n (pc := 13) k_101_13 rfl rfl) ?_
    refine Eq.trans (ev_iconst (pc := 14) (v := 0) k_101_14 rfl (by decide)) ?_
    refine Eq.trans (ev_bast_c (pc := 15) k_101_15 rfl za_20 (by decide)) (z_it1 ?_)
    refine Eq.trans (ev_iinc (pc := 16) (v := 1) (lv' := [some (.ref 19), some (.ref a1), some (.int v2), some (.int (v3 + 1))]) k_101_16 rfl rfl (by decide) rfl) ?_
    refine Eq.trans (ev_goto (pc := 19) k_101_19.1 rfl k_101_19.2) ?_
    exact ev_mk kd_101_2 rfl

set_option maxRecDepth 100000 in
theorem E_Hc_findDifferences_24 (sc : zSc) (d : Nat) (h : zHp) (a1 : Nat) (q1 : zS6 zGL a1) (v2 : Int32) (v3 : Int32) : zE sc (d + 1) 101 24 [some (.ref 19), some (.ref a1), some (.int v2), some (.int v3)] [] zGL h = (if v3 < (64 : Int32) then (zBi (zRun sc d 14 [.long (h.2.1 a1 8), .int v3] zGL h) zGL fun x1 h1 => (if x1 = 0 then zE sc (d + 1) 101 24 [some (.ref 19), some (.ref a1), some (.int v2), some (.int (v3 + 1))] [] zGL h1 else (zBv (zRun sc d 102 [.ref 19, .ref a1, .int v2, .int v3] zGL h1) zGL fun h2 => zE sc (d + 1) 101 24 [some (.ref 19), some (.ref a1), some (.int v2), some (.int (v3 + 1))] [] zGL h2))) else some (none, zGL, h)) := by
  refine Eq.trans (ev_iload_n (pc := 24) k_101_24 rfl rfl) ?_
  refine Eq.trans (ev_bipush (pc := 25) (v := 64) k_101_25 rfl (by decide)) ?_
  refine Eq.trans (ev_icge (pc := 27) k_101_27.1 rfl k_101_27.2) (z_ite ?_ ?_)
  · refine Eq.trans (ev_aload_n (pc := 30) (x := a1) k_101_30 rfl rfl (zIO_lt q1.1).2.2) ?_
    refine Eq.trans (ev_getL (pc := 31) k_101_31 rfl q1.1.1) ?_
    refine Eq.trans (ev_iload_n (pc := 34) k_101_34 rfl rfl) ?_
    refine Eq.trans (ev_si (pc := 35) (as := [.long (h.2.1 a1 8), .int v3]) (rest := []) k_101_35 rfl rfl rfl (Nat.le_of_ble_eq_true rfl) (Nat.le_of_ble_eq_true rfl)) (z_cbi fun x1 h1 => ?_)
    refine Eq.trans (ev_ifeq (pc := 38) k_101_38.1 rfl k_101_38.2) (z_ite ?_ ?_)
    · refine Eq.trans (ev_iinc (pc := 48) (v := 1) (lv' := [some (.ref 19), some (.ref a1), some (.int v2), some (.int (v3 + 1))]) k_101_48 rfl rfl (by decide) rfl) ?_
      refine Eq.trans (ev_goto (pc := 51) k_101_51.1 rfl k_101_51.2) ?_
      exact ev_mk kd_101_24 rfl
    · refine Eq.trans (ev_aload_n (pc := 41) (x := 19) k_101_41 rfl rfl (by decide)) ?_
      refine Eq.trans (ev_aload_n (pc := 42) (x := a1) k_101_42 rfl rfl (zIO_lt q1.1).2.2) ?_
      refine Eq.trans (ev_iload_n (pc := 43) k_101_43 rfl rfl) ?_
      refine Eq.trans (ev_iload_n (pc := 44) k_101_44 rfl rfl) ?_
      refine Eq.trans (ev_vv (pc := 45) (as := [.ref a1, .int v2, .int v3]) (rest := []) k_101_45 rfl zo_19 rfl rfl (Nat.le_of_ble_eq_true rfl) (Nat.le_of_ble_eq_true rfl)) (z_cbv fun h2 => ?_)
      refine Eq.trans (ev_iinc (pc := 48) (v := 1) (lv' := [some (.ref 19), some (.ref a1), some (.int v2), some (.int (v3 + 1))]) k_101_48 rfl rfl (by decide) rfl) ?_
      refine Eq.trans (ev_goto (pc := 51) k_101_51.1 rfl k_101_51.2) ?_
      exact ev_mk kd_101_24 rfl
  · exact ev_ret_void k_101_54 rfl rt_101

set_option maxRecDepth 100000 in
theorem E_Hc_findDifferencesTo (sc : zSc) (d : Nat) (h : zHp) (a1 : Nat) (q1 : zS6 zGL a1) (v2 : Int32) (v3 : Int32) : zRun sc (d + 1) 102 [.ref 19, .ref a1, .int v2, .int v3] zGL h = (zBi (zRun sc d 16 [.ref a1, .int v3] zGL h) zGL fun x1 h1 => zE sc (d + 1) 102 12 [some (.ref 19), some (.ref a1), some (.int v2), some (.int v3), some (.int x1), some (.int (v3 + (1 : Int32))), none] [] zGL h1) := by
  have he : zEnt 102 [.ref 19, .ref a1, .int v2, .int v3] = [some (.ref 19), some (.ref a1), some (.int v2), some (.int v3), none, none, none] := by unfold zEnt; rw [ml_102]; rfl
  unfold zRun
  rw [he]
  refine Eq.trans (ev_aload_n (pc := 0) (x := a1) k_102_0 rfl rfl (zIO_lt q1.1).2.2) ?_
  refine Eq.trans (ev_iload_n (pc := 1) k_102_1 rfl rfl) ?_
  refine Eq.trans (ev_vi (pc := 2) (as := [.int v3]) (rest := []) k_102_2 rfl q1.1 rfl rfl (Nat.le_of_ble_eq_true rfl) (Nat.le_of_ble_eq_true rfl)) (z_cbi fun x1 h1 => ?_)
  refine Eq.trans (ev_istore (pc := 5) (lv' := [some (.ref 19), some (.ref a1), some (.int v2), some (.int v3), some (.int x1), none, none]) k_102_5 rfl (Nat.le_of_ble_eq_true rfl) rfl) ?_
  refine Eq.trans (ev_iload_n (pc := 7) k_102_7 rfl rfl) ?_
  refine Eq.trans (ev_iconst (pc := 8) (v := 1) k_102_8 rfl (by decide)) ?_
  refine Eq.trans (ev_iadd (pc := 9) k_102_9 rfl) ?_
  refine Eq.trans (ev_istore (pc := 10) (lv' := [some (.ref 19), some (.ref a1), some (.int v2), some (.int v3), some (.int x1), some (.int (v3 + (1 : Int32))), none]) k_102_10 rfl (Nat.le_of_ble_eq_true rfl) rfl) ?_
  exact ev_mk kd_102_12 rfl

set_option maxRecDepth 100000 in
theorem E_Hc_findDifferencesTo_12 (sc : zSc) (d : Nat) (h : zHp) (a1 : Nat) (q1 : zS6 zGL a1) (v2 : Int32) (v3 : Int32) (v4 : Int32) (v5 : Int32) : zE sc (d + 1) 102 12 [some (.ref 19), some (.ref a1), some (.int v2), some (.int v3), some (.int v4), some (.int v5), none] [] zGL h = (if v5 < (64 : Int32) then (zBi (zRun sc d 14 [.long (h.2.1 a1 8), .int v5] zGL h) zGL fun x1 h1 => (if x1 = 0 then zE sc (d + 1) 102 12 [some (.ref 19), some (.ref a1), some (.int v2), some (.int v3), some (.int v4), some (.int (v5 + 1)), none] [] zGL h1 else (zBi (zRun sc d 96 [.int (v3 ^^^ v5)] zGL h1) zGL fun x2 h2 => (if v2 < x2 then zE sc (d + 1) 102 12 [some (.ref 19), some (.ref a1), some (.int v2), some (.int v3), some (.int v4), some (.int (v5 + 1)), none] [] zGL h2 else (zBi (zRun sc d 16 [.ref a1, .int v5] zGL h2) zGL fun x3 h3 => (zBi (zRun sc d 103 [.int (v4 - x3)] zGL h3) zGL fun x4 h4 => (if (594 : Int32) < x4 then zE sc (d + 1) 102 12 [some (.ref 19), some (.ref a1), some (.int v2), some (.int v3), some (.int v4), some (.int (v5 + 1)), none] [] zGL h4 else (if zin x4 595 = true then zE sc (d + 1) 102 12 [some (.ref 19), some (.ref a1), some (.int v2), some (.int v3), some (.int v4), some (.int (v5 + 1)), none] [] zGL (zPI h4 20 x4.toNatClampNeg 1) else none)))))))) else some (none, zGL, h)) := by
  refine Eq.trans (ev_iload (pc := 12) k_102_12 rfl rfl) ?_
  refine Eq.trans (ev_bipush (pc := 14) (v := 64) k_102_14 rfl (by decide)) ?_
  refine Eq.trans (ev_icge (pc := 16) k_102_16.1 rfl k_102_16.2) (z_ite ?_ ?_)
  · refine Eq.trans (ev_aload_n (pc := 19) (x := a1) k_102_19 rfl rfl (zIO_lt q1.1).2.2) ?_
    refine Eq.trans (ev_getL (pc := 20) k_102_20 rfl q1.1.1) ?_
    refine Eq.trans (ev_iload (pc := 23) k_102_23 rfl rfl) ?_
    refine Eq.trans (ev_si (pc := 25) (as := [.long (h.2.1 a1 8), .int v5]) (rest := []) k_102_25 rfl rfl rfl (Nat.le_of_ble_eq_true rfl) (Nat.le_of_ble_eq_true rfl)) (z_cbi fun x1 h1 => ?_)
    refine Eq.trans (ev_ifeq (pc := 28) k_102_28.1 rfl k_102_28.2) (z_ite ?_ ?_)
    · refine Eq.trans (ev_iinc (pc := 72) (v := 1) (lv' := [some (.ref 19), some (.ref a1), some (.int v2), some (.int v3), some (.int v4), some (.int (v5 + 1)), none]) k_102_72 rfl rfl (by decide) rfl) ?_
      refine Eq.trans (ev_goto (pc := 75) k_102_75.1 rfl k_102_75.2) ?_
      exact ev_mk kd_102_12 rfl
    · refine Eq.trans (ev_iload_n (pc := 31) k_102_31 rfl rfl) ?_
      refine Eq.trans (ev_iload (pc := 32) k_102_32 rfl rfl) ?_
      refine Eq.trans (ev_ixor (pc := 34) k_102_34 rfl) ?_
      refine Eq.trans (ev_si (pc := 35) (as := [.int (v3 ^^^ v5)]) (rest := []) k_102_35 rfl rfl rfl (Nat.le_of_ble_eq_true rfl) (Nat.le_of_ble_eq_true rfl)) (z_cbi fun x2 h2 => ?_)
      refine Eq.trans (ev_iload_n (pc := 38) k_102_38 rfl rfl) ?_
      refine Eq.trans (ev_icgt (pc := 39) k_102_39.1 rfl k_102_39.2) (z_ite ?_ ?_)
      · refine Eq.trans (ev_iinc (pc := 72) (v := 1) (lv' := [some (.ref 19), some (.ref a1), some (.int v2), some (.int v3), some (.int v4), some (.int (v5 + 1)), none]) k_102_72 rfl rfl (by decide) rfl) ?_
        refine Eq.trans (ev_goto (pc := 75) k_102_75.1 rfl k_102_75.2) ?_
        exact ev_mk kd_102_12 rfl
      · refine Eq.trans (ev_iload (pc := 42) k_102_42 rfl rfl) ?_
        refine Eq.trans (ev_aload_n (pc := 44) (x := a1) k_102_44 rfl rfl (zIO_lt q1.1).2.2) ?_
        refine Eq.trans (ev_iload (pc := 45) k_102_45 rfl rfl) ?_
        refine Eq.trans (ev_vi (pc := 47) (as := [.int v5]) (rest := [.int v4]) k_102_47 rfl q1.1 rfl rfl (Nat.le_of_ble_eq_true rfl) (Nat.le_of_ble_eq_true rfl)) (z_cbi fun x3 h3 => ?_)
        refine Eq.trans (ev_isub (pc := 50) k_102_50 rfl) ?_
        refine Eq.trans (ev_si (pc := 51) (as := [.int (v4 - x3)]) (rest := []) k_102_51 rfl rfl rfl (Nat.le_of_ble_eq_true rfl) (Nat.le_of_ble_eq_true rfl)) (z_cbi fun x4 h4 => ?_)
        refine Eq.trans (ev_istore (pc := 54) (lv' := [some (.ref 19), some (.ref a1), some (.int v2), some (.int v3), some (.int v4), some (.int v5), some (.int x4)]) k_102_54 rfl (Nat.le_of_ble_eq_true rfl) rfl) ?_
        refine Eq.trans (ev_iload (pc := 56) k_102_56 rfl rfl) ?_
        refine Eq.trans (ev_sipush (pc := 58) (v := 594) k_102_58 rfl (by decide)) ?_
        refine Eq.trans (ev_icgt (pc := 61) k_102_61.1 rfl k_102_61.2) (z_ite ?_ ?_)
        · refine Eq.trans (ev_mk (pc := 72) (lv' := [some (.ref 19), some (.ref a1), some (.int v2), some (.int v3), some (.int v4), some (.int v5), none]) kd_102_72 rfl) ?_
          refine Eq.trans (ev_iinc (pc := 72) (v := 1) (lv' := [some (.ref 19), some (.ref a1), some (.int v2), some (.int v3), some (.int v4), some (.int (v5 + 1)), none]) k_102_72 rfl rfl (by decide) rfl) ?_
          refine Eq.trans (ev_goto (pc := 75) k_102_75.1 rfl k_102_75.2) ?_
          exact ev_mk kd_102_12 rfl
        · refine Eq.trans (ev_aload_n (pc := 64) (x := 19) k_102_64 rfl rfl (by decide)) ?_
          refine Eq.trans (ev_getR (pc := 65) (b := 20) k_102_65 rfl zo_19.1 zg_19_0) ?_
          refine Eq.trans (ev_iload (pc := 68) k_102_68 rfl rfl) ?_
          refine Eq.trans (ev_iconst (pc := 70) (v := 1) k_102_70 rfl (by decide)) ?_
          refine Eq.trans (ev_bast_c (pc := 71) k_102_71 rfl za_20 (by decide)) (z_it1 ?_)
          refine Eq.trans (ev_mk (pc := 72) (lv' := [some (.ref 19), some (.ref a1), some (.int v2), some (.int v3), some (.int v4), some (.int v5), none]) kd_102_72 rfl) ?_
          refine Eq.trans (ev_iinc (pc := 72) (v := 1) (lv' := [some (.ref 19), some (.ref a1), some (.int v2), some (.int v3), some (.int v4), some (.int (v5 + 1)), none]) k_102_72 rfl rfl (by decide) rfl) ?_
          refine Eq.trans (ev_goto (pc := 75) k_102_75.1 rfl k_102_75.2) ?_
          exact ev_mk kd_102_12 rfl
  · exact ev_ret_void k_102_78 rfl rt_102

set_option maxRecDepth 100000 in
theorem E_Hc_tellsAll (sc : zSc) (d : Nat) (h : zHp) (v1 : Int32) : zRun sc d 104 [.ref 19, .int v1] zGL h = zE sc d 104 2 [some (.ref 19), some (.int v1), some (.int 0)] [] zGL h := by
  have he : zEnt 104 [.ref 19, .int v1] = [some (.ref 19), some (.int v1), none] := by unfold zEnt; rw [ml_104]; rfl
  unfold zRun
  rw [he]
  refine Eq.trans (ev_iconst (pc := 0) (v := 0) k_104_0 rfl (by decide)) ?_
  refine Eq.trans (ev_istore_n (pc := 1) (lv' := [some (.ref 19), some (.int v1), some (.int 0)]) k_104_1 rfl (Nat.le_of_ble_eq_true rfl) rfl) ?_
  exact ev_mk kd_104_2 rfl

set_option maxRecDepth 100000 in
theorem E_Hc_tellsAll_2 (sc : zSc) (d : Nat) (h : zHp) (v1 : Int32) (v2 : Int32) : zE sc d 104 2 [some (.ref 19), some (.int v1), some (.int v2)] [] zGL h = (if (594 : Int32) < v2 then some (some (.int 1), zGL, h) else (if zin v2 595 = true then (if (h.1 20 v2.toNatClampNeg) = 0 then zE sc d 104 2 [some (.ref 19), some (.int v1), some (.int (v2 + v1))] [] zGL h else some (some (.int 0), zGL, h)) else none)) := by
  refine Eq.trans (ev_iload_n (pc := 2) k_104_2 rfl rfl) ?_
  refine Eq.trans (ev_sipush (pc := 3) (v := 594) k_104_3 rfl (by decide)) ?_
  refine Eq.trans (ev_icgt (pc := 6) k_104_6.1 rfl k_104_6.2) (z_ite ?_ ?_)
  · refine Eq.trans (ev_iconst (pc := 27) (v := 1) k_104_27 rfl (by decide)) ?_
    exact ev_ret_b1 k_104_28 rfl rt_104 (by decide)
  · refine Eq.trans (ev_aload_n (pc := 9) (x := 19) k_104_9 rfl rfl (by decide)) ?_
    refine Eq.trans (ev_getR (pc := 10) (b := 20) k_104_10 rfl zo_19.1 zg_19_0) ?_
    refine Eq.trans (ev_iload_n (pc := 13) k_104_13 rfl rfl) ?_
    refine Eq.trans (ev_bald_c (pc := 14) k_104_14 rfl za_20) (z_it1 ?_)
    refine Eq.trans (ev_ifeq (pc := 15) k_104_15.1 rfl k_104_15.2) (z_ite ?_ ?_)
    · refine Eq.trans (ev_iload_n (pc := 20) k_104_20 rfl rfl) ?_
      refine Eq.trans (ev_iload_n (pc := 21) k_104_21 rfl rfl) ?_
      refine Eq.trans (ev_iadd (pc := 22) k_104_22 rfl) ?_
      refine Eq.trans (ev_istore_n (pc := 23) (lv' := [some (.ref 19), some (.int v1), some (.int (v2 + v1))]) k_104_23 rfl (Nat.le_of_ble_eq_true rfl) rfl) ?_
      refine Eq.trans (ev_goto (pc := 24) k_104_24.1 rfl k_104_24.2) ?_
      exact ev_mk kd_104_2 rfl
    · refine Eq.trans (ev_iconst (pc := 18) (v := 0) k_104_18 rfl (by decide)) ?_
      exact ev_ret_b1 k_104_19 rfl rt_104 (by decide)


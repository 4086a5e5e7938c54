set_option maxRecDepth 100000 in
theorem E_Mo_knowers_4 (sc : zSc) (d : Nat) (h : zHp) (v1 : Int32) (v2 : Int32) (v3 : Int32) : zE sc (d + 1) 149 4 [some (.ref 46), some (.int v1), some (.int v2), some (.int v3)] [] zGL h = (if v3 < (h.1 46 3) then (if zin v3 5 = true then (zBi (zRun sc d 129 [.int (h.1 51 v3.toNatClampNeg), .int v1] zGL h) zGL fun x1 h1 => (if x1 = 0 then zE sc (d + 1) 149 4 [some (.ref 46), some (.int v1), some (.int (v2 ||| (0 : Int32))), some (.int (v3 + 1))] [] zGL h1 else zE sc (d + 1) 149 4 [some (.ref 46), some (.int v1), some (.int (v2 ||| ((1 : Int32) <<< (v3 &&& 31)))), some (.int (v3 + 1))] [] zGL h1)) else none) else some (some (.int v2), zGL, h)) := by
  refine Eq.trans (ev_iload_n (pc := 4) k_149_4 rfl rfl) ?_
  refine Eq.trans (ev_aload_n (pc := 5) (x := 46) k_149_5 rfl rfl (by decide)) ?_
  refine Eq.trans (ev_getI (pc := 6) k_149_6 rfl zo_46.1) ?_
  refine Eq.trans (ev_icge (pc := 9) k_149_9.1 rfl k_149_9.2) (z_ite ?_ ?_)
  · refine Eq.trans (ev_iload_n (pc := 12) k_149_12 rfl rfl) ?_
    refine Eq.trans (ev_aload_n (pc := 13) (x := 46) k_149_13 rfl rfl (by decide)) ?_
    refine Eq.trans (ev_getR (pc := 14) (b := 51) k_149_14 rfl zo_46.1 zg_46_8) ?_
    refine Eq.trans (ev_iload_n (pc := 17) k_149_17 rfl rfl) ?_
    refine Eq.trans (ev_iald_c (pc := 18) k_149_18 rfl za_51) (z_it1 ?_)
    refine Eq.trans (ev_iload_n (pc := 19) k_149_19 rfl rfl) ?_
    refine Eq.trans (ev_si (pc := 20) (as := [.int (h.1 51 v3.toNatClampNeg), .int v1]) (rest := [.int v2]) k_149_20 rfl rfl rfl (Nat.le_of_ble_eq_true rfl) (Nat.le_of_ble_eq_true rfl)) (z_cbi fun x1 h1 => ?_)
    refine Eq.trans (ev_ifeq (pc := 23) k_149_23.1 rfl k_149_23.2) (z_ite ?_ ?_)
    · refine Eq.trans (ev_iconst (pc := 32) (v := 0) k_149_32 rfl (by decide)) ?_
      refine Eq.trans (ev_mk (pc := 33) (lv' := [some (.ref 46), some (.int v1), none, some (.int v3)]) kd_149_33 rfl) ?_
      refine Eq.trans (ev_ior (pc := 33) k_149_33 rfl) ?_
      refine Eq.trans (ev_istore_n (pc := 34) (lv' := [some (.ref 46), some (.int v1), some (.int (v2 ||| (0 : Int32))), some (.int v3)]) k_149_34 rfl (Nat.le_of_ble_eq_true rfl) rfl) ?_
      refine Eq.trans (ev_iinc (pc := 35) (v := 1) (lv' := [some (.ref 46), some (.int v1), some (.int (v2 ||| (0 : Int32))), some (.int (v3 + 1))]) k_149_35 rfl rfl (by decide) rfl) ?_
      refine Eq.trans (ev_goto (pc := 38) k_149_38.1 rfl k_149_38.2) ?_
      exact ev_mk kd_149_4 rfl
    · refine Eq.trans (ev_iconst (pc := 26) (v := 1) k_149_26 rfl (by decide)) ?_
      refine Eq.trans (ev_iload_n (pc := 27) k_149_27 rfl rfl) ?_
      refine Eq.trans (ev_ishl (pc := 28) k_149_28 rfl) ?_
      refine Eq.trans (ev_goto (pc := 29) k_149_29.1 rfl k_149_29.2) ?_
      refine Eq.trans (ev_mk (pc := 33) (lv' := [some (.ref 46), some (.int v1), none, some (.int v3)]) kd_149_33 rfl) ?_
      refine Eq.trans (ev_ior (pc := 33) k_149_33 rfl) ?_
      refine Eq.trans (ev_istore_n (pc := 34) (lv' := [some (.ref 46), some (.int v1), some (.int (v2 ||| ((1 : Int32) <<< (v3 &&& 31)))), some (.int v3)]) k_149_34 rfl (Nat.le_of_ble_eq_true rfl) rfl) ?_
      refine Eq.trans (ev_iinc (pc := 35) (v := 1) (lv' := [some (.ref 46), some (.int v1), some (.int (v2 ||| ((1 : Int32) <<< (v3 &&& 31)))), some (.int (v3 + 1))]) k_149_35 rfl rfl (by decide) rfl) ?_
      refine Eq.trans (ev_goto (pc := 38) k_149_38.1 rfl k_149_38.2) ?_
      exact ev_mk kd_149_4 rfl
  · refine Eq.trans (ev_iload_n (pc := 41) k_149_41 rfl rfl) ?_
    exact ev_ret_int k_149_42 rfl rt_149

set_option maxRecDepth 100000 in
theorem E_Mo_person (sc : zSc) (d : Nat) (h : zHp) (v1 : Int32) (v2 : Int32) : zRun sc (d + 1) 150 [.ref 46, .int v1, .int v2] zGL h = (zBi (zRun sc d 151 [.ref 46, .int v1] zGL h) zGL fun x1 h1 => (if x1 = 0 then some (some (.int (-1000000001)), zGL, h1) else (if v2 = 0 then (if zin v1 5 = true then some (some (.int (h1.1 51 v1.toNatClampNeg)), zGL, h1) else none) else (if v2 = 1 then (if zin v1 5 = true then some (some (.int (h1.1 52 v1.toNatClampNeg)), zGL, h1) else none) else (if v2 = 2 then (if zin v1 5 = true then some (some (.int (h1.1 54 v1.toNatClampNeg)), zGL, h1) else none) else (if v2 = 3 then (zBi (zRun sc d 152 [.ref 46, .int v1] zGL h1) zGL fun x2 h2 => some (some (.int x2), zGL, h2)) else some (some (.int (-1000000002)), zGL, h1))))))) := by
  have he : zEnt 150 [.ref 46, .int v1, .int v2] = [some (.ref 46), some (.int v1), some (.int v2)] := by unfold zEnt; rw [ml_150]; rfl
  unfold zRun
  rw [he]
  refine Eq.trans (ev_aload_n (pc := 0) (x := 46) k_150_0 rfl rfl (by decide)) ?_
  refine Eq.trans (ev_iload_n (pc := 1) k_150_1 rfl rfl) ?_
  refine Eq.trans (ev_vi (pc := 2) (as := [.int v1]) (rest := []) k_150_2 rfl zo_46 rfl rfl (Nat.le_of_ble_eq_true rfl) (Nat.le_of_ble_eq_true rfl)) (z_cbi fun x1 h1 => ?_)
  refine Eq.trans (ev_ifne (pc := 5) k_150_5.1 rfl k_150_5.2) (z_ite ?_ ?_)
  · refine Eq.trans (ev_ldc (pc := 8) (v := (-1000000001)) k_150_8 rfl) ?_
    exact ev_ret_int k_150_10 rfl rt_150
  · refine Eq.trans (ev_iload_n (pc := 11) k_150_11 rfl rfl) ?_
    by_cases e0 : v2 = 0
    · rw [if_pos e0, e0]
      refine Eq.trans (ev_sw (pc := 12) (t := 44) k_150_12 rfl ⟨rfl, rfl⟩ (z_tsI (o := 32) (by decide) (by decide) (by decide))) ?_
      refine Eq.trans (ev_aload_n (pc := 44) (x := 46) k_150_44 rfl rfl (by decide)) ?_
      refine Eq.trans (ev_getR (pc := 45) (b := 51) k_150_45 rfl zo_46.1 zg_46_8) ?_
      refine Eq.trans (ev_iload_n (pc := 48) k_150_48 rfl rfl) ?_
      refine Eq.trans (ev_iald_c (pc := 49) k_150_49 rfl za_51) (z_it1 ?_)
      exact ev_ret_int k_150_50 rfl rt_150
    · rw [if_neg e0]
      by_cases e1 : v2 = 1
      · rw [if_pos e1, e1]
        refine Eq.trans (ev_sw (pc := 12) (t := 51) k_150_12 rfl ⟨rfl, rfl⟩ (z_tsI (o := 39) (by decide) (by decide) (by decide))) ?_
        refine Eq.trans (ev_aload_n (pc := 51) (x := 46) k_150_51 rfl rfl (by decide)) ?_
        refine Eq.trans (ev_getR (pc := 52) (b := 52) k_150_52 rfl zo_46.1 zg_46_9) ?_
        refine Eq.trans (ev_iload_n (pc := 55) k_150_55 rfl rfl) ?_
        refine Eq.trans (ev_iald_c (pc := 56) k_150_56 rfl za_52) (z_it1 ?_)
        exact ev_ret_int k_150_57 rfl rt_150
      · rw [if_neg e1]
        by_cases e2 : v2 = 2
        · rw [if_pos e2, e2]
          refine Eq.trans (ev_sw (pc := 12) (t := 58) k_150_12 rfl ⟨rfl, rfl⟩ (z_tsI (o := 46) (by decide) (by decide) (by decide))) ?_
          refine Eq.trans (ev_aload_n (pc := 58) (x := 46) k_150_58 rfl rfl (by decide)) ?_
          refine Eq.trans (ev_getR (pc := 59) (b := 54) k_150_59 rfl zo_46.1 zg_46_11) ?_
          refine Eq.trans (ev_iload_n (pc := 62) k_150_62 rfl rfl) ?_
          refine Eq.trans (ev_iald_c (pc := 63) k_150_63 rfl za_54) (z_it1 ?_)
          exact ev_ret_int k_150_64 rfl rt_150
        · rw [if_neg e2]
          by_cases e3 : v2 = 3
          · rw [if_pos e3, e3]
            refine Eq.trans (ev_sw (pc := 12) (t := 65) k_150_12 rfl ⟨rfl, rfl⟩ (z_tsI (o := 53) (by decide) (by decide) (by decide))) ?_
            refine Eq.trans (ev_aload_n (pc := 65) (x := 46) k_150_65 rfl rfl (by decide)) ?_
            refine Eq.trans (ev_iload_n (pc := 66) k_150_66 rfl rfl) ?_
            refine Eq.trans (ev_vi (pc := 67) (as := [.int v1]) (rest := []) k_150_67 rfl zo_46 rfl rfl (Nat.le_of_ble_eq_true rfl) (Nat.le_of_ble_eq_true rfl)) (z_cbi fun x2 h2 => ?_)
            exact ev_ret_int k_150_70 rfl rt_150
          · rw [if_neg e3]
            have f0 : (v2).toInt ≠ 0 := fun z => e0 (Int32.toInt_inj.mp (z.trans (by decide)))
            have f1 : (v2).toInt ≠ 1 := fun z => e1 (Int32.toInt_inj.mp (z.trans (by decide)))
            have f2 : (v2).toInt ≠ 2 := fun z => e2 (Int32.toInt_inj.mp (z.trans (by decide)))
            have f3 : (v2).toInt ≠ 3 := fun z => e3 (Int32.toInt_inj.mp (z.trans (by decide)))
            refine Eq.trans (ev_sw (pc := 12) (t := 71) k_150_12 rfl ⟨rfl, rfl⟩ (z_tsO (by omega) (by decide))) ?_
            refine Eq.trans (ev_ldc (pc := 71) (v := (-1000000002)) k_150_71 rfl) ?_
            exact ev_ret_int k_150_73 rfl rt_150

set_option maxRecDepth 100000 in
theorem E_Mo_isPerson (sc : zSc) (d : Nat) (h : zHp) (v1 : Int32) : zRun sc (d + 1) 151 [.ref 46, .int v1] zGL h = (zBi (zRun sc d 132 [.long v1.toInt64, .long 0, .long (((h.1 46 3) - (1 : Int32)).toInt64)] zGL h) zGL fun x1 h1 => (if x1 = 0 ∨ x1 = 1 then some (some (.int x1), zGL, h1) else none)) := by
  have he : zEnt 151 [.ref 46, .int v1] = [some (.ref 46), some (.int v1)] := by unfold zEnt; rw [ml_151]; rfl
  unfold zRun
  rw [he]
  refine Eq.trans (ev_iload_n (pc := 0) k_151_0 rfl rfl) ?_
  refine Eq.trans (ev_i2l (pc := 1) k_151_1 rfl) ?_
  refine Eq.trans (ev_lconst (pc := 2) (v := 0) k_151_2 rfl (by decide)) ?_
  refine Eq.trans (ev_aload_n (pc := 3) (x := 46) k_151_3 rfl rfl (by decide)) ?_
  refine Eq.trans (ev_getI (pc := 4) k_151_4 rfl zo_46.1) ?_
  refine Eq.trans (ev_iconst (pc := 7) (v := 1) k_151_7 rfl (by decide)) ?_
  refine Eq.trans (ev_isub (pc := 8) k_151_8 rfl) ?_
  refine Eq.trans (ev_i2l (pc := 9) k_151_9 rfl) ?_
  refine Eq.trans (ev_si (pc := 10) (as := [.long v1.toInt64, .long 0, .long (((h.1 46 3) - (1 : Int32)).toInt64)]) (rest := []) k_151_10 rfl rfl rfl (Nat.le_of_ble_eq_true rfl) (Nat.le_of_ble_eq_true rfl)) (z_cbi fun x1 h1 => ?_)
  exact ev_ret_bool k_151_13 rfl rt_151

set_option maxRecDepth 100000 in
theorem E_Mo_plainLack (sc : zSc) (d : Nat) (h : zHp) (v1 : Int32) : zRun sc (d + 1) 152 [.ref 46, .int v1] zGL h = (if zin v1 5 = true then (zBj (zRun sc d 130 [.ref 46, .int (h.1 52 v1.toNatClampNeg)] zGL h) zGL fun x1 h1 => (zBi (zRun sc d 153 [.ref 46, .long x1] zGL h1) zGL fun x2 h2 => some (some (.int x2), zGL, h2))) else none) := by
  have he : zEnt 152 [.ref 46, .int v1] = [some (.ref 46), some (.int v1)] := by unfold zEnt; rw [ml_152]; rfl
  unfold zRun
  rw [he]
  refine Eq.trans (ev_aload_n (pc := 0) (x := 46) k_152_0 rfl rfl (by decide)) ?_
  refine Eq.trans (ev_aload_n (pc := 1) (x := 46) k_152_1 rfl rfl (by decide)) ?_
  refine Eq.trans (ev_aload_n (pc := 2) (x := 46) k_152_2 rfl rfl (by decide)) ?_
  refine Eq.trans (ev_getR (pc := 3) (b := 52) k_152_3 rfl zo_46.1 zg_46_9) ?_
  refine Eq.trans (ev_iload_n (pc := 6) k_152_6 rfl rfl) ?_
  refine Eq.trans (ev_iald_c (pc := 7) k_152_7 rfl za_52) (z_it1 ?_)
  refine Eq.trans (ev_vj (pc := 8) (as := [.int (h.1 52 v1.toNatClampNeg)]) (rest := [.ref 46]) k_152_8 rfl zo_46 rfl rfl (Nat.le_of_ble_eq_true rfl) (Nat.le_of_ble_eq_true rfl)) (z_cbj fun x1 h1 => ?_)
  refine Eq.trans (ev_vi (pc := 11) (as := [.long x1]) (rest := []) k_152_11 rfl zo_46 rfl rfl (Nat.le_of_ble_eq_true rfl) (Nat.le_of_ble_eq_true rfl)) (z_cbi fun x2 h2 => ?_)
  exact ev_ret_int k_152_14 rfl rt_152

set_option maxRecDepth 100000 in
theorem E_Mo_inNone (sc : zSc) (d : Nat) (h : zHp) (w1 : Int64) : zRun sc d 153 [.ref 46, .long w1] zGL h = zE sc d 153 5 [some (.ref 46), some (.long w1), none, some (.int 0), some (.int 0)] [] zGL h := by
  have he : zEnt 153 [.ref 46, .long w1] = [some (.ref 46), some (.long w1), none, none, none] := by unfold zEnt; rw [ml_153]; rfl
  unfold zRun
  rw [he]
  refine Eq.trans (ev_iconst (pc := 0) (v := 0) k_153_0 rfl (by decide)) ?_
  refine Eq.trans (ev_istore_n (pc := 1) (lv' := [some (.ref 46), some (.long w1), none, some (.int 0), none]) k_153_1 rfl (Nat.le_of_ble_eq_true rfl) rfl) ?_
  refine Eq.trans (ev_iconst (pc := 2) (v := 0) k_153_2 rfl (by decide)) ?_
  refine Eq.trans (ev_istore (pc := 3) (lv' := [some (.ref 46), some (.long w1), none, some (.int 0), some (.int 0)]) k_153_3 rfl (Nat.le_of_ble_eq_true rfl) rfl) ?_
  exact ev_mk kd_153_5 rfl

set_option maxRecDepth 100000 in
theorem E_Mo_inNone_5 (sc : zSc) (d : Nat) (h : zHp) (w1 : Int64) (v3 : Int32) (v4 : Int32) : zE sc d 153 5 [some (.ref 46), some (.long w1), none, some (.int v3), some (.int v4)] [] zGL h = (if v4 < ((1 : Int32) <<< ((h.1 46 0) &&& 31)) then (if ((w1 >>> (v4.toInt64 &&& 63)) &&& (1 : Int64)) = (1 : Int64) then zE sc d 153 5 [some (.ref 46), some (.long w1), none, some (.int (v3 ||| v4)), some (.int (v4 + 1))] [] zGL h else zE sc d 153 5 [some (.ref 46), some (.long w1), none, some (.int (v3 ||| (0 : Int32))), some (.int (v4 + 1))] [] zGL h) else some (some (.int ((((1 : Int32) <<< ((h.1 46 0) &&& 31)) - (1 : Int32)) &&& (v3 ^^^ ((-1) : Int32)))), zGL, h)) := by
  refine Eq.trans (ev_iload (pc := 5) k_153_5 rfl rfl) ?_
  refine Eq.trans (ev_iconst (pc := 7) (v := 1) k_153_7 rfl (by decide)) ?_
  refine Eq.trans (ev_aload_n (pc := 8) (x := 46) k_153_8 rfl rfl (by decide)) ?_
  refine Eq.trans (ev_getI (pc := 9) k_153_9 rfl zo_46.1) ?_
  refine Eq.trans (ev_ishl (pc := 12) k_153_12 rfl) ?_
  refine Eq.trans (ev_icge (pc := 13) k_153_13.1 rfl k_153_13.2) (z_ite ?_ ?_)
  · refine Eq.trans (ev_iload_n (pc := 16) k_153_16 rfl rfl) ?_
    refine Eq.trans (ev_lload_n (pc := 17) k_153_17 rfl rfl) ?_
    refine Eq.trans (ev_iload (pc := 18) k_153_18 rfl rfl) ?_
    refine Eq.trans (ev_lshr (pc := 20) k_153_20 rfl) ?_
    refine Eq.trans (ev_lconst (pc := 21) (v := 1) k_153_21 rfl (by decide)) ?_
    refine Eq.trans (ev_land (pc := 22) k_153_22 rfl) ?_
    refine Eq.trans (ev_lconst (pc := 23) (v := 1) k_153_23 rfl (by decide)) ?_
    refine Eq.trans (ev_lcmp (pc := 24) k_153_24 rfl) ?_
    refine Eq.trans (ev_ilne (pc := 25) k_153_25.1 rfl k_153_25.2) (z_ite ?_ ?_)
    · refine Eq.trans (ev_iload (pc := 28) k_153_28 rfl rfl) ?_
      refine Eq.trans (ev_goto (pc := 30) k_153_30.1 rfl k_153_30.2) ?_
      refine Eq.trans (ev_mk (pc := 34) (lv' := [some (.ref 46), some (.long w1), none, none, some (.int v4)]) kd_153_34 rfl) ?_
      refine Eq.trans (ev_ior (pc := 34) k_153_34 rfl) ?_
      refine Eq.trans (ev_istore_n (pc := 35) (lv' := [some (.ref 46), some (.long w1), none, some (.int (v3 ||| v4)), some (.int v4)]) k_153_35 rfl (Nat.le_of_ble_eq_true rfl) rfl) ?_
      refine Eq.trans (ev_iinc (pc := 36) (v := 1) (lv' := [some (.ref 46), some (.long w1), none, some (.int (v3 ||| v4)), some (.int (v4 + 1))]) k_153_36 rfl rfl (by decide) rfl) ?_
      refine Eq.trans (ev_goto (pc := 39) k_153_39.1 rfl k_153_39.2) ?_
      exact ev_mk kd_153_5 rfl
    · refine Eq.trans (ev_iconst (pc := 33) (v := 0) k_153_33 rfl (by decide)) ?_
      refine Eq.trans (ev_mk (pc := 34) (lv' := [some (.ref 46), some (.long w1), none, none, some (.int v4)]) kd_153_34 rfl) ?_
      refine Eq.trans (ev_ior (pc := 34) k_153_34 rfl) ?_
      refine Eq.trans (ev_istore_n (pc := 35) (lv' := [some (.ref 46), some (.long w1), none, some (.int (v3 ||| (0 : Int32))), some (.int v4)]) k_153_35 rfl (Nat.le_of_ble_eq_true rfl) rfl) ?_
      refine Eq.trans (ev_iinc (pc := 36) (v := 1) (lv' := [some (.ref 46), some (.long w1), none, some (.int (v3 ||| (0 : Int32))), some (.int (v4 + 1))]) k_153_36 rfl rfl (by decide) rfl) ?_
      refine Eq.trans (ev_goto (pc := 39) k_153_39.1 rfl k_153_39.2) ?_
      exact ev_mk kd_153_5 rfl
  · refine Eq.trans (ev_iconst (pc := 42) (v := 1) k_153_42 rfl (by decide)) ?_
    refine Eq.trans (ev_aload_n (pc := 43) (x := 46) k_153_43 rfl rfl (by decide)) ?_
    refine Eq.trans (ev_getI (pc := 44) k_153_44 rfl zo_46.1) ?_
    refine Eq.trans (ev_ishl (pc := 47) k_153_47 rfl) ?_
    refine Eq.trans (ev_iconst (pc := 48) (v := 1) k_153_48 rfl (by decide)) ?_
    refine Eq.trans (ev_isub (pc := 49) k_153_49 rfl) ?_
    refine Eq.trans (ev_iload_n (pc := 50) k_153_50 rfl rfl) ?_
    refine Eq.trans (ev_iconst (pc := 51) (v := (-1)) k_153_51 rfl (by decide)) ?_
    refine Eq.trans (ev_ixor (pc := 52) k_153_52 rfl) ?_
    refine Eq.trans (ev_iand (pc := 53) k_153_53 rfl) ?_
    exact ev_ret_int k_153_54 rfl rt_153

set_option maxRecDepth 100000 in
theorem E_Mo_closed (sc : zSc) (d : Nat) (h : zHp) (v1 : Int32) : zRun sc (d + 1) 154 [.ref 46, .int v1] zGL h = (zBi (zRun sc d 155 [.ref 46, .int v1] zGL h) zGL fun x1 h1 => (if x1 = 0 then some (some (.int (-1000000001)), zGL, h1) else (if zin v1 64 = true then some (some (.int (h1.1 50 v1.toNatClampNeg)), zGL, h1) else none))) := by
  have he : zEnt 154 [.ref 46, .int v1] = [some (.ref 46), some (.int v1)] := by unfold zEnt; rw [ml_154]; rfl
  unfold zRun
  rw [he]
  refine Eq.trans (ev_aload_n (pc := 0) (x := 46) k_154_0 rfl rfl (by decide)) ?_
  refine Eq.trans (ev_iload_n (pc := 1) k_154_1 rfl rfl) ?_
  refine Eq.trans (ev_vi (pc := 2) (as := [.int v1]) (rest := []) k_154_2 rfl zo_46 rfl rfl (Nat.le_of_ble_eq_true rfl) (Nat.le_of_ble_eq_true rfl)) (z_cbi fun x1 h1 => ?_)
  refine Eq.trans (ev_ifeq (pc := 5) k_154_5.1 rfl k_154_5.2) (z_ite ?_ ?_)
  · refine Eq.trans (ev_ldc (pc := 17) (v := (-1000000001)) k_154_17 rfl) ?_
    refine Eq.trans (ev_mk (pc := 19) (lv' := [none, none]) kd_154_19 rfl) ?_
    exact ev_ret_int k_154_19 rfl rt_154
  · refine Eq.trans (ev_aload_n (pc := 8) (x := 46) k_154_8 rfl rfl (by decide)) ?_
    refine Eq.trans (ev_getR (pc := 9) (b := 50) k_154_9 rfl zo_46.1 zg_46_6) ?_
    refine Eq.trans (ev_iload_n (pc := 12) k_154_12 rfl rfl) ?_
    refine Eq.trans (ev_iald_c (pc := 13) k_154_13 rfl za_50) (z_it1 ?_)
    refine Eq.trans (ev_goto (pc := 14) k_154_14.1 rfl k_154_14.2) ?_
    refine Eq.trans (ev_mk (pc := 19) (lv' := [none, none]) kd_154_19 rfl) ?_
    exact ev_ret_int k_154_19 rfl rt_154

set_option maxRecDepth 100000 in
theorem E_Mo_isSet (sc : zSc) (d : Nat) (h : zHp) (v1 : Int32) : zRun sc (d + 1) 155 [.ref 46, .int v1] zGL h = (zBi (zRun sc d 132 [.long v1.toInt64, .long 0, .long ((((1 : Int32) <<< ((h.1 46 0) &&& 31)) - (1 : Int32)).toInt64)] zGL h) zGL fun x1 h1 => (if x1 = 0 ∨ x1 = 1 then some (some (.int x1), zGL, h1) else none)) := by
  have he : zEnt 155 [.ref 46, .int v1] = [some (.ref 46), some (.int v1)] := by unfold zEnt; rw [ml_155]; rfl
  unfold zRun
  rw [he]
  refine Eq.trans (ev_iload_n (pc := 0) k_155_0 rfl rfl) ?_
  refine Eq.trans (ev_i2l (pc := 1) k_155_1 rfl) ?_
  refine Eq.trans (ev_lconst (pc := 2) (v := 0) k_155_2 rfl (by decide)) ?_
  refine Eq.trans (ev_iconst (pc := 3) (v := 1) k_155_3 rfl (by decide)) ?_
  refine Eq.trans (ev_aload_n (pc := 4) (x := 46) k_155_4 rfl rfl (by decide)) ?_
  refine Eq.trans (ev_getI (pc := 5) k_155_5 rfl zo_46.1) ?_
  refine Eq.trans (ev_ishl (pc := 8) k_155_8 rfl) ?_
  refine Eq.trans (ev_iconst (pc := 9) (v := 1) k_155_9 rfl (by decide)) ?_
  refine Eq.trans (ev_isub (pc := 10) k_155_10 rfl) ?_
  refine Eq.trans (ev_i2l (pc := 11) k_155_11 rfl) ?_
  refine Eq.trans (ev_si (pc := 12) (as := [.long v1.toInt64, .long 0, .long ((((1 : Int32) <<< ((h.1 46 0) &&& 31)) - (1 : Int32)).toInt64)]) (rest := []) k_155_12 rfl rfl rfl (Nat.le_of_ble_eq_true rfl) (Nat.le_of_ble_eq_true rfl)) (z_cbi fun x1 h1 => ?_)
  exact ev_ret_bool k_155_15 rfl rt_155

set_option maxRecDepth 100000 in
theorem E_Mo_canKnow (sc : zSc) (d : Nat) (h : zHp) (v1 : Int32) (v2 : Int32) (v3 : Int32) : zRun sc (d + 1) 156 [.ref 46, .int v1, .int v2, .int v3] zGL h = (zBi (zRun sc d 157 [.ref 46, .int v1, .int v2] zGL h) zGL fun x1 h1 => (if x1 = 0 then some (some (.int (-1000000001)), zGL, h1) else (if zin (((5 : Int32) * v1) + v2) 25 = true then (zBi (zRun sc d 158 [.ref 46, .long (h1.2.1 53 (((5 : Int32) * v1) + v2).toNatClampNeg), .int v3] zGL h1) zGL fun x2 h2 => some (some (.int x2), zGL, h2)) else none))) := by
  have he : zEnt 156 [.ref 46, .int v1, .int v2, .int v3] = [some (.ref 46), some (.int v1), some (.int v2), some (.int v3)] := by unfold zEnt; rw [ml_156]; rfl
  unfold zRun
  rw [he]
  refine Eq.trans (ev_aload_n (pc := 0) (x := 46) k_156_0 rfl rfl (by decide)) ?_
  refine Eq.trans (ev_iload_n (pc := 1) k_156_1 rfl rfl) ?_
  refine Eq.trans (ev_iload_n (pc := 2) k_156_2 rfl rfl) ?_
  refine Eq.trans (ev_vi (pc := 3) (as := [.int v1, .int v2]) (rest := []) k_156_3 rfl zo_46 rfl rfl (Nat.le_of_ble_eq_true rfl) (Nat.le_of_ble_eq_true rfl)) (z_cbi fun x1 h1 => ?_)
  refine Eq.trans (ev_ifeq (pc := 6) k_156_6.1 rfl k_156_6.2) (z_ite ?_ ?_)
  · refine Eq.trans (ev_ldc (pc := 27) (v := (-1000000001)) k_156_27 rfl) ?_
    refine Eq.trans (ev_mk (pc := 29) (lv' := [none, none, none, none]) kd_156_29 rfl) ?_
    exact ev_ret_int k_156_29 rfl rt_156
  · refine Eq.trans (ev_aload_n (pc := 9) (x := 46) k_156_9 rfl rfl (by decide)) ?_
    refine Eq.trans (ev_aload_n (pc := 10) (x := 46) k_156_10 rfl rfl (by decide)) ?_
    refine Eq.trans (ev_getR (pc := 11) (b := 53) k_156_11 rfl zo_46.1 zg_46_10) ?_
    refine Eq.trans (ev_iconst (pc := 14) (v := 5) k_156_14 rfl (by decide)) ?_
    refine Eq.trans (ev_iload_n (pc := 15) k_156_15 rfl rfl) ?_
    refine Eq.trans (ev_imul (pc := 16) k_156_16 rfl) ?_
    refine Eq.trans (ev_iload_n (pc := 17) k_156_17 rfl rfl) ?_
    refine Eq.trans (ev_iadd (pc := 18) k_156_18 rfl) ?_
    refine Eq.trans (ev_lald_c (pc := 19) k_156_19 rfl za_53) (z_it1 ?_)
    refine Eq.trans (ev_iload_n (pc := 20) k_156_20 rfl rfl) ?_
    refine Eq.trans (ev_vi (pc := 21) (as := [.long (h1.2.1 53 (((5 : Int32) * v1) + v2).toNatClampNeg), .int v3]) (rest := []) k_156_21 rfl zo_46 rfl rfl (Nat.le_of_ble_eq_true rfl) (Nat.le_of_ble_eq_true rfl)) (z_cbi fun x2 h2 => ?_)
    refine Eq.trans (ev_goto (pc := 24) k_156_24.1 rfl k_156_24.2) ?_
    refine Eq.trans (ev_mk (pc := 29) (lv' := [none, none, none, none]) kd_156_29 rfl) ?_
    exact ev_ret_int k_156_29 rfl rt_156

set_option maxRecDepth 100000 in
theorem E_Mo_areTwo (sc : zSc) (d : Nat) (h : zHp) (v1 : Int32) (v2 : Int32) : zRun sc (d + 1) 157 [.ref 46, .int v1, .int v2] zGL h = (zBi (zRun sc d 151 [.ref 46, .int v1] zGL h) zGL fun x1 h1 => (if x1 = 0 then some (some (.int 0), zGL, h1) else (zBi (zRun sc d 151 [.ref 46, .int v2] zGL h1) zGL fun x2 h2 => (if x2 = 0 then some (some (.int 0), zGL, h2) else (if v1 = v2 then some (some (.int 0), zGL, h2) else some (some (.int 1), zGL, h2)))))) := by
  have he : zEnt 157 [.ref 46, .int v1, .int v2] = [some (.ref 46), some (.int v1), some (.int v2)] := by unfold zEnt; rw [ml_157]; rfl
  unfold zRun
  rw [he]
  refine Eq.trans (ev_aload_n (pc := 0) (x := 46) k_157_0 rfl rfl (by decide)) ?_
  refine Eq.trans (ev_iload_n (pc := 1) k_157_1 rfl rfl) ?_
  refine Eq.trans (ev_vi (pc := 2) (as := [.int v1]) (rest := []) k_157_2 rfl zo_46 rfl rfl (Nat.le_of_ble_eq_true rfl) (Nat.le_of_ble_eq_true rfl)) (z_cbi fun x1 h1 => ?_)
  refine Eq.trans (ev_ifeq (pc := 5) k_157_5.1 rfl k_157_5.2) (z_ite ?_ ?_)
  · refine Eq.trans (ev_mk (pc := 25) (lv' := [none, none, none]) kd_157_25 rfl) ?_
    refine Eq.trans (ev_iconst (pc := 25) (v := 0) k_157_25 rfl (by decide)) ?_
    exact ev_ret_b1 k_157_26 rfl rt_157 (by decide)
  · refine Eq.trans (ev_aload_n (pc := 8) (x := 46) k_157_8 rfl rfl (by decide)) ?_
    refine Eq.trans (ev_iload_n (pc := 9) k_157_9 rfl rfl) ?_
    refine Eq.trans (ev_vi (pc := 10) (as := [.int v2]) (rest := []) k_157_10 rfl zo_46 rfl rfl (Nat.le_of_ble_eq_true rfl) (Nat.le_of_ble_eq_true rfl)) (z_cbi fun x2 h2 => ?_)
    refine Eq.trans (ev_ifeq (pc := 13) k_157_13.1 rfl k_157_13.2) (z_ite ?_ ?_)
    · refine Eq.trans (ev_mk (pc := 25) (lv' := [none, none, none]) kd_157_25 rfl) ?_
      refine Eq.trans (ev_iconst (pc := 25) (v := 0) k_157_25 rfl (by decide)) ?_
      exact ev_ret_b1 k_157_26 rfl rt_157 (by decide)
    · refine Eq.trans (ev_iload_n (pc := 16) k_157_16 rfl rfl) ?_
      refine Eq.trans (ev_iload_n (pc := 17) k_157_17 rfl rfl) ?_
      refine Eq.trans (ev_iceq (pc := 18) k_157_18.1 rfl k_157_18.2) (z_ite ?_ ?_)
      · refine Eq.trans (ev_mk (pc := 25) (lv' := [none, none, none]) kd_157_25 rfl) ?_
        refine Eq.trans (ev_iconst (pc := 25) (v := 0) k_157_25 rfl (by decide)) ?_
        exact ev_ret_b1 k_157_26 rfl rt_157 (by decide)
      · refine Eq.trans (ev_iconst (pc := 21) (v := 1) k_157_21 rfl (by decide)) ?_
        refine Eq.trans (ev_goto (pc := 22) k_157_22.1 rfl k_157_22.2) ?_
        refine Eq.trans (ev_mk (pc := 26) (lv' := [none, none, none]) kd_157_26 rfl) ?_
        exact ev_ret_b1 k_157_26 rfl rt_157 (by decide)

set_option maxRecDepth 100000 in
theorem E_Mo_pick (sc : zSc) (d : Nat) (h : zHp) (w1 : Int64) (v3 : Int32) : zRun sc d 158 [.ref 46, .long w1, .int v3] zGL h = zE sc d 158 6 [some (.ref 46), some (.long w1), none, some (.int v3), some (.int 0), some (.int 0)] [] zGL h := by
  have he : zEnt 158 [.ref 46, .long w1, .int v3] = [some (.ref 46), some (.long w1), none, some (.int v3), none, none] := by unfold zEnt; rw [ml_158]; rfl
  unfold zRun
  rw [he]
  refine Eq.trans (ev_iconst (pc := 0) (v := 0) k_158_0 rfl (by decide)) ?_
  refine Eq.trans (ev_istore (pc := 1) (lv' := [some (.ref 46), some (.long w1), none, some (.int v3), some (.int 0), none]) k_158_1 rfl (Nat.le_of_ble_eq_true rfl) rfl) ?_
  refine Eq.trans (ev_iconst (pc := 3) (v := 0) k_158_3 rfl (by decide)) ?_
  refine Eq.trans (ev_istore (pc := 4) (lv' := [some (.ref 46), some (.long w1), none, some (.int v3), some (.int 0), some (.int 0)]) k_158_4 rfl (Nat.le_of_ble_eq_true rfl) rfl) ?_
  exact ev_mk kd_158_6 rfl

set_option maxRecDepth 100000 in
theorem E_Mo_pick_6 (sc : zSc) (d : Nat) (h : zHp) (w1 : Int64) (v3 : Int32) (v4 : Int32) (v5 : Int32) : zE sc d 158 6 [some (.ref 46), some (.long w1), none, some (.int v3), some (.int v4), some (.int v5)] [] zGL h = (if v5 < ((1 : Int32) <<< ((h.1 46 0) &&& 31)) then (if ((w1 >>> (v5.toInt64 &&& 63)) &&& (1 : Int64)) = (1 : Int64) then (if v4 = v3 then some (some (.int v5), zGL, h) else zE sc d 158 6 [some (.ref 46), some (.long w1), none, some (.int v3), some (.int (v4 + 1)), some (.int (v5 + 1))] [] zGL h) else zE sc d 158 6 [some (.ref 46), some (.long w1), none, some (.int v3), some (.int v4), some (.int (v5 + 1))] [] zGL h) else (if v3 = ((-1) : Int32) then some (some (.int v4), zGL, h) else some (some (.int (-1)), zGL, h))) := by
  refine Eq.trans (ev_iload (pc := 6) k_158_6 rfl rfl) ?_
  refine Eq.trans (ev_iconst (pc := 8) (v := 1) k_158_8 rfl (by decide)) ?_
  refine Eq.trans (ev_aload_n (pc := 9) (x := 46) k_158_9 rfl rfl (by decide)) ?_
  refine Eq.trans (ev_getI (pc := 10) k_158_10 rfl zo_46.1) ?_
  refine Eq.trans (ev_ishl (pc := 13) k_158_13 rfl) ?_
  refine Eq.trans (ev_icge (pc := 14) k_158_14.1 rfl k_158_14.2) (z_ite ?_ ?_)
  · refine Eq.trans (ev_lload_n (pc := 17) k_158_17 rfl rfl) ?_
    refine Eq.trans (ev_iload (pc := 18) k_158_18 rfl rfl) ?_
    refine Eq.trans (ev_lshr (pc := 20) k_158_20 rfl) ?_
    refine Eq.trans (ev_lconst (pc := 21) (v := 1) k_158_21 rfl (by decide)) ?_
    refine Eq.trans (ev_land (pc := 22) k_158_22 rfl) ?_
    refine Eq.trans (ev_lconst (pc := 23) (v := 1) k_158_23 rfl (by decide)) ?_
    refine Eq.trans (ev_lcmp (pc := 24) k_158_24 rfl) ?_
    refine Eq.trans (ev_ilne (pc := 25) k_158_25.1 rfl k_158_25.2) (z_ite ?_ ?_)
    · refine Eq.trans (ev_iload (pc := 28) k_158_28 rfl rfl) ?_
      refine Eq.trans (ev_iload_n (pc := 30) k_158_30 rfl rfl) ?_
      refine Eq.trans (ev_icne (pc := 31) k_158_31.1 rfl k_158_31.2) (z_ite ?_ ?_)
      · refine Eq.trans (ev_iload (pc := 34) k_158_34 rfl rfl) ?_
        exact ev_ret_int k_158_36 rfl rt_158
      · refine Eq.trans (ev_iinc (pc := 37) (v := 1) (lv' := [some (.ref 46), some (.long w1), none, some (.int v3), some (.int (v4 + 1)), some (.int v5)]) k_158_37 rfl rfl (by decide) rfl) ?_
        refine Eq.trans (ev_iinc (pc := 40) (v := 1) (lv' := [some (.ref 46), some (.long w1), none, some (.int v3), some (.int (v4 + 1)), some (.int (v5 + 1))]) k_158_40 rfl rfl (by decide) rfl) ?_
        refine Eq.trans (ev_goto (pc := 43) k_158_43.1 rfl k_158_43.2) ?_
        exact ev_mk kd_158_6 rfl
    · refine Eq.trans (ev_iinc (pc := 40) (v := 1) (lv' := [some (.ref 46), some (.long w1), none, some (.int v3), some (.int v4), some (.int (v5 + 1))]) k_158_40 rfl rfl (by decide) rfl) ?_
      refine Eq.trans (ev_goto (pc := 43) k_158_43.1 rfl k_158_43.2) ?_
      exact ev_mk kd_158_6 rfl
  · refine Eq.trans (ev_iload_n (pc := 46) k_158_46 rfl rfl) ?_
    refine Eq.trans (ev_iconst (pc := 47) (v := (-1)) k_158_47 rfl (by decide)) ?_
    refine Eq.trans (ev_icne (pc := 48) k_158_48.1 rfl k_158_48.2) (z_ite ?_ ?_)
    · refine Eq.trans (ev_iload (pc := 51) k_158_51 rfl rfl) ?_
      refine Eq.trans (ev_goto (pc := 53) k_158_53.1 rfl k_158_53.2) ?_
      refine Eq.trans (ev_mk (pc := 57) (lv' := [none, none, none, none, none, none]) kd_158_57 rfl) ?_
      exact ev_ret_int k_158_57 rfl rt_158
    · refine Eq.trans (ev_iconst (pc := 56) (v := (-1)) k_158_56 rfl (by decide)) ?_
      refine Eq.trans (ev_mk (pc := 57) (lv' := [none, none, none, none, none, none]) kd_158_57 rfl) ?_
      exact ev_ret_int k_158_57 rfl rt_158

set_option maxRecDepth 100000 in
theorem E_Mo_sure (sc : zSc) (d : Nat) (h : zHp) (v1 : Int32) (v2 : Int32) (v3 : Int32) : zRun sc (d + 1) 159 [.ref 46, .int v1, .int v2, .int v3] zGL h = (zBi (zRun sc d 157 [.ref 46, .int v1, .int v2] zGL h) zGL fun x1 h1 => (if x1 = 0 then some (some (.int (-1000000001)), zGL, h1) else (if v3 = 0 then (zBi (zRun sc d 160 [.ref 46, .int v1, .int v2] zGL h1) zGL fun x2 h2 => some (some (.int x2), zGL, h2)) else (if v3 = (1 : Int32) then (zBi (zRun sc d 163 [.ref 46, .int v1, .int v2] zGL h1) zGL fun x3 h3 => some (some (.int x3), zGL, h3)) else some (some (.int (-1000000002)), zGL, h1))))) := by
  have he : zEnt 159 [.ref 46, .int v1, .int v2, .int v3] = [some (.ref 46), some (.int v1), some (.int v2), some (.int v3)] := by unfold zEnt; rw [ml_159]; rfl
  unfold zRun
  rw [he]
  refine Eq.trans (ev_aload_n (pc := 0) (x := 46) k_159_0 rfl rfl (by decide)) ?_
  refine Eq.trans (ev_iload_n (pc := 1) k_159_1 rfl rfl) ?_
  refine Eq.trans (ev_iload_n (pc := 2) k_159_2 rfl rfl) ?_
  refine Eq.trans (ev_vi (pc := 3) (as := [.int v1, .int v2]) (rest := []) k_159_3 rfl zo_46 rfl rfl (Nat.le_of_ble_eq_true rfl) (Nat.le_of_ble_eq_true rfl)) (z_cbi fun x1 h1 => ?_)
  refine Eq.trans (ev_ifne (pc := 6) k_159_6.1 rfl k_159_6.2) (z_ite ?_ ?_)
  · refine Eq.trans (ev_ldc (pc := 9) (v := (-1000000001)) k_159_9 rfl) ?_
    exact ev_ret_int k_159_11 rfl rt_159
  · refine Eq.trans (ev_iload_n (pc := 12) k_159_12 rfl rfl) ?_
    refine Eq.trans (ev_ifne (pc := 13) k_159_13.1 rfl k_159_13.2) (z_ite ?_ ?_)
    · refine Eq.trans (ev_aload_n (pc := 16) (x := 46) k_159_16 rfl rfl (by decide)) ?_
      refine Eq.trans (ev_iload_n (pc := 17) k_159_17 rfl rfl) ?_
      refine Eq.trans (ev_iload_n (pc := 18) k_159_18 rfl rfl) ?_
      refine Eq.trans (ev_vi (pc := 19) (as := [.int v1, .int v2]) (rest := []) k_159_19 rfl zo_46 rfl rfl (Nat.le_of_ble_eq_true rfl) (Nat.le_of_ble_eq_true rfl)) (z_cbi fun x2 h2 => ?_)
      refine Eq.trans (ev_goto (pc := 22) k_159_22.1 rfl k_159_22.2) ?_
      refine Eq.trans (ev_mk (pc := 41) (lv' := [none, none, none, none]) kd_159_41 rfl) ?_
      exact ev_ret_int k_159_41 rfl rt_159
    · refine Eq.trans (ev_iload_n (pc := 25) k_159_25 rfl rfl) ?_
      refine Eq.trans (ev_iconst (pc := 26) (v := 1) k_159_26 rfl (by decide)) ?_
      refine Eq.trans (ev_icne (pc := 27) k_159_27.1 rfl k_159_27.2) (z_ite ?_ ?_)
      · refine Eq.trans (ev_aload_n (pc := 30) (x := 46) k_159_30 rfl rfl (by decide)) ?_
        refine Eq.trans (ev_iload_n (pc := 31) k_159_31 rfl rfl) ?_
        refine Eq.trans (ev_iload_n (pc := 32) k_159_32 rfl rfl) ?_
        refine Eq.trans (ev_vi (pc := 33) (as := [.int v1, .int v2]) (rest := []) k_159_33 rfl zo_46 rfl rfl (Nat.le_of_ble_eq_true rfl) (Nat.le_of_ble_eq_true rfl)) (z_cbi fun x3 h3 => ?_)
        refine Eq.trans (ev_goto (pc := 36) k_159_36.1 rfl k_159_36.2) ?_
        refine Eq.trans (ev_mk (pc := 41) (lv' := [none, none, none, none]) kd_159_41 rfl) ?_
        exact ev_ret_int k_159_41 rfl rt_159
      · refine Eq.trans (ev_ldc (pc := 39) (v := (-1000000002)) k_159_39 rfl) ?_
        refine Eq.trans (ev_mk (pc := 41) (lv' := [none, none, none, none]) kd_159_41 rfl) ?_
        exact ev_ret_int k_159_41 rfl rt_159

set_option maxRecDepth 100000 in
theorem E_Mo_sureKnows (sc : zSc) (d : Nat) (h : zHp) (v1 : Int32) (v2 : Int32) : zRun sc (d + 1) 160 [.ref 46, .int v1, .int v2] zGL h = (if zin (((5 : Int32) * v1) + v2) 25 = true then (zBi (zRun sc d 161 [.ref 46, .long (h.2.1 53 (((5 : Int32) * v1) + v2).toNatClampNeg)] zGL h) zGL fun x1 h1 => (if zin (((5 : Int32) * v1) + v2) 25 = true then (zBi (zRun sc d 162 [.int x1, .long (h1.2.1 53 (((5 : Int32) * v1) + v2).toNatClampNeg)] zGL h1) zGL fun x2 h2 => some (some (.int x2), zGL, h2)) else none)) else none) := by
  have he : zEnt 160 [.ref 46, .int v1, .int v2] = [some (.ref 46), some (.int v1), some (.int v2)] := by unfold zEnt; rw [ml_160]; rfl
  unfold zRun
  rw [he]
  refine Eq.trans (ev_aload_n (pc := 0) (x := 46) k_160_0 rfl rfl (by decide)) ?_
  refine Eq.trans (ev_aload_n (pc := 1) (x := 46) k_160_1 rfl rfl (by decide)) ?_
  refine Eq.trans (ev_getR (pc := 2) (b := 53) k_160_2 rfl zo_46.1 zg_46_10) ?_
  refine Eq.trans (ev_iconst (pc := 5) (v := 5) k_160_5 rfl (by decide)) ?_
  refine Eq.trans (ev_iload_n (pc := 6) k_160_6 rfl rfl) ?_
  refine Eq.trans (ev_imul (pc := 7) k_160_7 rfl) ?_
  refine Eq.trans (ev_iload_n (pc := 8) k_160_8 rfl rfl) ?_
  refine Eq.trans (ev_iadd (pc := 9) k_160_9 rfl) ?_
  refine Eq.trans (ev_lald_c (pc := 10) k_160_10 rfl za_53) (z_it1 ?_)
  refine Eq.trans (ev_vi (pc := 11) (as := [.long (h.2.1 53 (((5 : Int32) * v1) + v2).toNatClampNeg)]) (rest := []) k_160_11 rfl zo_46 rfl rfl (Nat.le_of_ble_eq_true rfl) (Nat.le_of_ble_eq_true rfl)) (z_cbi fun x1 h1 => ?_)
  refine Eq.trans (ev_aload_n (pc := 14) (x := 46) k_160_14 rfl rfl (by decide)) ?_
  refine Eq.trans (ev_getR (pc := 15) (b := 53) k_160_15 rfl zo_46.1 zg_46_10) ?_
  refine Eq.trans (ev_iconst (pc := 18) (v := 5) k_160_18 rfl (by decide)) ?_
  refine Eq.trans (ev_iload_n (pc := 19) k_160_19 rfl rfl) ?_
  refine Eq.trans (ev_imul (pc := 20) k_160_20 rfl) ?_
  refine Eq.trans (ev_iload_n (pc := 21) k_160_21 rfl rfl) ?_
  refine Eq.trans (ev_iadd (pc := 22) k_160_22 rfl) ?_
  refine Eq.trans (ev_lald_c (pc := 23) k_160_23 rfl za_53) (z_it1 ?_)
  refine Eq.trans (ev_si (pc := 24) (as := [.int x1, .long (h1.2.1 53 (((5 : Int32) * v1) + v2).toNatClampNeg)]) (rest := []) k_160_24 rfl rfl rfl (Nat.le_of_ble_eq_true rfl) (Nat.le_of_ble_eq_true rfl)) (z_cbi fun x2 h2 => ?_)
  exact ev_ret_int k_160_27 rfl rt_160

set_option maxRecDepth 100000 in
theorem E_Mo_inAll (sc : zSc) (d : Nat) (h : zHp) (w1 : Int64) : zRun sc d 161 [.ref 46, .long w1] zGL h = zE sc d 161 12 [some (.ref 46), some (.long w1), none, some (.int (((1 : Int32) <<< ((h.1 46 0) &&& 31)) - (1 : Int32))), some (.int 0)] [] zGL h := by
  have he : zEnt 161 [.ref 46, .long w1] = [some (.ref 46), some (.long w1), none, none, none] := by unfold zEnt; rw [ml_161]; rfl
  unfold zRun
  rw [he]
  refine Eq.trans (ev_iconst (pc := 0) (v := 1) k_161_0 rfl (by decide)) ?_
  refine Eq.trans (ev_aload_n (pc := 1) (x := 46) k_161_1 rfl rfl (by decide)) ?_
  refine Eq.trans (ev_getI (pc := 2) k_161_2 rfl zo_46.1) ?_
  refine Eq.trans (ev_ishl (pc := 5) k_161_5 rfl) ?_
  refine Eq.trans (ev_iconst (pc := 6) (v := 1) k_161_6 rfl (by decide)) ?_
  refine Eq.trans (ev_isub (pc := 7) k_161_7 rfl) ?_
  refine Eq.trans (ev_istore_n (pc := 8) (lv' := [some (.ref 46), some (.long w1), none, some (.int (((1 : Int32) <<< ((h.1 46 0) &&& 31)) - (1 : Int32))), none]) k_161_8 rfl (Nat.le_of_ble_eq_true rfl) rfl) ?_
  refine Eq.trans (ev_iconst (pc := 9) (v := 0) k_161_9 rfl (by decide)) ?_
  refine Eq.trans (ev_istore (pc := 10) (lv' := [some (.ref 46), some (.long w1), none, some (.int (((1 : Int32) <<< ((h.1 46 0) &&& 31)) - (1 : Int32))), some (.int 0)]) k_161_10 rfl (Nat.le_of_ble_eq_true rfl) rfl) ?_
  exact ev_mk kd_161_12 rfl

set_option maxRecDepth 100000 in
theorem E_Mo_inAll_12 (sc : zSc) (d : Nat) (h : zHp) (w1 : Int64) (v3 : Int32) (v4 : Int32) : zE sc d 161 12 [some (.ref 46), some (.long w1), none, some (.int v3), some (.int v4)] [] zGL h = (if v4 < ((1 : Int32) <<< ((h.1 46 0) &&& 31)) then (if ((w1 >>> (v4.toInt64 &&& 63)) &&& (1 : Int64)) = (1 : Int64) then zE sc d 161 12 [some (.ref 46), some (.long w1), none, some (.int (v3 &&& v4)), some (.int (v4 + 1))] [] zGL h else zE sc d 161 12 [some (.ref 46), some (.long w1), none, some (.int (v3 &&& ((-1) : Int32))), some (.int (v4 + 1))] [] zGL h) else some (some (.int v3), zGL, h)) := by
  refine Eq.trans (ev_iload (pc := 12) k_161_12 rfl rfl) ?_
  refine Eq.trans (ev_iconst (pc := 14) (v := 1) k_161_14 rfl (by decide)) ?_
  refine Eq.trans (ev_aload_n (pc := 15) (x := 46) k_161_15 rfl rfl (by decide)) ?_
  refine Eq.trans (ev_getI (pc := 16) k_161_16 rfl zo_46.1) ?_
  refine Eq.trans (ev_ishl (pc := 19) k_161_19 rfl) ?_
  refine Eq.trans (ev_icge (pc := 20) k_161_20.1 rfl k_161_20.2) (z_ite ?_ ?_)
  · refine Eq.trans (ev_iload_n (pc := 23) k_161_23 rfl rfl) ?_
    refine Eq.trans (ev_lload_n (pc := 24) k_161_24 rfl rfl) ?_
    refine Eq.trans (ev_iload (pc := 25) k_161_25 rfl rfl) ?_
    refine Eq.trans (ev_lshr (pc := 27) k_161_27 rfl) ?_
    refine Eq.trans (ev_lconst (pc := 28) (v := 1) k_161_28 rfl (by decide)) ?_
    refine Eq.trans (ev_land (pc := 29) k_161_29 rfl) ?_
    refine Eq.trans (ev_lconst (pc := 30) (v := 1) k_161_30 rfl (by decide)) ?_
    refine Eq.trans (ev_lcmp (pc := 31) k_161_31 rfl) ?_
    refine Eq.trans (ev_ilne (pc := 32) k_161_32.1 rfl k_161_32.2) (z_ite ?_ ?_)
    · refine Eq.trans (ev_iload (pc := 35) k_161_35 rfl rfl) ?_
      refine Eq.trans (ev_goto (pc := 37) k_161_37.1 rfl k_161_37.2) ?_
      refine Eq.trans (ev_mk (pc := 41) (lv' := [some (.ref 46), some (.long w1), none, none, some (.int v4)]) kd_161_41 rfl) ?_
      refine Eq.trans (ev_iand (pc := 41) k_161_41 rfl) ?_
      refine Eq.trans (ev_istore_n (pc := 42) (lv' := [some (.ref 46), some (.long w1), none, some (.int (v3 &&& v4)), some (.int v4)]) k_161_42 rfl (Nat.le_of_ble_eq_true rfl) rfl) ?_
      refine Eq.trans (ev_iinc (pc := 43) (v := 1) (lv' := [some (.ref 46), some (.long w1), none, some (.int (v3 &&& v4)), some (.int (v4 + 1))]) k_161_43 rfl rfl (by decide) rfl) ?_
      refine Eq.trans (ev_goto (pc := 46) k_161_46.1 rfl k_161_46.2) ?_
      exact ev_mk kd_161_12 rfl
    · refine Eq.trans (ev_iconst (pc := 40) (v := (-1)) k_161_40 rfl (by decide)) ?_
      refine Eq.trans (ev_mk (pc := 41) (lv' := [some (.ref 46), some (.long w1), none, none, some (.int v4)]) kd_161_41 rfl) ?_
      refine Eq.trans (ev_iand (pc := 41) k_161_41 rfl) ?_
      refine Eq.trans (ev_istore_n (pc := 42) (lv' := [some (.ref 46), some (.long w1), none, some (.int (v3 &&& ((-1) : Int32))), some (.int v4)]) k_161_42 rfl (Nat.le_of_ble_eq_true rfl) rfl) ?_
      refine Eq.trans (ev_iinc (pc := 43) (v := 1) (lv' := [some (.ref 46), some (.long w1), none, some (.int (v3 &&& ((-1) : Int32))), some (.int (v4 + 1))]) k_161_43 rfl rfl (by decide) rfl) ?_
      refine Eq.trans (ev_goto (pc := 46) k_161_46.1 rfl k_161_46.2) ?_
      exact ev_mk kd_161_12 rfl
  · refine Eq.trans (ev_iload_n (pc := 49) k_161_49 rfl rfl) ?_
    exact ev_ret_int k_161_50 rfl rt_161

set_option maxRecDepth 100000 in
theorem E_Mo_sureOf (sc : zSc) (d : Nat) (h : zHp) (v0 : Int32) (w1 : Int64) : zRun sc d 162 [.int v0, .long w1] zGL h = (if w1 = (0 : Int64) then some (some (.int 0), zGL, h) else some (some (.int v0), zGL, h)) := by
  have he : zEnt 162 [.int v0, .long w1] = [some (.int v0), some (.long w1), none] := by unfold zEnt; rw [ml_162]; rfl
  unfold zRun
  rw [he]
  refine Eq.trans (ev_lload_n (pc := 0) k_162_0 rfl rfl) ?_
  refine Eq.trans (ev_lconst (pc := 1) (v := 0) k_162_1 rfl (by decide)) ?_
  refine Eq.trans (ev_lcmp (pc := 2) k_162_2 rfl) ?_
  refine Eq.trans (ev_ilne (pc := 3) k_162_3.1 rfl k_162_3.2) (z_ite ?_ ?_)
  · refine Eq.trans (ev_iconst (pc := 6) (v := 0) k_162_6 rfl (by decide)) ?_
    refine Eq.trans (ev_goto (pc := 7) k_162_7.1 rfl k_162_7.2) ?_
    refine Eq.trans (ev_mk (pc := 11) (lv' := [none, none, none]) kd_162_11 rfl) ?_
    exact ev_ret_int k_162_11 rfl rt_162
  · refine Eq.trans (ev_iload_n (pc := 10) k_162_10 rfl rfl) ?_
    refine Eq.trans (ev_mk (pc := 11) (lv' := [none, none, none]) kd_162_11 rfl) ?_
    exact ev_ret_int k_162_11 rfl rt_162

set_option maxRecDepth 100000 in
theorem E_Mo_sureLacks (sc : zSc) (d : Nat) (h : zHp) (v1 : Int32) (v2 : Int32) : zRun sc (d + 1) 163 [.ref 46, .int v1, .int v2] zGL h = (if zin (((5 : Int32) * v1) + v2) 25 = true then (zBi (zRun sc d 153 [.ref 46, .long (h.2.1 53 (((5 : Int32) * v1) + v2).toNatClampNeg)] zGL h) zGL fun x1 h1 => (if zin (((5 : Int32) * v1) + v2) 25 = true then (zBi (zRun sc d 162 [.int x1, .long (h1.2.1 53 (((5 : Int32) * v1) + v2).toNatClampNeg)] zGL h1) zGL fun x2 h2 => some (some (.int x2), zGL, h2)) else none)) else none) := by
  have he : zEnt 163 [.ref 46, .int v1, .int v2] = [some (.ref 46), some (.int v1), some (.int v2)] := by unfold zEnt; rw [ml_163]; rfl
  unfold zRun
  rw [he]
  refine Eq.trans (ev_aload_n (pc := 0) (x := 46) k_163_0 rfl rfl (by decide)) ?_
  refine Eq.trans (ev_aload_n (pc := 1) (x := 46) k_163_1 rfl rfl (by decide)) ?_
  refine Eq.trans (ev_getR (pc := 2) (b := 53) k_163_2 rfl zo_46.1 zg_46_10) ?_
  refine Eq.trans (ev_iconst (pc := 5) (v := 5) k_163_5 rfl (by decide)) ?_
  refine Eq.trans (ev_iload_n (pc := 6) k_163_6 rfl rfl) ?_
  refine Eq.trans (ev_imul (pc := 7) k_163_7 rfl) ?_
  refine Eq.trans (ev_iload_n (pc := 8) k_163_8 rfl rfl) ?_
  refine Eq.trans (ev_iadd (pc := 9) k_163_9 rfl) ?_
  refine Eq.trans (ev_lald_c (pc := 10) k_163_10 rfl za_53) (z_it1 ?_)
  refine Eq.trans (ev_vi (pc := 11) (as := [.long (h.2.1 53 (((5 : Int32) * v1) + v2).toNatClampNeg)]) (rest := []) k_163_11 rfl zo_46 rfl rfl (Nat.le_of_ble_eq_true rfl) (Nat.le_of_ble_eq_true rfl)) (z_cbi fun x1 h1 => ?_)
  refine Eq.trans (ev_aload_n (pc := 14) (x := 46) k_163_14 rfl rfl (by decide)) ?_
  refine Eq.trans (ev_getR (pc := 15) (b := 53) k_163_15 rfl zo_46.1 zg_46_10) ?_
  refine Eq.trans (ev_iconst (pc := 18) (v := 5) k_163_18 rfl (by decide)) ?_
  refine Eq.trans (ev_iload_n (pc := 19) k_163_19 rfl rfl) ?_
  refine Eq.trans (ev_imul (pc := 20) k_163_20 rfl) ?_
  refine Eq.trans (ev_iload_n (pc := 21) k_163_21 rfl rfl) ?_
  refine Eq.trans (ev_iadd (pc := 22) k_163_22 rfl) ?_
  refine Eq.trans (ev_lald_c (pc := 23) k_163_23 rfl za_53) (z_it1 ?_)
  refine Eq.trans (ev_si (pc := 24) (as := [.int x1, .long (h1.2.1 53 (((5 : Int32) * v1) + v2).toNatClampNeg)]) (rest := []) k_163_24 rfl rfl rfl (Nat.le_of_ble_eq_true rfl) (Nat.le_of_ble_eq_true rfl)) (z_cbi fun x2 h2 => ?_)
  exact ev_ret_int k_163_27 rfl rt_163

set_option maxRecDepth 100000 in
theorem E_Mo_safe (sc : zSc) (d : Nat) (h : zHp) (v1 : Int32) (v2 : Int32) : zRun sc (d + 1) 164 [.ref 46, .int v1, .int v2] zGL h = (zBi (zRun sc d 157 [.ref 46, .int v1, .int v2] zGL h) zGL fun x1 h1 => (if x1 = 0 then some (some (.int (-1000000001)), zGL, h1) else (zBi (zRun sc d 165 [.ref 46, .int v1, .int v2] zGL h1) zGL fun x2 h2 => some (some (.int x2), zGL, h2)))) := by
  have he : zEnt 164 [.ref 46, .int v1, .int v2] = [some (.ref 46), some (.int v1), some (.int v2)] := by unfold zEnt; rw [ml_164]; rfl
  unfold zRun
  rw [he]
  refine Eq.trans (ev_aload_n (pc := 0) (x := 46) k_164_0 rfl rfl (by decide)) ?_
  refine Eq.trans (ev_iload_n (pc := 1) k_164_1 rfl rfl) ?_
  refine Eq.trans (ev_iload_n (pc := 2) k_164_2 rfl rfl) ?_
  refine Eq.trans (ev_vi (pc := 3) (as := [.int v1, .int v2]) (rest := []) k_164_3 rfl zo_46 rfl rfl (Nat.le_of_ble_eq_true rfl) (Nat.le_of_ble_eq_true rfl)) (z_cbi fun x1 h1 => ?_)
  refine Eq.trans (ev_ifeq (pc := 6) k_164_6.1 rfl k_164_6.2) (z_ite ?_ ?_)
  · refine Eq.trans (ev_ldc (pc := 18) (v := (-1000000001)) k_164_18 rfl) ?_
    refine Eq.trans (ev_mk (pc := 20) (lv' := [none, none, none]) kd_164_20 rfl) ?_
    exact ev_ret_int k_164_20 rfl rt_164
  · refine Eq.trans (ev_aload_n (pc := 9) (x := 46) k_164_9 rfl rfl (by decide)) ?_
    refine Eq.trans (ev_iload_n (pc := 10) k_164_10 rfl rfl) ?_
    refine Eq.trans (ev_iload_n (pc := 11) k_164_11 rfl rfl) ?_
    refine Eq.trans (ev_vi (pc := 12) (as := [.int v1, .int v2]) (rest := []) k_164_12 rfl zo_46 rfl rfl (Nat.le_of_ble_eq_true rfl) (Nat.le_of_ble_eq_true rfl)) (z_cbi fun x2 h2 => ?_)
    refine Eq.trans (ev_goto (pc := 15) k_164_15.1 rfl k_164_15.2) ?_
    refine Eq.trans (ev_mk (pc := 20) (lv' := [none, none, none]) kd_164_20 rfl) ?_
    exact ev_ret_int k_164_20 rfl rt_164

set_option maxRecDepth 100000 in
theorem E_Mo_safeOf (sc : zSc) (d : Nat) (h : zHp) (v1 : Int32) (v2 : Int32) : zRun sc (d + 1) 165 [.ref 46, .int v1, .int v2] zGL h = (if zin v1 5 = true then (zBi (zRun sc d 163 [.ref 46, .int v1, .int v2] zGL h) zGL fun x1 h1 => some (some (.int ((h.1 51 v1.toNatClampNeg) &&& x1)), zGL, h1)) else none) := by
  have he : zEnt 165 [.ref 46, .int v1, .int v2] = [some (.ref 46), some (.int v1), some (.int v2)] := by unfold zEnt; rw [ml_165]; rfl
  unfold zRun
  rw [he]
  refine Eq.trans (ev_aload_n (pc := 0) (x := 46) k_165_0 rfl rfl (by decide)) ?_
  refine Eq.trans (ev_getR (pc := 1) (b := 51) k_165_1 rfl zo_46.1 zg_46_8) ?_
  refine Eq.trans (ev_iload_n (pc := 4) k_165_4 rfl rfl) ?_
  refine Eq.trans (ev_iald_c (pc := 5) k_165_5 rfl za_51) (z_it1 ?_)
  refine Eq.trans (ev_aload_n (pc := 6) (x := 46) k_165_6 rfl rfl (by decide)) ?_
  refine Eq.trans (ev_iload_n (pc := 7) k_165_7 rfl rfl) ?_
  refine Eq.trans (ev_iload_n (pc := 8) k_165_8 rfl rfl) ?_
  refine Eq.trans (ev_vi (pc := 9) (as := [.int v1, .int v2]) (rest := [.int (h.1 51 v1.toNatClampNeg)]) k_165_9 rfl zo_46 rfl rfl (Nat.le_of_ble_eq_true rfl) (Nat.le_of_ble_eq_true rfl)) (z_cbi fun x1 h1 => ?_)
  refine Eq.trans (ev_iand (pc := 12) k_165_12 rfl) ?_
  exact ev_ret_int k_165_13 rfl rt_165

set_option maxRecDepth 100000 in
theorem E_Mo_odds (sc : zSc) (d : Nat) (h : zHp) (v1 : Int32) (v2 : Int32) (v3 : Int32) : zRun sc (d + 1) 166 [.ref 46, .int v1, .int v2, .int v3] zGL h = (zBi (zRun sc d 157 [.ref 46, .int v1, .int v2] zGL h) zGL fun x1 h1 => (if x1 = 0 then some (some (.int (-1000000001)), zGL, h1) else (zBi (zRun sc d 148 [.ref 46, .int v3] zGL h1) zGL fun x2 h2 => (if x2 = 0 then some (some (.int (-1000000001)), zGL, h2) else (zBi (zRun sc d 167 [.ref 46, .int v1, .int v2, .int v3] zGL h2) zGL fun x3 h3 => some (some (.int x3), zGL, h3)))))) := by
  have he : zEnt 166 [.ref 46, .int v1, .int v2, .int v3] = [some (.ref 46), some (.int v1), some (.int v2), some (.int v3)] := by unfold zEnt; rw [ml_166]; rfl
  unfold zRun
  rw [he]
  refine Eq.trans (ev_aload_n (pc := 0) (x := 46) k_166_0 rfl rfl (by decide)) ?_
  refine Eq.trans (ev_iload_n (pc := 1) k_166_1 rfl rfl) ?_
  refine Eq.trans (ev_iload_n (pc := 2) k_166_2 rfl rfl) ?_
  refine Eq.trans (ev_vi (pc := 3) (as := [.int v1, .int v2]) (rest := []) k_166_3 rfl zo_46 rfl rfl (Nat.le_of_ble_eq_true rfl) (Nat.le_of_ble_eq_true rfl)) (z_cbi fun x1 h1 => ?_)
  refine Eq.trans (ev_ifeq (pc := 6) k_166_6.1 rfl k_166_6.2) (z_ite ?_ ?_)
  · refine Eq.trans (ev_mk (pc := 27) (lv' := [none, none, none, none]) kd_166_27 rfl) ?_
    refine Eq.trans (ev_ldc (pc := 27) (v := (-1000000001)) k_166_27 rfl) ?_
    exact ev_ret_int k_166_29 rfl rt_166
  · refine Eq.trans (ev_aload_n (pc := 9) (x := 46) k_166_9 rfl rfl (by decide)) ?_
    refine Eq.trans (ev_iload_n (pc := 10) k_166_10 rfl rfl) ?_
    refine Eq.trans (ev_vi (pc := 11) (as := [.int v3]) (rest := []) k_166_11 rfl zo_46 rfl rfl (Nat.le_of_ble_eq_true rfl) (Nat.le_of_ble_eq_true rfl)) (z_cbi fun x2 h2 => ?_)
    refine Eq.trans (ev_ifeq (pc := 14) k_166_14.1 rfl k_166_14.2) (z_ite ?_ ?_)
    · refine Eq.trans (ev_mk (pc := 27) (lv' := [none, none, none, none]) kd_166_27 rfl) ?_
      refine Eq.trans (ev_ldc (pc := 27) (v := (-1000000001)) k_166_27 rfl) ?_
      exact ev_ret_int k_166_29 rfl rt_166
    · refine Eq.trans (ev_aload_n (pc := 17) (x := 46) k_166_17 rfl rfl (by decide)) ?_
      refine Eq.trans (ev_iload_n (pc := 18) k_166_18 rfl rfl) ?_
      refine Eq.trans (ev_iload_n (pc := 19) k_166_19 rfl rfl) ?_
      refine Eq.trans (ev_iload_n (pc := 20) k_166_20 rfl rfl) ?_
      refine Eq.trans (ev_vi (pc := 21) (as := [.int v1, .int v2, .int v3]) (rest := []) k_166_21 rfl zo_46 rfl rfl (Nat.le_of_ble_eq_true rfl) (Nat.le_of_ble_eq_true rfl)) (z_cbi fun x3 h3 => ?_)
      refine Eq.trans (ev_goto (pc := 24) k_166_24.1 rfl k_166_24.2) ?_
      refine Eq.trans (ev_mk (pc := 29) (lv' := [none, none, none, none]) kd_166_29 rfl) ?_
      exact ev_ret_int k_166_29 rfl rt_166

set_option maxRecDepth 100000 in
theorem E_Mo_oddsOf (sc : zSc) (d : Nat) (h : zHp) (v1 : Int32) (v2 : Int32) (v3 : Int32) : zRun sc (d + 1) 167 [.ref 46, .int v1, .int v2, .int v3] zGL h = (if zin (((5 : Int32) * v1) + v2) 25 = true then (if (h.2.1 53 (((5 : Int32) * v1) + v2).toNatClampNeg) = (0 : Int64) then some (some (.int 0), zGL, h) else (zBj (zRun sc d 168 [.ref 46, .long (h.2.1 53 (((5 : Int32) * v1) + v2).toNatClampNeg), .int v3, .int 0] zGL h) zGL fun x1 h1 => (zBi (zRun sc d 146 [.long x1] zGL h1) zGL fun x2 h2 => (zBi (zRun sc d 146 [.long (h.2.1 53 (((5 : Int32) * v1) + v2).toNatClampNeg)] zGL h2) zGL fun x3 h3 => (if x3 = 0 then none else some (some (.int (((1000000 : Int32) * x2) / x3)), zGL, h3)))))) else none) := by
  have he : zEnt 167 [.ref 46, .int v1, .int v2, .int v3] = [some (.ref 46), some (.int v1), some (.int v2), some (.int v3), none, none] := by unfold zEnt; rw [ml_167]; rfl
  unfold zRun
  rw [he]
  refine Eq.trans (ev_aload_n (pc := 0) (x := 46) k_167_0 rfl rfl (by decide)) ?_
  refine Eq.trans (ev_getR (pc := 1) (b := 53) k_167_1 rfl zo_46.1 zg_46_10) ?_
  refine Eq.trans (ev_iconst (pc := 4) (v := 5) k_167_4 rfl (by decide)) ?_
  refine Eq.trans (ev_iload_n (pc := 5) k_167_5 rfl rfl) ?_
  refine Eq.trans (ev_imul (pc := 6) k_167_6 rfl) ?_
  refine Eq.trans (ev_iload_n (pc := 7) k_167_7 rfl rfl) ?_
  refine Eq.trans (ev_iadd (pc := 8) k_167_8 rfl) ?_
  refine Eq.trans (ev_lald_c (pc := 9) k_167_9 rfl za_53) (z_it1 ?_)
  refine Eq.trans (ev_lstore (pc := 10) (lv' := [some (.ref 46), some (.int v1), some (.int v2), some (.int v3), some (.long (h.2.1 53 (((5 : Int32) * v1) + v2).toNatClampNeg)), none]) k_167_10 rfl (Nat.le_of_ble_eq_true rfl) rfl) ?_
  refine Eq.trans (ev_lload (pc := 12) k_167_12 rfl rfl) ?_
  refine Eq.trans (ev_lconst (pc := 14) (v := 0) k_167_14 rfl (by decide)) ?_
  refine Eq.trans (ev_lcmp (pc := 15) k_167_15 rfl) ?_
  refine Eq.trans (ev_ilne (pc := 16) k_167_16.1 rfl k_167_16.2) (z_ite ?_ ?_)
  · refine Eq.trans (ev_iconst (pc := 19) (v := 0) k_167_19 rfl (by decide)) ?_
    refine Eq.trans (ev_goto (pc := 20) k_167_20.1 rfl k_167_20.2) ?_
    refine Eq.trans (ev_mk (pc := 44) (lv' := [none, none, none, none, none, none]) kd_167_44 rfl) ?_
    exact ev_ret_int k_167_44 rfl rt_167
  · refine Eq.trans (ev_ldcw (pc := 23) (v := 1000000) k_167_23 rfl) ?_
    refine Eq.trans (ev_aload_n (pc := 26) (x := 46) k_167_26 rfl rfl (by decide)) ?_
    refine Eq.trans (ev_lload (pc := 27) k_167_27 rfl rfl) ?_
    refine Eq.trans (ev_iload_n (pc := 29) k_167_29 rfl rfl) ?_
    refine Eq.trans (ev_iconst (pc := 30) (v := 0) k_167_30 rfl (by decide)) ?_
    refine Eq.trans (ev_vj (pc := 31) (as := [.long (h.2.1 53 (((5 : Int32) * v1) + v2).toNatClampNeg), .int v3, .int 0]) (rest := [.int 1000000]) k_167_31 rfl zo_46 rfl rfl (Nat.le_of_ble_eq_true rfl) (Nat.le_of_ble_eq_true rfl)) (z_cbj fun x1 h1 => ?_)
    refine Eq.trans (ev_si (pc := 34) (as := [.long x1]) (rest := [.int 1000000]) k_167_34 rfl rfl rfl (Nat.le_of_ble_eq_true rfl) (Nat.le_of_ble_eq_true rfl)) (z_cbi fun x2 h2 => ?_)
    refine Eq.trans (ev_imul (pc := 37) k_167_37 rfl) ?_
    refine Eq.trans (ev_lload (pc := 38) k_167_38 rfl rfl) ?_
    refine Eq.trans (ev_si (pc := 40) (as := [.long (h.2.1 53 (((5 : Int32) * v1) + v2).toNatClampNeg)]) (rest := [.int ((1000000 : Int32) * x2)]) k_167_40 rfl rfl rfl (Nat.le_of_ble_eq_true rfl) (Nat.le_of_ble_eq_true rfl)) (z_cbi fun x3 h3 => ?_)
    refine Eq.trans (ev_idiv_c (pc := 43) k_167_43 rfl) (z_it2 ?_)
    refine Eq.trans (ev_mk (pc := 44) (lv' := [none, none, none, none, none, none]) kd_167_44 rfl) ?_
    exact ev_ret_int k_167_44 rfl rt_167

set_option maxRecDepth 100000 in
theorem E_Mo_those (sc : zSc) (d : Nat) (h : zHp) (w1 : Int64) (v3 : Int32) (v4 : Int32) : zRun sc (d + 1) 168 [.ref 46, .long w1, .int v3, .int v4] zGL h = zE sc (d + 1) 168 6 [some (.ref 46), some (.long w1), none, some (.int v3), some (.int v4), some (.long 0), none, some (.int 0)] [] zGL h := by
  have he : zEnt 168 [.ref 46, .long w1, .int v3, .int v4] = [some (.ref 46), some (.long w1), none, some (.int v3), some (.int v4), none, none, none] := by unfold zEnt; rw [ml_168]; rfl
  unfold zRun
  rw [he]
  refine Eq.trans (ev_lconst (pc := 0) (v := 0) k_168_0 rfl (by decide)) ?_
  refine Eq.trans (ev_lstore (pc := 1) (lv' := [some (.ref 46), some (.long w1), none, some (.int v3), some (.int v4), some (.long 0), none, none]) k_168_1 rfl (Nat.le_of_ble_eq_true rfl) rfl) ?_
  refine Eq.trans (ev_iconst (pc := 3) (v := 0) k_168_3 rfl (by decide)) ?_
  refine Eq.trans (ev_istore (pc := 4) (lv' := [some (.ref 46), some (.long w1), none, some (.int v3), some (.int v4), some (.long 0), none, some (.int 0)]) k_168_4 rfl (Nat.le_of_ble_eq_true rfl) rfl) ?_
  exact ev_mk kd_168_6 rfl

set_option maxRecDepth 100000 in
theorem E_Mo_those_6 (sc : zSc) (d : Nat) (h : zHp) (w1 : Int64) (v3 : Int32) (v4 : Int32) (w5 : Int64) (v7 : Int32) : zE sc (d + 1) 168 6 [some (.ref 46), some (.long w1), none, some (.int v3), some (.int v4), some (.long w5), none, some (.int v7)] [] zGL h = (if v7 < ((1 : Int32) <<< ((h.1 46 0) &&& 31)) then (zBi (zRun sc d 129 [.int v7, .int v3] zGL h) zGL fun x1 h1 => (if x1 = v4 then zE sc (d + 1) 168 6 [some (.ref 46), some (.long w1), none, some (.int v3), some (.int v4), some (.long (w5 ||| (w1 &&& ((1 : Int64) <<< (v7.toInt64 &&& 63))))), none, some (.int (v7 + 1))] [] zGL h1 else zE sc (d + 1) 168 6 [some (.ref 46), some (.long w1), none, some (.int v3), some (.int v4), some (.long (w5 ||| (0 : Int64))), none, some (.int (v7 + 1))] [] zGL h1)) else some (some (.long w5), zGL, h)) := by
  refine Eq.trans (ev_iload (pc := 6) k_168_6 rfl rfl) ?_
  refine Eq.trans (ev_iconst (pc := 8) (v := 1) k_168_8 rfl (by decide)) ?_
  refine Eq.trans (ev_aload_n (pc := 9) (x := 46) k_168_9 rfl rfl (by decide)) ?_
  refine Eq.trans (ev_getI (pc := 10) k_168_10 rfl zo_46.1) ?_
  refine Eq.trans (ev_ishl (pc := 13) k_168_13 rfl) ?_
  refine Eq.trans (ev_icge (pc := 14) k_168_14.1 rfl k_168_14.2) (z_ite ?_ ?_)
  · refine Eq.trans (ev_lload (pc := 17) k_168_17 rfl rfl) ?_
    refine Eq.trans (ev_iload (pc := 19) k_168_19 rfl rfl) ?_
    refine Eq.trans (ev_iload_n (pc := 21) k_168_21 rfl rfl) ?_
    refine Eq.trans (ev_si (pc := 22) (as := [.int v7, .int v3]) (rest := [.long w5]) k_168_22 rfl rfl rfl (Nat.le_of_ble_eq_true rfl) (Nat.le_of_ble_eq_true rfl)) (z_cbi fun x1 h1 => ?_)
    refine Eq.trans (ev_iload (pc := 25) k_168_25 rfl rfl) ?_
    refine Eq.trans (ev_icne (pc := 27) k_168_27.1 rfl k_168_27.2) (z_ite ?_ ?_)
    · refine Eq.trans (ev_lload_n (pc := 30) k_168_30 rfl rfl) ?_
      refine Eq.trans (ev_lconst (pc := 31) (v := 1) k_168_31 rfl (by decide)) ?_
      refine Eq.trans (ev_iload (pc := 32) k_168_32 rfl rfl) ?_
      refine Eq.trans (ev_lshl (pc := 34) k_168_34 rfl) ?_
      refine Eq.trans (ev_land (pc := 35) k_168_35 rfl) ?_
      refine Eq.trans (ev_goto (pc := 36) k_168_36.1 rfl k_168_36.2) ?_
      refine Eq.trans (ev_mk (pc := 40) (lv' := [some (.ref 46), some (.long w1), none, some (.int v3), some (.int v4), none, none, some (.int v7)]) kd_168_40 rfl) ?_
      refine Eq.trans (ev_lor (pc := 40) k_168_40 rfl) ?_
      refine Eq.trans (ev_lstore (pc := 41) (lv' := [some (.ref 46), some (.long w1), none, some (.int v3), some (.int v4), some (.long (w5 ||| (w1 &&& ((1 : Int64) <<< (v7.toInt64 &&& 63))))), none, some (.int v7)]) k_168_41 rfl (Nat.le_of_ble_eq_true rfl) rfl) ?_
      refine Eq.trans (ev_iinc (pc := 43) (v := 1) (lv' := [some (.ref 46), some (.long w1), none, some (.int v3), some (.int v4), some (.long (w5 ||| (w1 &&& ((1 : Int64) <<< (v7.toInt64 &&& 63))))), none, some (.int (v7 + 1))]) k_168_43 rfl rfl (by decide) rfl) ?_
      refine Eq.trans (ev_goto (pc := 46) k_168_46.1 rfl k_168_46.2) ?_
      exact ev_mk kd_168_6 rfl
    · refine Eq.trans (ev_lconst (pc := 39) (v := 0) k_168_39 rfl (by decide)) ?_
      refine Eq.trans (ev_mk (pc := 40) (lv' := [some (.ref 46), some (.long w1), none, some (.int v3), some (.int v4), none, none, some (.int v7)]) kd_168_40 rfl) ?_
      refine Eq.trans (ev_lor (pc := 40) k_168_40 rfl) ?_
      refine Eq.trans (ev_lstore (pc := 41) (lv' := [some (.ref 46), some (.long w1), none, some (.int v3), some (.int v4), some (.long (w5 ||| (0 : Int64))), none, some (.int v7)]) k_168_41 rfl (Nat.le_of_ble_eq_true rfl) rfl) ?_
      refine Eq.trans (ev_iinc (pc := 43) (v := 1) (lv' := [some (.ref 46), some (.long w1), none, some (.int v3), some (.int v4), some (.long (w5 ||| (0 : Int64))), none, some (.int (v7 + 1))]) k_168_43 rfl rfl (by decide) rfl) ?_
      refine Eq.trans (ev_goto (pc := 46) k_168_46.1 rfl k_168_46.2) ?_
      exact ev_mk kd_168_6 rfl
  · refine Eq.trans (ev_lload (pc := 49) k_168_49 rfl rfl) ?_
    exact ev_ret_long k_168_51 rfl rt_168

set_option maxRecDepth 100000 in
theorem E_Mo_best (sc : zSc) (d : Nat) (h : zHp) (v1 : Int32) (v2 : Int32) : zRun sc (d + 1) 169 [.ref 46, .int v1, .int v2] zGL h = (zBi (zRun sc d 157 [.ref 46, .int v1, .int v2] zGL h) zGL fun x1 h1 => (if x1 = 0 then some (some (.int (-1000000001)), zGL, h1) else (zBi (zRun sc d 170 [.ref 46, .int v1, .int v2] zGL h1) zGL fun x2 h2 => some (some (.int x2), zGL, h2)))) := by
  have he : zEnt 169 [.ref 46, .int v1, .int v2] = [some (.ref 46), some (.int v1), some (.int v2)] := by unfold zEnt; rw [ml_169]; rfl
  unfold zRun
  rw [he]
  refine Eq.trans (ev_aload_n (pc := 0) (x := 46) k_169_0 rfl rfl (by decide)) ?_
  refine Eq.trans (ev_iload_n (pc := 1) k_169_1 rfl rfl) ?_
  refine Eq.trans (ev_iload_n (pc := 2) k_169_2 rfl rfl) ?_
  refine Eq.trans (ev_vi (pc := 3) (as := [.int v1, .int v2]) (rest := []) k_169_3 rfl zo_46 rfl rfl (Nat.le_of_ble_eq_true rfl) (Nat.le_of_ble_eq_true rfl)) (z_cbi fun x1 h1 => ?_)
  refine Eq.trans (ev_ifeq (pc := 6) k_169_6.1 rfl k_169_6.2) (z_ite ?_ ?_)
  · refine Eq.trans (ev_ldc (pc := 18) (v := (-1000000001)) k_169_18 rfl) ?_
    refine Eq.trans (ev_mk (pc := 20) (lv' := [none, none, none]) kd_169_20 rfl) ?_
    exact ev_ret_int k_169_20 rfl rt_169
  · refine Eq.trans (ev_aload_n (pc := 9) (x := 46) k_169_9 rfl rfl (by decide)) ?_
    refine Eq.trans (ev_iload_n (pc := 10) k_169_10 rfl rfl) ?_
    refine Eq.trans (ev_iload_n (pc := 11) k_169_11 rfl rfl) ?_
    refine Eq.trans (ev_vi (pc := 12) (as := [.int v1, .int v2]) (rest := []) k_169_12 rfl zo_46 rfl rfl (Nat.le_of_ble_eq_true rfl) (Nat.le_of_ble_eq_true rfl)) (z_cbi fun x2 h2 => ?_)
    refine Eq.trans (ev_goto (pc := 15) k_169_15.1 rfl k_169_15.2) ?_
    refine Eq.trans (ev_mk (pc := 20) (lv' := [none, none, none]) kd_169_20 rfl) ?_
    exact ev_ret_int k_169_20 rfl rt_169

set_option maxRecDepth 100000 in
theorem E_Mo_bestOf (sc : zSc) (d : Nat) (h : zHp) (v1 : Int32) (v2 : Int32) : zRun sc (d + 1) 170 [.ref 46, .int v1, .int v2] zGL h = zE sc (d + 1) 170 5 [some (.ref 46), some (.int v1), some (.int v2), some (.int (-1)), some (.int 0)] [] zGL h := by
  have he : zEnt 170 [.ref 46, .int v1, .int v2] = [some (.ref 46), some (.int v1), some (.int v2), none, none] := by unfold zEnt; rw [ml_170]; rfl
  unfold zRun
  rw [he]
  refine Eq.trans (ev_iconst (pc := 0) (v := (-1)) k_170_0 rfl (by decide)) ?_
  refine Eq.trans (ev_istore_n (pc := 1) (lv' := [some (.ref 46), some (.int v1), some (.int v2), some (.int (-1)), none]) k_170_1 rfl (Nat.le_of_ble_eq_true rfl) rfl) ?_
  refine Eq.trans (ev_iconst (pc := 2) (v := 0) k_170_2 rfl (by decide)) ?_
  refine Eq.trans (ev_istore (pc := 3) (lv' := [some (.ref 46), some (.int v1), some (.int v2), some (.int (-1)), some (.int 0)]) k_170_3 rfl (Nat.le_of_ble_eq_true rfl) rfl) ?_
  exact ev_mk kd_170_5 rfl

set_option maxRecDepth 100000 in
theorem E_Mo_bestOf_5 (sc : zSc) (d : Nat) (h : zHp) (v1 : Int32) (v2 : Int32) (v3 : Int32) (v4 : Int32) : zE sc (d + 1) 170 5 [some (.ref 46), some (.int v1), some (.int v2), some (.int v3), some (.int v4)] [] zGL h = (if v4 < (h.1 46 0) then (if zin v1 5 = true then (zBi (zRun sc d 129 [.int (h.1 51 v1.toNatClampNeg), .int v4] zGL h) zGL fun x1 h1 => (if x1 = 0 then zE sc (d + 1) 170 5 [some (.ref 46), some (.int v1), some (.int v2), some (.int v3), some (.int (v4 + 1))] [] zGL h1 else (if v3 < 0 then zE sc (d + 1) 170 5 [some (.ref 46), some (.int v1), some (.int v2), some (.int v4), some (.int (v4 + 1))] [] zGL h1 else (zBi (zRun sc d 167 [.ref 46, .int v1, .int v2, .int v4] zGL h1) zGL fun x2 h2 => (zBi (zRun sc d 167 [.ref 46, .int v1, .int v2, .int v3] zGL h2) zGL fun x3 h3 => (if x3 < x2 then zE sc (d + 1) 170 5 [some (.ref 46), some (.int v1), some (.int v2), some (.int v4), some (.int (v4 + 1))] [] zGL h3 else zE sc (d + 1) 170 5 [some (.ref 46), some (.int v1), some (.int v2), some (.int v3), some (.int (v4 + 1))] [] zGL h3)))))) else none) else some (some (.int v3), zGL, h)) := by
  refine Eq.trans (ev_iload (pc := 5) k_170_5 rfl rfl) ?_
  refine Eq.trans (ev_aload_n (pc := 7) (x := 46) k_170_7 rfl rfl (by decide)) ?_
  refine Eq.trans (ev_getI (pc := 8) k_170_8 rfl zo_46.1) ?_
  refine Eq.trans (ev_icge (pc := 11) k_170_11.1 rfl k_170_11.2) (z_ite ?_ ?_)
  · refine Eq.trans (ev_aload_n (pc := 14) (x := 46) k_170_14 rfl rfl (by decide)) ?_
    refine Eq.trans (ev_getR (pc := 15) (b := 51) k_170_15 rfl zo_46.1 zg_46_8) ?_
    refine Eq.trans (ev_iload_n (pc := 18) k_170_18 rfl rfl) ?_
    refine Eq.trans (ev_iald_c (pc := 19) k_170_19 rfl za_51) (z_it1 ?_)
    refine Eq.trans (ev_iload (pc := 20) k_170_20 rfl rfl) ?_
    refine Eq.trans (ev_si (pc := 22) (as := [.int (h.1 51 v1.toNatClampNeg), .int v4]) (rest := []) k_170_22 rfl rfl rfl (Nat.le_of_ble_eq_true rfl) (Nat.le_of_ble_eq_true rfl)) (z_cbi fun x1 h1 => ?_)
    refine Eq.trans (ev_ifeq (pc := 25) k_170_25.1 rfl k_170_25.2) (z_ite ?_ ?_)
    · refine Eq.trans (ev_iload_n (pc := 55) k_170_55 rfl rfl) ?_
      refine Eq.trans (ev_mk (pc := 56) (lv' := [some (.ref 46), some (.int v1), some (.int v2), none, some (.int v4)]) kd_170_56 rfl) ?_
      refine Eq.trans (ev_istore_n (pc := 56) (lv' := [some (.ref 46), some (.int v1), some (.int v2), some (.int v3), some (.int v4)]) k_170_56 rfl (Nat.le_of_ble_eq_true rfl) rfl) ?_
      refine Eq.trans (ev_iinc (pc := 57) (v := 1) (lv' := [some (.ref 46), some (.int v1), some (.int v2), some (.int v3), some (.int (v4 + 1))]) k_170_57 rfl rfl (by decide) rfl) ?_
      refine Eq.trans (ev_goto (pc := 60) k_170_60.1 rfl k_170_60.2) ?_
      exact ev_mk kd_170_5 rfl
    · refine Eq.trans (ev_iload_n (pc := 28) k_170_28 rfl rfl) ?_
      refine Eq.trans (ev_iflt (pc := 29) k_170_29.1 rfl k_170_29.2) (z_ite ?_ ?_)
      · refine Eq.trans (ev_mk (pc := 50) (lv' := [some (.ref 46), some (.int v1), some (.int v2), none, some (.int v4)]) kd_170_50 rfl) ?_
        refine Eq.trans (ev_iload (pc := 50) k_170_50 rfl rfl) ?_
        refine Eq.trans (ev_goto (pc := 52) k_170_52.1 rfl k_170_52.2) ?_
        refine Eq.trans (ev_istore_n (pc := 56) (lv' := [some (.ref 46), some (.int v1), some (.int v2), some (.int v4), some (.int v4)]) k_170_56 rfl (Nat.le_of_ble_eq_true rfl) rfl) ?_
        refine Eq.trans (ev_iinc (pc := 57) (v := 1) (lv' := [some (.ref 46), some (.int v1), some (.int v2), some (.int v4), some (.int (v4 + 1))]) k_170_57 rfl rfl (by decide) rfl) ?_
        refine Eq.trans (ev_goto (pc := 60) k_170_60.1 rfl k_170_60.2) ?_
        exact ev_mk kd_170_5 rfl
      · refine Eq.trans (ev_aload_n (pc := 32) (x := 46) k_170_32 rfl rfl (by decide)) ?_
        refine Eq.trans (ev_iload_n (pc := 33) k_170_33 rfl rfl) ?_
        refine Eq.trans (ev_iload_n (pc := 34) k_170_34 rfl rfl) ?_
        refine Eq.trans (ev_iload (pc := 35) k_170_35 rfl rfl) ?_
        refine Eq.trans (ev_vi (pc := 37) (as := [.int v1, .int v2, .int v4]) (rest := []) k_170_37 rfl zo_46 rfl rfl (Nat.le_of_ble_eq_true rfl) (Nat.le_of_ble_eq_true rfl)) (z_cbi fun x2 h2 => ?_)
        refine Eq.trans (ev_aload_n (pc := 40) (x := 46) k_170_40 rfl rfl (by decide)) ?_
        refine Eq.trans (ev_iload_n (pc := 41) k_170_41 rfl rfl) ?_
        refine Eq.trans (ev_iload_n (pc := 42) k_170_42 rfl rfl) ?_
        refine Eq.trans (ev_iload_n (pc := 43) k_170_43 rfl rfl) ?_
        refine Eq.trans (ev_vi (pc := 44) (as := [.int v1, .int v2, .int v3]) (rest := [.int x2]) k_170_44 rfl zo_46 rfl rfl (Nat.le_of_ble_eq_true rfl) (Nat.le_of_ble_eq_true rfl)) (z_cbi fun x3 h3 => ?_)
        refine Eq.trans (ev_icle (pc := 47) k_170_47.1 rfl k_170_47.2) (z_ite ?_ ?_)
        · refine Eq.trans (ev_mk (pc := 50) (lv' := [some (.ref 46), some (.int v1), some (.int v2), none, some (.int v4)]) kd_170_50 rfl) ?_
          refine Eq.trans (ev_iload (pc := 50) k_170_50 rfl rfl) ?_
          refine Eq.trans (ev_goto (pc := 52) k_170_52.1 rfl k_170_52.2) ?_
          refine Eq.trans (ev_istore_n (pc := 56) (lv' := [some (.ref 46), some (.int v1), some (.int v2), some (.int v4), some (.int v4)]) k_170_56 rfl (Nat.le_of_ble_eq_true rfl) rfl) ?_
          refine Eq.trans (ev_iinc (pc := 57) (v := 1) (lv' := [some (.ref 46), some (.int v1), some (.int v2), some (.int v4), some (.int (v4 + 1))]) k_170_57 rfl rfl (by decide) rfl) ?_
          refine Eq.trans (ev_goto (pc := 60) k_170_60.1 rfl k_170_60.2) ?_
          exact ev_mk kd_170_5 rfl
        · refine Eq.trans (ev_iload_n (pc := 55) k_170_55 rfl rfl) ?_
          refine Eq.trans (ev_mk (pc := 56) (lv' := [some (.ref 46), some (.int v1), some (.int v2), none, some (.int v4)]) kd_170_56 rfl) ?_
          refine Eq.trans (ev_istore_n (pc := 56) (lv' := [some (.ref 46), some (.int v1), some (.int v2), some (.int v3), some (.int v4)]) k_170_56 rfl (Nat.le_of_ble_eq_true rfl) rfl) ?_
          refine Eq.trans (ev_iinc (pc := 57) (v := 1) (lv' := [some (.ref 46), some (.int v1), some (.int v2), some (.int v3), some (.int (v4 + 1))]) k_170_57 rfl rfl (by decide) rfl) ?_
          refine Eq.trans (ev_goto (pc := 60) k_170_60.1 rfl k_170_60.2) ?_
          exact ev_mk kd_170_5 rfl
  · refine Eq.trans (ev_iload_n (pc := 63) k_170_63 rfl rfl) ?_
    exact ev_ret_int k_170_64 rfl rt_170

set_option maxRecDepth 100000 in
theorem E_Mo_say (sc : zSc) (d : Nat) (h : zHp) (v1 : Int32) (v2 : Int32) (v3 : Int32) (v4 : Int32) : zRun sc (d + 1) 171 [.ref 46, .int v1, .int v2, .int v3, .int v4] zGL h = (zBi (zRun sc d 157 [.ref 46, .int v1, .int v2] zGL h) zGL fun x1 h1 => (if x1 = 0 then some (some (.int (-1000000001)), zGL, h1) else (zBi (zRun sc d 148 [.ref 46, .int v3] zGL h1) zGL fun x2 h2 => (if x2 = 0 then some (some (.int (-1000000001)), zGL, h2) else (zBi (zRun sc d 132 [.long v4.toInt64, .long 0, .long ((((1 : Int32) <<< ((h2.1 46 3) &&& 31)) - (1 : Int32)).toInt64)] zGL h2) zGL fun x3 h3 => (if x3 = 0 then some (some (.int (-1000000001)), zGL, h3) else (zBi (zRun sc d 129 [.int v4, .int v1] zGL h3) zGL fun x4 h4 => (if x4 = 0 then (zBi (zRun sc d 129 [.int v4, .int v2] zGL h4) zGL fun x5 h5 => (if x5 = 0 then (if zin v1 5 = true then (zBi (zRun sc d 129 [.int (h5.1 51 v1.toNatClampNeg), .int v3] zGL h5) zGL fun x6 h6 => (if x6 = 0 then some (some (.int (-1000000003)), zGL, h6) else (zBi (zRun sc d 172 [.ref 46, .int v1, .int v2, .int v3, .int v4] zGL h6) zGL fun x7 h7 => (if x7 = 0 then some (some (.int 0), zGL, h7) else some (some (.int 1), zGL, h7))))) else none) else some (some (.int (-1000000001)), zGL, h5))) else some (some (.int (-1000000001)), zGL, h4))))))))) := by
  have he : zEnt 171 [.ref 46, .int v1, .int v2, .int v3, .int v4] = [some (.ref 46), some (.int v1), some (.int v2), some (.int v3), some (.int v4)] := by unfold zEnt; rw [ml_171]; rfl
  unfold zRun
  rw [he]
  refine Eq.trans (ev_aload_n (pc := 0) (x := 46) k_171_0 rfl rfl (by decide)) ?_
  refine Eq.trans (ev_iload_n (pc := 1) k_171_1 rfl rfl) ?_
  refine Eq.trans (ev_iload_n (pc := 2) k_171_2 rfl rfl) ?_
  refine Eq.trans (ev_vi (pc := 3) (as := [.int v1, .int v2]) (rest := []) k_171_3 rfl zo_46 rfl rfl (Nat.le_of_ble_eq_true rfl) (Nat.le_of_ble_eq_true rfl)) (z_cbi fun x1 h1 => ?_)
  refine Eq.trans (ev_ifeq (pc := 6) k_171_6.1 rfl k_171_6.2) (z_ite ?_ ?_)
  · refine Eq.trans (ev_mk (pc := 54) (lv' := [none, none, none, none, none]) kd_171_54 rfl) ?_
    refine Eq.trans (ev_ldc (pc := 54) (v := (-1000000001)) k_171_54 rfl) ?_
    exact ev_ret_int k_171_56 rfl rt_171
  · refine Eq.trans (ev_aload_n (pc := 9) (x := 46) k_171_9 rfl rfl (by decide)) ?_
    refine Eq.trans (ev_iload_n (pc := 10) k_171_10 rfl rfl) ?_
    refine Eq.trans (ev_vi (pc := 11) (as := [.int v3]) (rest := []) k_171_11 rfl zo_46 rfl rfl (Nat.le_of_ble_eq_true rfl) (Nat.le_of_ble_eq_true rfl)) (z_cbi fun x2 h2 => ?_)
    refine Eq.trans (ev_ifeq (pc := 14) k_171_14.1 rfl k_171_14.2) (z_ite ?_ ?_)
    · refine Eq.trans (ev_mk (pc := 54) (lv' := [none, none, none, none, none]) kd_171_54 rfl) ?_
      refine Eq.trans (ev_ldc (pc := 54) (v := (-1000000001)) k_171_54 rfl) ?_
      exact ev_ret_int k_171_56 rfl rt_171
    · refine Eq.trans (ev_iload (pc := 17) k_171_17 rfl rfl) ?_
      refine Eq.trans (ev_i2l (pc := 19) k_171_19 rfl) ?_
      refine Eq.trans (ev_lconst (pc := 20) (v := 0) k_171_20 rfl (by decide)) ?_
      refine Eq.trans (ev_iconst (pc := 21) (v := 1) k_171_21 rfl (by decide)) ?_
      refine Eq.trans (ev_aload_n (pc := 22) (x := 46) k_171_22 rfl rfl (by decide)) ?_
      refine Eq.trans (ev_getI (pc := 23) k_171_23 rfl zo_46.1) ?_
      refine Eq.trans (ev_ishl (pc := 26) k_171_26 rfl) ?_
      refine Eq.trans (ev_iconst (pc := 27) (v := 1) k_171_27 rfl (by decide)) ?_
      refine Eq.trans (ev_isub (pc := 28) k_171_28 rfl) ?_
      refine Eq.trans (ev_i2l (pc := 29) k_171_29 rfl) ?_
      refine Eq.trans (ev_si (pc := 30) (as := [.long v4.toInt64, .long 0, .long ((((1 : Int32) <<< ((h2.1 46 3) &&& 31)) - (1 : Int32)).toInt64)]) (rest := []) k_171_30 rfl rfl rfl (Nat.le_of_ble_eq_true rfl) (Nat.le_of_ble_eq_true rfl)) (z_cbi fun x3 h3 => ?_)
      refine Eq.trans (ev_ifeq (pc := 33) k_171_33.1 rfl k_171_33.2) (z_ite ?_ ?_)
      · refine Eq.trans (ev_mk (pc := 54) (lv' := [none, none, none, none, none]) kd_171_54 rfl) ?_
        refine Eq.trans (ev_ldc (pc := 54) (v := (-1000000001)) k_171_54 rfl) ?_
        exact ev_ret_int k_171_56 rfl rt_171
      · refine Eq.trans (ev_iload (pc := 36) k_171_36 rfl rfl) ?_
        refine Eq.trans (ev_iload_n (pc := 38) k_171_38 rfl rfl) ?_
        refine Eq.trans (ev_si (pc := 39) (as := [.int v4, .int v1]) (rest := []) k_171_39 rfl rfl rfl (Nat.le_of_ble_eq_true rfl) (Nat.le_of_ble_eq_true rfl)) (z_cbi fun x4 h4 => ?_)
        refine Eq.trans (ev_ifne (pc := 42) k_171_42.1 rfl k_171_42.2) (z_ite ?_ ?_)
        · refine Eq.trans (ev_iload (pc := 45) k_171_45 rfl rfl) ?_
          refine Eq.trans (ev_iload_n (pc := 47) k_171_47 rfl rfl) ?_
          refine Eq.trans (ev_si (pc := 48) (as := [.int v4, .int v2]) (rest := []) k_171_48 rfl rfl rfl (Nat.le_of_ble_eq_true rfl) (Nat.le_of_ble_eq_true rfl)) (z_cbi fun x5 h5 => ?_)
          refine Eq.trans (ev_ifeq (pc := 51) k_171_51.1 rfl k_171_51.2) (z_ite ?_ ?_)
          · refine Eq.trans (ev_aload_n (pc := 57) (x := 46) k_171_57 rfl rfl (by decide)) ?_
            refine Eq.trans (ev_getR (pc := 58) (b := 51) k_171_58 rfl zo_46.1 zg_46_8) ?_
            refine Eq.trans (ev_iload_n (pc := 61) k_171_61 rfl rfl) ?_
            refine Eq.trans (ev_iald_c (pc := 62) k_171_62 rfl za_51) (z_it1 ?_)
            refine Eq.trans (ev_iload_n (pc := 63) k_171_63 rfl rfl) ?_
            refine Eq.trans (ev_si (pc := 64) (as := [.int (h5.1 51 v1.toNatClampNeg), .int v3]) (rest := []) k_171_64 rfl rfl rfl (Nat.le_of_ble_eq_true rfl) (Nat.le_of_ble_eq_true rfl)) (z_cbi fun x6 h6 => ?_)
            refine Eq.trans (ev_ifne (pc := 67) k_171_67.1 rfl k_171_67.2) (z_ite ?_ ?_)
            · refine Eq.trans (ev_ldcw (pc := 70) (v := (-1000000003)) k_171_70 rfl) ?_
              exact ev_ret_int k_171_73 rfl rt_171
            · refine Eq.trans (ev_aload_n (pc := 74) (x := 46) k_171_74 rfl rfl (by decide)) ?_
              refine Eq.trans (ev_iload_n (pc := 75) k_171_75 rfl rfl) ?_
              refine Eq.trans (ev_iload_n (pc := 76) k_171_76 rfl rfl) ?_
              refine Eq.trans (ev_iload_n (pc := 77) k_171_77 rfl rfl) ?_
              refine Eq.trans (ev_iload (pc := 78) k_171_78 rfl rfl) ?_
              refine Eq.trans (ev_vi (pc := 80) (as := [.int v1, .int v2, .int v3, .int v4]) (rest := []) k_171_80 rfl zo_46 rfl rfl (Nat.le_of_ble_eq_true rfl) (Nat.le_of_ble_eq_true rfl)) (z_cbi fun x7 h7 => ?_)
              refine Eq.trans (ev_ifeq (pc := 83) k_171_83.1 rfl k_171_83.2) (z_ite ?_ ?_)
              · refine Eq.trans (ev_iconst (pc := 90) (v := 0) k_171_90 rfl (by decide)) ?_
                refine Eq.trans (ev_mk (pc := 91) (lv' := [none, none, none, none, none]) kd_171_91 rfl) ?_
                exact ev_ret_int k_171_91 rfl rt_171
              · refine Eq.trans (ev_iconst (pc := 86) (v := 1) k_171_86 rfl (by decide)) ?_
                refine Eq.trans (ev_goto (pc := 87) k_171_87.1 rfl k_171_87.2) ?_
                refine Eq.trans (ev_mk (pc := 91) (lv' := [none, none, none, none, none]) kd_171_91 rfl) ?_
                exact ev_ret_int k_171_91 rfl rt_171
          · refine Eq.trans (ev_mk (pc := 54) (lv' := [none, none, none, none, none]) kd_171_54 rfl) ?_
            refine Eq.trans (ev_ldc (pc := 54) (v := (-1000000001)) k_171_54 rfl) ?_
            exact ev_ret_int k_171_56 rfl rt_171
        · refine Eq.trans (ev_mk (pc := 54) (lv' := [none, none, none, none, none]) kd_171_54 rfl) ?_
          refine Eq.trans (ev_ldc (pc := 54) (v := (-1000000001)) k_171_54 rfl) ?_
          exact ev_ret_int k_171_56 rfl rt_171

set_option maxRecDepth 100000 in
theorem E_Mo_sayNow (sc : zSc) (d : Nat) (h : zHp) (v1 : Int32) (v2 : Int32) (v3 : Int32) (v4 : Int32) : zRun sc (d + 1) 172 [.ref 46, .int v1, .int v2, .int v3, .int v4] zGL h = (if zin v2 5 = true then (zBi (zRun sc d 129 [.int (h.1 51 v2.toNatClampNeg), .int v3] zGL h) zGL fun x1 h1 => zE sc (d + 1) 172 27 [some (.ref 46), some (.int v1), some (.int v2), some (.int v3), some (.int v4), some (.int x1), some (.int ((v4 ||| ((1 : Int32) <<< (v1 &&& 31))) ||| ((1 : Int32) <<< (v2 &&& 31)))), some (.int 0), none, none] [] zGL h1) else none) := by
  have he : zEnt 172 [.ref 46, .int v1, .int v2, .int v3, .int v4] = [some (.ref 46), some (.int v1), some (.int v2), some (.int v3), some (.int v4), none, none, none, none, none] := by unfold zEnt; rw [ml_172]; rfl
  unfold zRun
  rw [he]
  refine Eq.trans (ev_aload_n (pc := 0) (x := 46) k_172_0 rfl rfl (by decide)) ?_
  refine Eq.trans (ev_getR (pc := 1) (b := 51) k_172_1 rfl zo_46.1 zg_46_8) ?_
  refine Eq.trans (ev_iload_n (pc := 4) k_172_4 rfl rfl) ?_
  refine Eq.trans (ev_iald_c (pc := 5) k_172_5 rfl za_51) (z_it1 ?_)
  refine Eq.trans (ev_iload_n (pc := 6) k_172_6 rfl rfl) ?_
  refine Eq.trans (ev_si (pc := 7) (as := [.int (h.1 51 v2.toNatClampNeg), .int v3]) (rest := []) k_172_7 rfl rfl rfl (Nat.le_of_ble_eq_true rfl) (Nat.le_of_ble_eq_true rfl)) (z_cbi fun x1 h1 => ?_)
  refine Eq.trans (ev_istore (pc := 10) (lv' := [some (.ref 46), some (.int v1), some (.int v2), some (.int v3), some (.int v4), some (.int x1), none, none, none, none]) k_172_10 rfl (Nat.le_of_ble_eq_true rfl) rfl) ?_
  refine Eq.trans (ev_iload (pc := 12) k_172_12 rfl rfl) ?_
  refine Eq.trans (ev_iconst (pc := 14) (v := 1) k_172_14 rfl (by decide)) ?_
  refine Eq.trans (ev_iload_n (pc := 15) k_172_15 rfl rfl) ?_
  refine Eq.trans (ev_ishl (pc := 16) k_172_16 rfl) ?_
  refine Eq.trans (ev_ior (pc := 17) k_172_17 rfl) ?_
  refine Eq.trans (ev_iconst (pc := 18) (v := 1) k_172_18 rfl (by decide)) ?_
  refine Eq.trans (ev_iload_n (pc := 19) k_172_19 rfl rfl) ?_
  refine Eq.trans (ev_ishl (pc := 20) k_172_20 rfl) ?_
  refine Eq.trans (ev_ior (pc := 21) k_172_21 rfl) ?_
  refine Eq.trans (ev_istore (pc := 22) (lv' := [some (.ref 46), some (.int v1), some (.int v2), some (.int v3), some (.int v4), some (.int x1), some (.int ((v4 ||| ((1 : Int32) <<< (v1 &&& 31))) ||| ((1 : Int32) <<< (v2 &&& 31)))), none, none, none]) k_172_22 rfl (Nat.le_of_ble_eq_true rfl) rfl) ?_
  refine Eq.trans (ev_iconst (pc := 24) (v := 0) k_172_24 rfl (by decide)) ?_
  refine Eq.trans (ev_istore (pc := 25) (lv' := [some (.ref 46), some (.int v1), some (.int v2), some (.int v3), some (.int v4), some (.int x1), some (.int ((v4 ||| ((1 : Int32) <<< (v1 &&& 31))) ||| ((1 : Int32) <<< (v2 &&& 31)))), some (.int 0), none, none]) k_172_25 rfl (Nat.le_of_ble_eq_true rfl) rfl) ?_
  exact ev_mk kd_172_27 rfl

set_option maxRecDepth 100000 in
theorem E_Mo_sayNow_27 (sc : zSc) (d : Nat) (h : zHp) (v1 : Int32) (v2 : Int32) (v3 : Int32) (v4 : Int32) (v5 : Int32) (v6 : Int32) (v7 : Int32) : zE sc (d + 1) 172 27 [some (.ref 46), some (.int v1), some (.int v2), some (.int v3), some (.int v4), some (.int v5), some (.int v6), some (.int v7), none, none] [] zGL h = (if v7 < (h.1 46 3) then (zBi (zRun sc d 129 [.int v6, .int v7] zGL h) zGL fun x1 h1 => (if x1 = 0 then zE sc (d + 1) 172 27 [some (.ref 46), some (.int v1), some (.int v2), some (.int v3), some (.int v4), some (.int v5), some (.int v6), some (.int (v7 + 1)), none, none] [] zGL h1 else (if v7 = v2 then (if zin (((5 : Int32) * v7) + v2) 25 = true then zE sc (d + 1) 172 99 [some (.ref 46), some (.int v1), some (.int v2), some (.int v3), some (.int v4), some (.int v5), some (.int v6), some (.int v7), some (.int ((5 : Int32) * v7)), none] [.long (h1.2.1 53 (((5 : Int32) * v7) + v2).toNatClampNeg), .int (((5 : Int32) * v7) + v2), .ref 53] zGL h1 else none) else (if zin (((5 : Int32) * v7) + v2) 25 = true then (zBj (zRun sc d 168 [.ref 46, .long (h1.2.1 53 (((5 : Int32) * v7) + v2).toNatClampNeg), .int v3, .int v5] zGL h1) zGL fun x2 h2 => (zBj (zRun sc d 173 [.ref 46, .long x2, .int v3] zGL h2) zGL fun x3 h3 => zE sc (d + 1) 172 99 [some (.ref 46), some (.int v1), some (.int v2), some (.int v3), some (.int v4), some (.int v5), some (.int v6), some (.int v7), some (.int ((5 : Int32) * v7)), none] [.long x3, .int (((5 : Int32) * v7) + v2), .ref 53] zGL h3)) else none)))) else zE sc (d + 1) 172 224 [some (.ref 46), some (.int v1), some (.int v2), some (.int v3), some (.int v4), some (.int v5), none, some (.int 0), none, none] [] zGL h) := by
  refine Eq.trans (ev_iload (pc := 27) k_172_27 rfl rfl) ?_
  refine Eq.trans (ev_aload_n (pc := 29) (x := 46) k_172_29 rfl rfl (by decide)) ?_
  refine Eq.trans (ev_getI (pc := 30) k_172_30 rfl zo_46.1) ?_
  refine Eq.trans (ev_icge (pc := 33) k_172_33.1 rfl k_172_33.2) (z_ite ?_ ?_)
  · refine Eq.trans (ev_iload (pc := 36) k_172_36 rfl rfl) ?_
    refine Eq.trans (ev_iload (pc := 38) k_172_38 rfl rfl) ?_
    refine Eq.trans (ev_si (pc := 40) (as := [.int v6, .int v7]) (rest := []) k_172_40 rfl rfl rfl (Nat.le_of_ble_eq_true rfl) (Nat.le_of_ble_eq_true rfl)) (z_cbi fun x1 h1 => ?_)
    refine Eq.trans (ev_ifeq (pc := 43) k_172_43.1 rfl k_172_43.2) (z_ite ?_ ?_)
    · refine Eq.trans (ev_iinc (pc := 215) (v := 1) (lv' := [some (.ref 46), some (.int v1), some (.int v2), some (.int v3), some (.int v4), some (.int v5), some (.int v6), some (.int (v7 + 1)), none, none]) k_172_215 rfl rfl (by decide) rfl) ?_
      refine Eq.trans (ev_goto (pc := 218) k_172_218.1 rfl k_172_218.2) ?_
      exact ev_mk kd_172_27 rfl
    · refine Eq.trans (ev_iconst (pc := 46) (v := 5) k_172_46 rfl (by decide)) ?_
      refine Eq.trans (ev_iload (pc := 47) k_172_47 rfl rfl) ?_
      refine Eq.trans (ev_imul (pc := 49) k_172_49 rfl) ?_
      refine Eq.trans (ev_istore (pc := 50) (lv' := [some (.ref 46), some (.int v1), some (.int v2), some (.int v3), some (.int v4), some (.int v5), some (.int v6), some (.int v7), some (.int ((5 : Int32) * v7)), none]) k_172_50 rfl (Nat.le_of_ble_eq_true rfl) rfl) ?_
      refine Eq.trans (ev_aload_n (pc := 52) (x := 46) k_172_52 rfl rfl (by decide)) ?_
      refine Eq.trans (ev_getR (pc := 53) (b := 53) k_172_53 rfl zo_46.1 zg_46_10) ?_
      refine Eq.trans (ev_iload (pc := 56) k_172_56 rfl rfl) ?_
      refine Eq.trans (ev_iload_n (pc := 58) k_172_58 rfl rfl) ?_
      refine Eq.trans (ev_iadd (pc := 59) k_172_59 rfl) ?_
      refine Eq.trans (ev_iload (pc := 60) k_172_60 rfl rfl) ?_
      refine Eq.trans (ev_iload_n (pc := 62) k_172_62 rfl rfl) ?_
      refine Eq.trans (ev_icne (pc := 63) k_172_63.1 rfl k_172_63.2) (z_ite ?_ ?_)
      · refine Eq.trans (ev_aload_n (pc := 66) (x := 46) k_172_66 rfl rfl (by decide)) ?_
        refine Eq.trans (ev_getR (pc := 67) (b := 53) k_172_67 rfl zo_46.1 zg_46_10) ?_
        refine Eq.trans (ev_iload (pc := 70) k_172_70 rfl rfl) ?_
        refine Eq.trans (ev_iload_n (pc := 72) k_172_72 rfl rfl) ?_
        refine Eq.trans (ev_iadd (pc := 73) k_172_73 rfl) ?_
        refine Eq.trans (ev_lald_c (pc := 74) k_172_74 rfl za_53) (z_it1 ?_)
        refine Eq.trans (ev_goto (pc := 75) k_172_75.1 rfl k_172_75.2) ?_
        exact ev_mk kd_172_99 rfl
      · refine Eq.trans (ev_aload_n (pc := 78) (x := 46) k_172_78 rfl rfl (by decide)) ?_
        refine Eq.trans (ev_aload_n (pc := 79) (x := 46) k_172_79 rfl rfl (by decide)) ?_
        refine Eq.trans (ev_aload_n (pc := 80) (x := 46) k_172_80 rfl rfl (by decide)) ?_
        refine Eq.trans (ev_getR (pc := 81) (b := 53) k_172_81 rfl zo_46.1 zg_46_10) ?_
        refine Eq.trans (ev_iload (pc := 84) k_172_84 rfl rfl) ?_
        refine Eq.trans (ev_iload_n (pc := 86) k_172_86 rfl rfl) ?_
        refine Eq.trans (ev_iadd (pc := 87) k_172_87 rfl) ?_
        refine Eq.trans (ev_lald_c (pc := 88) k_172_88 rfl za_53) (z_it1 ?_)
        refine Eq.trans (ev_iload_n (pc := 89) k_172_89 rfl rfl) ?_
        refine Eq.trans (ev_iload (pc := 90) k_172_90 rfl rfl) ?_
        refine Eq.trans (ev_vj (pc := 92) (as := [.long (h1.2.1 53 (((5 : Int32) * v7) + v2).toNatClampNeg), .int v3, .int v5]) (rest := [.ref 46, .int (((5 : Int32) * v7) + v2), .ref 53]) k_172_92 rfl zo_46 rfl rfl (Nat.le_of_ble_eq_true rfl) (Nat.le_of_ble_eq_true rfl)) (z_cbj fun x2 h2 => ?_)
        refine Eq.trans (ev_iload_n (pc := 95) k_172_95 rfl rfl) ?_
        refine Eq.trans (ev_vj (pc := 96) (as := [.long x2, .int v3]) (rest := [.int (((5 : Int32) * v7) + v2), .ref 53]) k_172_96 rfl zo_46 rfl rfl (Nat.le_of_ble_eq_true rfl) (Nat.le_of_ble_eq_true rfl)) (z_cbj fun x3 h3 => ?_)
        exact ev_mk kd_172_99 rfl
  · refine Eq.trans (ev_iconst (pc := 221) (v := 0) k_172_221 rfl (by decide)) ?_
    refine Eq.trans (ev_istore (pc := 222) (lv' := [some (.ref 46), some (.int v1), some (.int v2), some (.int v3), some (.int v4), some (.int v5), some (.int v6), some (.int 0), none, none]) k_172_222 rfl (Nat.le_of_ble_eq_true rfl) rfl) ?_
    exact ev_mk kd_172_224 rfl

set_option maxRecDepth 100000 in
theorem E_Mo_sayNow_99 (sc : zSc) (d : Nat) (h : zHp) (v1 : Int32) (v2 : Int32) (v3 : Int32) (v4 : Int32) (v5 : Int32) (v6 : Int32) (v7 : Int32) (v8 : Int32) (s0 : Int64) (s1 : Int32) : zE sc (d + 1) 172 99 [some (.ref 46), some (.int v1), some (.int v2), some (.int v3), some (.int v4), some (.int v5), some (.int v6), some (.int v7), some (.int v8), none] [.long s0, .int s1, .ref 53] zGL h = (if zin s1 25 = true then (if v7 = v1 then (if zin (v8 + v1) 25 = true then (if zin (v8 + v1) 25 = true then zE sc (d + 1) 172 145 [some (.ref 46), some (.int v1), some (.int v2), some (.int v3), some (.int v4), some (.int v5), some (.int v6), some (.int v7), some (.int v8), some (.int 0)] [] zGL (zPL (zPL h 53 s1.toNatClampNeg s0) 53 (v8 + v1).toNatClampNeg ((zPL h 53 s1.toNatClampNeg s0).2.1 53 (v8 + v1).toNatClampNeg)) else none) else none) else (if zin (v8 + v1) 25 = true then (zBj (zRun sc d 168 [.ref 46, .long ((zPL h 53 s1.toNatClampNeg s0).2.1 53 (v8 + v1).toNatClampNeg), .int v3, .int 1] zGL (zPL h 53 s1.toNatClampNeg s0)) zGL fun x1 h1 => (if zin (v8 + v1) 25 = true then zE sc (d + 1) 172 145 [some (.ref 46), some (.int v1), some (.int v2), some (.int v3), some (.int v4), some (.int v5), some (.int v6), some (.int v7), some (.int v8), some (.int 0)] [] zGL (zPL h1 53 (v8 + v1).toNatClampNeg x1) else none)) else none)) else none) := by
  refine Eq.trans (ev_last_c (pc := 99) k_172_99 rfl za_53) (z_it1 ?_)
  refine Eq.trans (ev_aload_n (pc := 100) (x := 46) k_172_100 rfl rfl (by decide)) ?_
  refine Eq.trans (ev_getR (pc := 101) (b := 53) k_172_101 rfl zo_46.1 zg_46_10) ?_
  refine Eq.trans (ev_iload (pc := 104) k_172_104 rfl rfl) ?_
  refine Eq.trans (ev_iload_n (pc := 106) k_172_106 rfl rfl) ?_
  refine Eq.trans (ev_iadd (pc := 107) k_172_107 rfl) ?_
  refine Eq.trans (ev_iload (pc := 108) k_172_108 rfl rfl) ?_
  refine Eq.trans (ev_iload_n (pc := 110) k_172_110 rfl rfl) ?_
  refine Eq.trans (ev_icne (pc := 111) k_172_111.1 rfl k_172_111.2) (z_ite ?_ ?_)
  · refine Eq.trans (ev_aload_n (pc := 114) (x := 46) k_172_114 rfl rfl (by decide)) ?_
    refine Eq.trans (ev_getR (pc := 115) (b := 53) k_172_115 rfl zo_46.1 zg_46_10) ?_
    refine Eq.trans (ev_iload (pc := 118) k_172_118 rfl rfl) ?_
    refine Eq.trans (ev_iload_n (pc := 120) k_172_120 rfl rfl) ?_
    refine Eq.trans (ev_iadd (pc := 121) k_172_121 rfl) ?_
    refine Eq.trans (ev_lald_c (pc := 122) k_172_122 rfl za_53) (z_it1 ?_)
    refine Eq.trans (ev_goto (pc := 123) k_172_123.1 rfl k_172_123.2) ?_
    refine Eq.trans (ev_last_c (pc := 141) k_172_141 rfl za_53) (z_it1 ?_)
    refine Eq.trans (ev_iconst (pc := 142) (v := 0) k_172_142 rfl (by decide)) ?_
    refine Eq.trans (ev_istore (pc := 143) (lv' := [some (.ref 46), some (.int v1), some (.int v2), some (.int v3), some (.int v4), some (.int v5), some (.int v6), some (.int v7), some (.int v8), some (.int 0)]) k_172_143 rfl (Nat.le_of_ble_eq_true rfl) rfl) ?_
    exact ev_mk kd_172_145 rfl
  · refine Eq.trans (ev_aload_n (pc := 126) (x := 46) k_172_126 rfl rfl (by decide)) ?_
    refine Eq.trans (ev_aload_n (pc := 127) (x := 46) k_172_127 rfl rfl (by decide)) ?_
    refine Eq.trans (ev_getR (pc := 128) (b := 53) k_172_128 rfl zo_46.1 zg_46_10) ?_
    refine Eq.trans (ev_iload (pc := 131) k_172_131 rfl rfl) ?_
    refine Eq.trans (ev_iload_n (pc := 133) k_172_133 rfl rfl) ?_
    refine Eq.trans (ev_iadd (pc := 134) k_172_134 rfl) ?_
    refine Eq.trans (ev_lald_c (pc := 135) k_172_135 rfl za_53) (z_it1 ?_)
    refine Eq.trans (ev_iload_n (pc := 136) k_172_136 rfl rfl) ?_
    refine Eq.trans (ev_iconst (pc := 137) (v := 1) k_172_137 rfl (by decide)) ?_
    refine Eq.trans (ev_vj (pc := 138) (as := [.long ((zPL h 53 s1.toNatClampNeg s0).2.1 53 (v8 + v1).toNatClampNeg), .int v3, .int 1]) (rest := [.int (v8 + v1), .ref 53]) k_172_138 rfl zo_46 rfl rfl (Nat.le_of_ble_eq_true rfl) (Nat.le_of_ble_eq_true rfl)) (z_cbj fun x1 h1 => ?_)
    refine Eq.trans (ev_last_c (pc := 141) k_172_141 rfl za_53) (z_it1 ?_)
    refine Eq.trans (ev_iconst (pc := 142) (v := 0) k_172_142 rfl (by decide)) ?_
    refine Eq.trans (ev_istore (pc := 143) (lv' := [some (.ref 46), some (.int v1), some (.int v2), some (.int v3), some (.int v4), some (.int v5), some (.int v6), some (.int v7), some (.int v8), some (.int 0)]) k_172_143 rfl (Nat.le_of_ble_eq_true rfl) rfl) ?_
    exact ev_mk kd_172_145 rfl

set_option maxRecDepth 100000 in
theorem E_Mo_sayNow_145 (sc : zSc) (d : Nat) (h : zHp) (v1 : Int32) (v2 : Int32) (v3 : Int32) (v4 : Int32) (v5 : Int32) (v6 : Int32) (v7 : Int32) (v8 : Int32) (v9 : Int32) : zE sc (d + 1) 172 145 [some (.ref 46), some (.int v1), some (.int v2), some (.int v3), some (.int v4), some (.int v5), some (.int v6), some (.int v7), some (.int v8), some (.int v9)] [] zGL h = (if v9 < (h.1 46 3) then (if v9 = v7 then zE sc (d + 1) 172 198 [some (.ref 46), some (.int v1), some (.int v2), some (.int v3), some (.int v4), some (.int v5), some (.int v6), some (.int v7), some (.int v8), some (.int v9)] [.int (v8 + v9), .ref 53] zGL h else (zBi (zRun sc d 129 [.int v4, .int v9] zGL h) zGL fun x1 h1 => (if x1 = 0 then zE sc (d + 1) 172 198 [some (.ref 46), some (.int v1), some (.int v2), some (.int v3), some (.int v4), some (.int v5), some (.int v6), some (.int v7), some (.int v8), some (.int v9)] [.int (v8 + v9), .ref 53] zGL h1 else (if zin (v8 + v9) 25 = true then (zBj (zRun sc d 173 [.ref 46, .long (h1.2.1 53 (v8 + v9).toNatClampNeg), .int v3] zGL h1) zGL fun x2 h2 => (if zin (v8 + v9) 25 = true then zE sc (d + 1) 172 145 [some (.ref 46), some (.int v1), some (.int v2), some (.int v3), some (.int v4), some (.int v5), some (.int v6), some (.int v7), some (.int v8), some (.int (v9 + 1))] [] zGL (zPL h2 53 (v8 + v9).toNatClampNeg x2) else none)) else none)))) else zE sc (d + 1) 172 27 [some (.ref 46), some (.int v1), some (.int v2), some (.int v3), some (.int v4), some (.int v5), some (.int v6), some (.int (v7 + 1)), none, none] [] zGL h) := by
  refine Eq.trans (ev_iload (pc := 145) k_172_145 rfl rfl) ?_
  refine Eq.trans (ev_aload_n (pc := 147) (x := 46) k_172_147 rfl rfl (by decide)) ?_
  refine Eq.trans (ev_getI (pc := 148) k_172_148 rfl zo_46.1) ?_
  refine Eq.trans (ev_icge (pc := 151) k_172_151.1 rfl k_172_151.2) (z_ite ?_ ?_)
  · refine Eq.trans (ev_aload_n (pc := 154) (x := 46) k_172_154 rfl rfl (by decide)) ?_
    refine Eq.trans (ev_getR (pc := 155) (b := 53) k_172_155 rfl zo_46.1 zg_46_10) ?_
    refine Eq.trans (ev_iload (pc := 158) k_172_158 rfl rfl) ?_
    refine Eq.trans (ev_iload (pc := 160) k_172_160 rfl rfl) ?_
    refine Eq.trans (ev_iadd (pc := 162) k_172_162 rfl) ?_
    refine Eq.trans (ev_iload (pc := 163) k_172_163 rfl rfl) ?_
    refine Eq.trans (ev_iload (pc := 165) k_172_165 rfl rfl) ?_
    refine Eq.trans (ev_iceq (pc := 167) k_172_167.1 rfl k_172_167.2) (z_ite ?_ ?_)
    · exact ev_mk kd_172_198 rfl
    · refine Eq.trans (ev_iload (pc := 170) k_172_170 rfl rfl) ?_
      refine Eq.trans (ev_iload (pc := 172) k_172_172 rfl rfl) ?_
      refine Eq.trans (ev_si (pc := 174) (as := [.int v4, .int v9]) (rest := [.int (v8 + v9), .ref 53]) k_172_174 rfl rfl rfl (Nat.le_of_ble_eq_true rfl) (Nat.le_of_ble_eq_true rfl)) (z_cbi fun x1 h1 => ?_)
      refine Eq.trans (ev_ifeq (pc := 177) k_172_177.1 rfl k_172_177.2) (z_ite ?_ ?_)
      · exact ev_mk kd_172_198 rfl
      · refine Eq.trans (ev_aload_n (pc := 180) (x := 46) k_172_180 rfl rfl (by decide)) ?_
        refine Eq.trans (ev_aload_n (pc := 181) (x := 46) k_172_181 rfl rfl (by decide)) ?_
        refine Eq.trans (ev_getR (pc := 182) (b := 53) k_172_182 rfl zo_46.1 zg_46_10) ?_
        refine Eq.trans (ev_iload (pc := 185) k_172_185 rfl rfl) ?_
        refine Eq.trans (ev_iload (pc := 187) k_172_187 rfl rfl) ?_
        refine Eq.trans (ev_iadd (pc := 189) k_172_189 rfl) ?_
        refine Eq.trans (ev_lald_c (pc := 190) k_172_190 rfl za_53) (z_it1 ?_)
        refine Eq.trans (ev_iload_n (pc := 191) k_172_191 rfl rfl) ?_
        refine Eq.trans (ev_vj (pc := 192) (as := [.long (h1.2.1 53 (v8 + v9).toNatClampNeg), .int v3]) (rest := [.int (v8 + v9), .ref 53]) k_172_192 rfl zo_46 rfl rfl (Nat.le_of_ble_eq_true rfl) (Nat.le_of_ble_eq_true rfl)) (z_cbj fun x2 h2 => ?_)
        refine Eq.trans (ev_goto (pc := 195) k_172_195.1 rfl k_172_195.2) ?_
        refine Eq.trans (ev_last_c (pc := 208) k_172_208 rfl za_53) (z_it1 ?_)
        refine Eq.trans (ev_iinc (pc := 209) (v := 1) (lv' := [some (.ref 46), some (.int v1), some (.int v2), some (.int v3), some (.int v4), some (.int v5), some (.int v6), some (.int v7), some (.int v8), some (.int (v9 + 1))]) k_172_209 rfl rfl (by decide) rfl) ?_
        refine Eq.trans (ev_goto (pc := 212) k_172_212.1 rfl k_172_212.2) ?_
        exact ev_mk kd_172_145 rfl
  · refine Eq.trans (ev_mk (pc := 215) (lv' := [some (.ref 46), some (.int v1), some (.int v2), some (.int v3), some (.int v4), some (.int v5), some (.int v6), some (.int v7), none, none]) kd_172_215 rfl) ?_
    refine Eq.trans (ev_iinc (pc := 215) (v := 1) (lv' := [some (.ref 46), some (.int v1), some (.int v2), some (.int v3), some (.int v4), some (.int v5), some (.int v6), some (.int (v7 + 1)), none, none]) k_172_215 rfl rfl (by decide) rfl) ?_
    refine Eq.trans (ev_goto (pc := 218) k_172_218.1 rfl k_172_218.2) ?_
    exact ev_mk kd_172_27 rfl

set_option maxRecDepth 100000 in
theorem E_Mo_sayNow_198 (sc : zSc) (d : Nat) (h : zHp) (v1 : Int32) (v2 : Int32) (v3 : Int32) (v4 : Int32) (v5 : Int32) (v6 : Int32) (v7 : Int32) (v8 : Int32) (v9 : Int32) (s0 : Int32) : zE sc (d + 1) 172 198 [some (.ref 46), some (.int v1), some (.int v2), some (.int v3), some (.int v4), some (.int v5), some (.int v6), some (.int v7), some (.int v8), some (.int v9)] [.int s0, .ref 53] zGL h = (if zin (v8 + v9) 25 = true then (if zin s0 25 = true then zE sc (d + 1) 172 145 [some (.ref 46), some (.int v1), some (.int v2), some (.int v3), some (.int v4), some (.int v5), some (.int v6), some (.int v7), some (.int v8), some (.int (v9 + 1))] [] zGL (zPL h 53 s0.toNatClampNeg (h.2.1 53 (v8 + v9).toNatClampNeg)) else none) else none) := by
  refine Eq.trans (ev_aload_n (pc := 198) (x := 46) k_172_198 rfl rfl (by decide)) ?_
  refine Eq.trans (ev_getR (pc := 199) (b := 53) k_172_199 rfl zo_46.1 zg_46_10) ?_
  refine Eq.trans (ev_iload (pc := 202) k_172_202 rfl rfl) ?_
  refine Eq.trans (ev_iload (pc := 204) k_172_204 rfl rfl) ?_
  refine Eq.trans (ev_iadd (pc := 206) k_172_206 rfl) ?_
  refine Eq.trans (ev_lald_c (pc := 207) k_172_207 rfl za_53) (z_it1 ?_)
  refine Eq.trans (ev_last_c (pc := 208) k_172_208 rfl za_53) (z_it1 ?_)
  refine Eq.trans (ev_iinc (pc := 209) (v := 1) (lv' := [some (.ref 46), some (.int v1), some (.int v2), some (.int v3), some (.int v4), some (.int v5), some (.int v6), some (.int v7), some (.int v8), some (.int (v9 + 1))]) k_172_209 rfl rfl (by decide) rfl) ?_
  refine Eq.trans (ev_goto (pc := 212) k_172_212.1 rfl k_172_212.2) ?_
  exact ev_mk kd_172_145 rfl

set_option maxRecDepth 100000 in
theorem E_Mo_sayNow_224 (sc : zSc) (d : Nat) (h : zHp) (v1 : Int32) (v2 : Int32) (v3 : Int32) (v4 : Int32) (v5 : Int32) (v7 : Int32) : zE sc (d + 1) 172 224 [some (.ref 46), some (.int v1), some (.int v2), some (.int v3), some (.int v4), some (.int v5), none, some (.int v7), none, none] [] zGL h = (if v7 < (h.1 46 3) then (if v7 = v2 then zE sc (d + 1) 172 255 [some (.ref 46), some (.int v1), some (.int v2), some (.int v3), some (.int v4), some (.int v5), none, some (.int v7), none, none] [.int v7, .ref 51] zGL h else (zBi (zRun sc d 129 [.int v4, .int v7] zGL h) zGL fun x1 h1 => (if x1 = 0 then (if zin v7 5 = true then (if zin v7 5 = true then zE sc (d + 1) 172 224 [some (.ref 46), some (.int v1), some (.int v2), some (.int v3), some (.int v4), some (.int v5), none, some (.int (v7 + 1)), none, none] [] zGL (zPI h1 51 v7.toNatClampNeg (h1.1 51 v7.toNatClampNeg)) else none) else none) else zE sc (d + 1) 172 255 [some (.ref 46), some (.int v1), some (.int v2), some (.int v3), some (.int v4), some (.int v5), none, some (.int v7), none, none] [.int v7, .ref 51] zGL h1))) else (if zin v1 5 = true then (if v5 = 0 then zE sc (d + 1) 172 305 [some (.ref 46), some (.int v1), some (.int v2), some (.int v3), some (.int v4), some (.int v5), none, none, none, none] [.int 0, .int (h.1 54 v1.toNatClampNeg), .int v1, .ref 54] zGL h else zE sc (d + 1) 172 305 [some (.ref 46), some (.int v1), some (.int v2), some (.int v3), some (.int v4), some (.int v5), none, none, none, none] [.int 1, .int (h.1 54 v1.toNatClampNeg), .int v1, .ref 54] zGL h) else none)) := by
  refine Eq.trans (ev_iload (pc := 224) k_172_224 rfl rfl) ?_
  refine Eq.trans (ev_aload_n (pc := 226) (x := 46) k_172_226 rfl rfl (by decide)) ?_
  refine Eq.trans (ev_getI (pc := 227) k_172_227 rfl zo_46.1) ?_
  refine Eq.trans (ev_icge (pc := 230) k_172_230.1 rfl k_172_230.2) (z_ite ?_ ?_)
  · refine Eq.trans (ev_aload_n (pc := 233) (x := 46) k_172_233 rfl rfl (by decide)) ?_
    refine Eq.trans (ev_getR (pc := 234) (b := 51) k_172_234 rfl zo_46.1 zg_46_8) ?_
    refine Eq.trans (ev_iload (pc := 237) k_172_237 rfl rfl) ?_
    refine Eq.trans (ev_iload (pc := 239) k_172_239 rfl rfl) ?_
    refine Eq.trans (ev_iload_n (pc := 241) k_172_241 rfl rfl) ?_
    refine Eq.trans (ev_iceq (pc := 242) k_172_242.1 rfl k_172_242.2) (z_ite ?_ ?_)
    · exact ev_mk kd_172_255 rfl
    · refine Eq.trans (ev_iload (pc := 245) k_172_245 rfl rfl) ?_
      refine Eq.trans (ev_iload (pc := 247) k_172_247 rfl rfl) ?_
      refine Eq.trans (ev_si (pc := 249) (as := [.int v4, .int v7]) (rest := [.int v7, .ref 51]) k_172_249 rfl rfl rfl (Nat.le_of_ble_eq_true rfl) (Nat.le_of_ble_eq_true rfl)) (z_cbi fun x1 h1 => ?_)
      refine Eq.trans (ev_ifeq (pc := 252) k_172_252.1 rfl k_172_252.2) (z_ite ?_ ?_)
      · refine Eq.trans (ev_aload_n (pc := 274) (x := 46) k_172_274 rfl rfl (by decide)) ?_
        refine Eq.trans (ev_getR (pc := 275) (b := 51) k_172_275 rfl zo_46.1 zg_46_8) ?_
        refine Eq.trans (ev_iload (pc := 278) k_172_278 rfl rfl) ?_
        refine Eq.trans (ev_iald_c (pc := 280) k_172_280 rfl za_51) (z_it1 ?_)
        refine Eq.trans (ev_iast_c (pc := 281) k_172_281 rfl za_51) (z_it1 ?_)
        refine Eq.trans (ev_iinc (pc := 282) (v := 1) (lv' := [some (.ref 46), some (.int v1), some (.int v2), some (.int v3), some (.int v4), some (.int v5), none, some (.int (v7 + 1)), none, none]) k_172_282 rfl rfl (by decide) rfl) ?_
        refine Eq.trans (ev_goto (pc := 285) k_172_285.1 rfl k_172_285.2) ?_
        exact ev_mk kd_172_224 rfl
      · exact ev_mk kd_172_255 rfl
  · refine Eq.trans (ev_aload_n (pc := 288) (x := 46) k_172_288 rfl rfl (by decide)) ?_
    refine Eq.trans (ev_getR (pc := 289) (b := 54) k_172_289 rfl zo_46.1 zg_46_11) ?_
    refine Eq.trans (ev_iload_n (pc := 292) k_172_292 rfl rfl) ?_
    refine Eq.trans (ev_dup2 (pc := 293) k_172_293 rfl rfl rfl) ?_
    refine Eq.trans (ev_iald_c (pc := 294) k_172_294 rfl za_54) (z_it1 ?_)
    refine Eq.trans (ev_iload (pc := 295) k_172_295 rfl rfl) ?_
    refine Eq.trans (ev_ifeq (pc := 297) k_172_297.1 rfl k_172_297.2) (z_ite ?_ ?_)
    · refine Eq.trans (ev_iconst (pc := 304) (v := 0) k_172_304 rfl (by decide)) ?_
      exact ev_mk kd_172_305 rfl
    · refine Eq.trans (ev_iconst (pc := 300) (v := 1) k_172_300 rfl (by decide)) ?_
      refine Eq.trans (ev_goto (pc := 301) k_172_301.1 rfl k_172_301.2) ?_
      exact ev_mk kd_172_305 rfl

set_option maxRecDepth 100000 in
theorem E_Mo_sayNow_255 (sc : zSc) (d : Nat) (h : zHp) (v1 : Int32) (v2 : Int32) (v3 : Int32) (v4 : Int32) (v5 : Int32) (v7 : Int32) (s0 : Int32) : zE sc (d + 1) 172 255 [some (.ref 46), some (.int v1), some (.int v2), some (.int v3), some (.int v4), some (.int v5), none, some (.int v7), none, none] [.int s0, .ref 51] zGL h = (if zin v7 5 = true then (if zin ((h.1 51 v7.toNatClampNeg) ||| ((1 : Int32) <<< (v3 &&& 31))) 64 = true then (if zin s0 5 = true then zE sc (d + 1) 172 224 [some (.ref 46), some (.int v1), some (.int v2), some (.int v3), some (.int v4), some (.int v5), none, some (.int (v7 + 1)), none, none] [] zGL (zPI h 51 s0.toNatClampNeg (h.1 50 ((h.1 51 v7.toNatClampNeg) ||| ((1 : Int32) <<< (v3 &&& 31))).toNatClampNeg)) else none) else none) else none) := by
  refine Eq.trans (ev_aload_n (pc := 255) (x := 46) k_172_255 rfl rfl (by decide)) ?_
  refine Eq.trans (ev_getR (pc := 256) (b := 50) k_172_256 rfl zo_46.1 zg_46_6) ?_
  refine Eq.trans (ev_aload_n (pc := 259) (x := 46) k_172_259 rfl rfl (by decide)) ?_
  refine Eq.trans (ev_getR (pc := 260) (b := 51) k_172_260 rfl zo_46.1 zg_46_8) ?_
  refine Eq.trans (ev_iload (pc := 263) k_172_263 rfl rfl) ?_
  refine Eq.trans (ev_iald_c (pc := 265) k_172_265 rfl za_51) (z_it1 ?_)
  refine Eq.trans (ev_iconst (pc := 266) (v := 1) k_172_266 rfl (by decide)) ?_
  refine Eq.trans (ev_iload_n (pc := 267) k_172_267 rfl rfl) ?_
  refine Eq.trans (ev_ishl (pc := 268) k_172_268 rfl) ?_
  refine Eq.trans (ev_ior (pc := 269) k_172_269 rfl) ?_
  refine Eq.trans (ev_iald_c (pc := 270) k_172_270 rfl za_50) (z_it1 ?_)
  refine Eq.trans (ev_goto (pc := 271) k_172_271.1 rfl k_172_271.2) ?_
  refine Eq.trans (ev_iast_c (pc := 281) k_172_281 rfl za_51) (z_it1 ?_)
  refine Eq.trans (ev_iinc (pc := 282) (v := 1) (lv' := [some (.ref 46), some (.int v1), some (.int v2), some (.int v3), some (.int v4), some (.int v5), none, some (.int (v7 + 1)), none, none]) k_172_282 rfl rfl (by decide) rfl) ?_
  refine Eq.trans (ev_goto (pc := 285) k_172_285.1 rfl k_172_285.2) ?_
  exact ev_mk kd_172_224 rfl

set_option maxRecDepth 100000 in
theorem E_Mo_sayNow_305 (sc : zSc) (d : Nat) (h : zHp) (v1 : Int32) (v2 : Int32) (v3 : Int32) (v4 : Int32) (v5 : Int32) (s0 : Int32) (s1 : Int32) (s2 : Int32) : zE sc (d + 1) 172 305 [some (.ref 46), some (.int v1), some (.int v2), some (.int v3), some (.int v4), some (.int v5), none, none, none, none] [.int s0, .int s1, .int s2, .ref 54] zGL h = (if zin s2 5 = true then (if ((zPI h 54 s2.toNatClampNeg (s1 + s0)).1 46 12) < (60 : Int32) then (if zin ((5 : Int32) * ((zPI h 54 s2.toNatClampNeg (s1 + s0)).1 46 12)) 300 = true then (if zin (((5 : Int32) * ((zPI (zPI h 54 s2.toNatClampNeg (s1 + s0)) 55 ((5 : Int32) * ((zPI h 54 s2.toNatClampNeg (s1 + s0)).1 46 12)).toNatClampNeg v1).1 46 12)) + (1 : Int32)) 300 = true then (if zin (((5 : Int32) * ((zPI (zPI (zPI h 54 s2.toNatClampNeg (s1 + s0)) 55 ((5 : Int32) * ((zPI h 54 s2.toNatClampNeg (s1 + s0)).1 46 12)).toNatClampNeg v1) 55 (((5 : Int32) * ((zPI (zPI h 54 s2.toNatClampNeg (s1 + s0)) 55 ((5 : Int32) * ((zPI h 54 s2.toNatClampNeg (s1 + s0)).1 46 12)).toNatClampNeg v1).1 46 12)) + (1 : Int32)).toNatClampNeg v2).1 46 12)) + (2 : Int32)) 300 = true then (if zin (((5 : Int32) * ((zPI (zPI (zPI (zPI h 54 s2.toNatClampNeg (s1 + s0)) 55 ((5 : Int32) * ((zPI h 54 s2.toNatClampNeg (s1 + s0)).1 46 12)).toNatClampNeg v1) 55 (((5 : Int32) * ((zPI (zPI h 54 s2.toNatClampNeg (s1 + s0)) 55 ((5 : Int32) * ((zPI h 54 s2.toNatClampNeg (s1 + s0)).1 46 12)).toNatClampNeg v1).1 46 12)) + (1 : Int32)).toNatClampNeg v2) 55 (((5 : Int32) * ((zPI (zPI (zPI h 54 s2.toNatClampNeg (s1 + s0)) 55 ((5 : Int32) * ((zPI h 54 s2.toNatClampNeg (s1 + s0)).1 46 12)).toNatClampNeg v1) 55 (((5 : Int32) * ((zPI (zPI h 54 s2.toNatClampNeg (s1 + s0)) 55 ((5 : Int32) * ((zPI h 54 s2.toNatClampNeg (s1 + s0)).1 46 12)).toNatClampNeg v1).1 46 12)) + (1 : Int32)).toNatClampNeg v2).1 46 12)) + (2 : Int32)).toNatClampNeg v3).1 46 12)) + (3 : Int32)) 300 = true then (if v5 = 0 then zE sc (d + 1) 172 393 [some (.ref 46), none, none, none, none, some (.int v5), none, none, none, none] [.int 0, .int (((5 : Int32) * ((zPI (zPI (zPI (zPI (zPI h 54 s2.toNatClampNeg (s1 + s0)) 55 ((5 : Int32) * ((zPI h 54 s2.toNatClampNeg (s1 + s0)).1 46 12)).toNatClampNeg v1) 55 (((5 : Int32) * ((zPI (zPI h 54 s2.toNatClampNeg (s1 + s0)) 55 ((5 : Int32) * ((zPI h 54 s2.toNatClampNeg (s1 + s0)).1 46 12)).toNatClampNeg v1).1 46 12)) + (1 : Int32)).toNatClampNeg v2) 55 (((5 : Int32) * ((zPI (zPI (zPI h 54 s2.toNatClampNeg (s1 + s0)) 55 ((5 : Int32) * ((zPI h 54 s2.toNatClampNeg (s1 + s0)).1 46 12)).toNatClampNeg v1) 55 (((5 : Int32) * ((zPI (zPI h 54 s2.toNatClampNeg (s1 + s0)) 55 ((5 : Int32) * ((zPI h 54 s2.toNatClampNeg (s1 + s0)).1 46 12)).toNatClampNeg v1).1 46 12)) + (1 : Int32)).toNatClampNeg v2).1 46 12)) + (2 : Int32)).toNatClampNeg v3) 55 (((5 : Int32) * ((zPI (zPI (zPI (zPI h 54 s2.toNatClampNeg (s1 + s0)) 55 ((5 : Int32) * ((zPI h 54 s2.toNatClampNeg (s1 + s0)).1 46 12)).toNatClampNeg v1) 55 (((5 : Int32) * ((zPI (zPI h 54 s2.toNatClampNeg (s1 + s0)) 55 ((5 : Int32) * ((zPI h 54 s2.toNatClampNeg (s1 + s0)).1 46 12)).toNatClampNeg v1).1 46 12)) + (1 : Int32)).toNatClampNeg v2) 55 (((5 : Int32) * ((zPI (zPI (zPI h 54 s2.toNatClampNeg (s1 + s0)) 55 ((5 : Int32) * ((zPI h 54 s2.toNatClampNeg (s1 + s0)).1 46 12)).toNatClampNeg v1) 55 (((5 : Int32) * ((zPI (zPI h 54 s2.toNatClampNeg (s1 + s0)) 55 ((5 : Int32) * ((zPI h 54 s2.toNatClampNeg (s1 + s0)).1 46 12)).toNatClampNeg v1).1 46 12)) + (1 : Int32)).toNatClampNeg v2).1 46 12)) + (2 : Int32)).toNatClampNeg v3).1 46 12)) + (3 : Int32)).toNatClampNeg v4).1 46 12)) + (4 : Int32)), .ref 55] zGL (zPI (zPI (zPI (zPI (zPI h 54 s2.toNatClampNeg (s1 + s0)) 55 ((5 : Int32) * ((zPI h 54 s2.toNatClampNeg (s1 + s0)).1 46 12)).toNatClampNeg v1) 55 (((5 : Int32) * ((zPI (zPI h 54 s2.toNatClampNeg (s1 + s0)) 55 ((5 : Int32) * ((zPI h 54 s2.toNatClampNeg (s1 + s0)).1 46 12)).toNatClampNeg v1).1 46 12)) + (1 : Int32)).toNatClampNeg v2) 55 (((5 : Int32) * ((zPI (zPI (zPI h 54 s2.toNatClampNeg (s1 + s0)) 55 ((5 : Int32) * ((zPI h 54 s2.toNatClampNeg (s1 + s0)).1 46 12)).toNatClampNeg v1) 55 (((5 : Int32) * ((zPI (zPI h 54 s2.toNatClampNeg (s1 + s0)) 55 ((5 : Int32) * ((zPI h 54 s2.toNatClampNeg (s1 + s0)).1 46 12)).toNatClampNeg v1).1 46 12)) + (1 : Int32)).toNatClampNeg v2).1 46 12)) + (2 : Int32)).toNatClampNeg v3) 55 (((5 : Int32) * ((zPI (zPI (zPI (zPI h 54 s2.toNatClampNeg (s1 + s0)) 55 ((5 : Int32) * ((zPI h 54 s2.toNatClampNeg (s1 + s0)).1 46 12)).toNatClampNeg v1) 55 (((5 : Int32) * ((zPI (zPI h 54 s2.toNatClampNeg (s1 + s0)) 55 ((5 : Int32) * ((zPI h 54 s2.toNatClampNeg (s1 + s0)).1 46 12)).toNatClampNeg v1).1 46 12)) + (1 : Int32)).toNatClampNeg v2) 55 (((5 : Int32) * ((zPI (zPI (zPI h 54 s2.toNatClampNeg (s1 + s0)) 55 ((5 : Int32) * ((zPI h 54 s2.toNatClampNeg (s1 + s0)).1 46 12)).toNatClampNeg v1) 55 (((5 : Int32) * ((zPI (zPI h 54 s2.toNatClampNeg (s1 + s0)) 55 ((5 : Int32) * ((zPI h 54 s2.toNatClampNeg (s1 + s0)).1 46 12)).toNatClampNeg v1).1 46 12)) + (1 : Int32)).toNatClampNeg v2).1 46 12)) + (2 : Int32)).toNatClampNeg v3).1 46 12)) + (3 : Int32)).toNatClampNeg v4) else zE sc (d + 1) 172 393 [some (.ref 46), none, none, none, none, some (.int v5), none, none, none, none] [.int 1, .int (((5 : Int32) * ((zPI (zPI (zPI (zPI (zPI h 54 s2.toNatClampNeg (s1 + s0)) 55 ((5 : Int32) * ((zPI h 54 s2.toNatClampNeg (s1 + s0)).1 46 12)).toNatClampNeg v1) 55 (((5 : Int32) * ((zPI (zPI h 54 s2.toNatClampNeg (s1 + s0)) 55 ((5 : Int32) * ((zPI h 54 s2.toNatClampNeg (s1 + s0)).1 46 12)).toNatClampNeg v1).1 46 12)) + (1 : Int32)).toNatClampNeg v2) 55 (((5 : Int32) * ((zPI (zPI (zPI h 54 s2.toNatClampNeg (s1 + s0)) 55 ((5 : Int32) * ((zPI h 54 s2.toNatClampNeg (s1 + s0)).1 46 12)).toNatClampNeg v1) 55 (((5 : Int32) * ((zPI (zPI h 54 s2.toNatClampNeg (s1 + s0)) 55 ((5 : Int32) * ((zPI h 54 s2.toNatClampNeg (s1 + s0)).1 46 12)).toNatClampNeg v1).1 46 12)) + (1 : Int32)).toNatClampNeg v2).1 46 12)) + (2 : Int32)).toNatClampNeg v3) 55 (((5 : Int32) * ((zPI (zPI (zPI (zPI h 54 s2.toNatClampNeg (s1 + s0)) 55 ((5 : Int32) * ((zPI h 54 s2.toNatClampNeg (s1 + s0)).1 46 12)).toNatClampNeg v1) 55 (((5 : Int32) * ((zPI (zPI h 54 s2.toNatClampNeg (s1 + s0)) 55 ((5 : Int32) * ((zPI h 54 s2.toNatClampNeg (s1 + s0)).1 46 12)).toNatClampNeg v1).1 46 12)) + (1 : Int32)).toNatClampNeg v2) 55 (((5 : Int32) * ((zPI (zPI (zPI h 54 s2.toNatClampNeg (s1 + s0)) 55 ((5 : Int32) * ((zPI h 54 s2.toNatClampNeg (s1 + s0)).1 46 12)).toNatClampNeg v1) 55 (((5 : Int32) * ((zPI (zPI h 54 s2.toNatClampNeg (s1 + s0)) 55 ((5 : Int32) * ((zPI h 54 s2.toNatClampNeg (s1 + s0)).1 46 12)).toNatClampNeg v1).1 46 12)) + (1 : Int32)).toNatClampNeg v2).1 46 12)) + (2 : Int32)).toNatClampNeg v3).1 46 12)) + (3 : Int32)).toNatClampNeg v4).1 46 12)) + (4 : Int32)), .ref 55] zGL (zPI (zPI (zPI (zPI (zPI h 54 s2.toNatClampNeg (s1 + s0)) 55 ((5 : Int32) * ((zPI h 54 s2.toNatClampNeg (s1 + s0)).1 46 12)).toNatClampNeg v1) 55 (((5 : Int32) * ((zPI (zPI h 54 s2.toNatClampNeg (s1 + s0)) 55 ((5 : Int32) * ((zPI h 54 s2.toNatClampNeg (s1 + s0)).1 46 12)).toNatClampNeg v1).1 46 12)) + (1 : Int32)).toNatClampNeg v2) 55 (((5 : Int32) * ((zPI (zPI (zPI h 54 s2.toNatClampNeg (s1 + s0)) 55 ((5 : Int32) * ((zPI h 54 s2.toNatClampNeg (s1 + s0)).1 46 12)).toNatClampNeg v1) 55 (((5 : Int32) * ((zPI (zPI h 54 s2.toNatClampNeg (s1 + s0)) 55 ((5 : Int32) * ((zPI h 54 s2.toNatClampNeg (s1 + s0)).1 46 12)).toNatClampNeg v1).1 46 12)) + (1 : Int32)).toNatClampNeg v2).1 46 12)) + (2 : Int32)).toNatClampNeg v3) 55 (((5 : Int32) * ((zPI (zPI (zPI (zPI h 54 s2.toNatClampNeg (s1 + s0)) 55 ((5 : Int32) * ((zPI h 54 s2.toNatClampNeg (s1 + s0)).1 46 12)).toNatClampNeg v1) 55 (((5 : Int32) * ((zPI (zPI h 54 s2.toNatClampNeg (s1 + s0)) 55 ((5 : Int32) * ((zPI h 54 s2.toNatClampNeg (s1 + s0)).1 46 12)).toNatClampNeg v1).1 46 12)) + (1 : Int32)).toNatClampNeg v2) 55 (((5 : Int32) * ((zPI (zPI (zPI h 54 s2.toNatClampNeg (s1 + s0)) 55 ((5 : Int32) * ((zPI h 54 s2.toNatClampNeg (s1 + s0)).1 46 12)).toNatClampNeg v1) 55 (((5 : Int32) * ((zPI (zPI h 54 s2.toNatClampNeg (s1 + s0)) 55 ((5 : Int32) * ((zPI h 54 s2.toNatClampNeg (s1 + s0)).1 46 12)).toNatClampNeg v1).1 46 12)) + (1 : Int32)).toNatClampNeg v2).1 46 12)) + (2 : Int32)).toNatClampNeg v3).1 46 12)) + (3 : Int32)).toNatClampNeg v4)) else none) else none) else none) else none) else (if v5 = 0 ∨ v5 = 1 then some (some (.int v5), zGL, zPI h 54 s2.toNatClampNeg (s1 + s0)) else none)) else none) := by
  refine Eq.trans (ev_iadd (pc := 305) k_172_305 rfl) ?_
  refine Eq.trans (ev_iast_c (pc := 306) k_172_306 rfl za_54) (z_it1 ?_)
  refine Eq.trans (ev_aload_n (pc := 307) (x := 46) k_172_307 rfl rfl (by decide)) ?_
  refine Eq.trans (ev_getI (pc := 308) k_172_308 rfl zo_46.1) ?_
  refine Eq.trans (ev_bipush (pc := 311) (v := 60) k_172_311 rfl (by decide)) ?_
  refine Eq.trans (ev_icge (pc := 313) k_172_313.1 rfl k_172_313.2) (z_ite ?_ ?_)
  · refine Eq.trans (ev_aload_n (pc := 316) (x := 46) k_172_316 rfl rfl (by decide)) ?_
    refine Eq.trans (ev_getR (pc := 317) (b := 55) k_172_317 rfl zo_46.1 zg_46_13) ?_
    refine Eq.trans (ev_iconst (pc := 320) (v := 5) k_172_320 rfl (by decide)) ?_
    refine Eq.trans (ev_aload_n (pc := 321) (x := 46) k_172_321 rfl rfl (by decide)) ?_
    refine Eq.trans (ev_getI (pc := 322) k_172_322 rfl zo_46.1) ?_
    refine Eq.trans (ev_imul (pc := 325) k_172_325 rfl) ?_
    refine Eq.trans (ev_iload_n (pc := 326) k_172_326 rfl rfl) ?_
    refine Eq.trans (ev_iast_c (pc := 327) k_172_327 rfl za_55) (z_it1 ?_)
    refine Eq.trans (ev_aload_n (pc := 328) (x := 46) k_172_328 rfl rfl (by decide)) ?_
    refine Eq.trans (ev_getR (pc := 329) (b := 55) k_172_329 rfl zo_46.1 zg_46_13) ?_
    refine Eq.trans (ev_iconst (pc := 332) (v := 5) k_172_332 rfl (by decide)) ?_
    refine Eq.trans (ev_aload_n (pc := 333) (x := 46) k_172_333 rfl rfl (by decide)) ?_
    refine Eq.trans (ev_getI (pc := 334) k_172_334 rfl zo_46.1) ?_
    refine Eq.trans (ev_imul (pc := 337) k_172_337 rfl) ?_
    refine Eq.trans (ev_iconst (pc := 338) (v := 1) k_172_338 rfl (by decide)) ?_
    refine Eq.trans (ev_iadd (pc := 339) k_172_339 rfl) ?_
    refine Eq.trans (ev_iload_n (pc := 340) k_172_340 rfl rfl) ?_
    refine Eq.trans (ev_iast_c (pc := 341) k_172_341 rfl za_55) (z_it1 ?_)
    refine Eq.trans (ev_aload_n (pc := 342) (x := 46) k_172_342 rfl rfl (by decide)) ?_
    refine Eq.trans (ev_getR (pc := 343) (b := 55) k_172_343 rfl zo_46.1 zg_46_13) ?_
    refine Eq.trans (ev_iconst (pc := 346) (v := 5) k_172_346 rfl (by decide)) ?_
    refine Eq.trans (ev_aload_n (pc := 347) (x := 46) k_172_347 rfl rfl (by decide)) ?_
    refine Eq.trans (ev_getI (pc := 348) k_172_348 rfl zo_46.1) ?_
    refine Eq.trans (ev_imul (pc := 351) k_172_351 rfl) ?_
    refine Eq.trans (ev_iconst (pc := 352) (v := 2) k_172_352 rfl (by decide)) ?_
    refine Eq.trans (ev_iadd (pc := 353) k_172_353 rfl) ?_
    refine Eq.trans (ev_iload_n (pc := 354) k_172_354 rfl rfl) ?_
    refine Eq.trans (ev_iast_c (pc := 355) k_172_355 rfl za_55) (z_it1 ?_)
    refine Eq.trans (ev_aload_n (pc := 356) (x := 46) k_172_356 rfl rfl (by decide)) ?_
    refine Eq.trans (ev_getR (pc := 357) (b := 55) k_172_357 rfl zo_46.1 zg_46_13) ?_
    refine Eq.trans (ev_iconst (pc := 360) (v := 5) k_172_360 rfl (by decide)) ?_
    refine Eq.trans (ev_aload_n (pc := 361) (x := 46) k_172_361 rfl rfl (by decide)) ?_
    refine Eq.trans (ev_getI (pc := 362) k_172_362 rfl zo_46.1) ?_
    refine Eq.trans (ev_imul (pc := 365) k_172_365 rfl) ?_
    refine Eq.trans (ev_iconst (pc := 366) (v := 3) k_172_366 rfl (by decide)) ?_
    refine Eq.trans (ev_iadd (pc := 367) k_172_367 rfl) ?_
    refine Eq.trans (ev_iload (pc := 368) k_172_368 rfl rfl) ?_
    refine Eq.trans (ev_iast_c (pc := 370) k_172_370 rfl za_55) (z_it1 ?_)
    refine Eq.trans (ev_aload_n (pc := 371) (x := 46) k_172_371 rfl rfl (by decide)) ?_
    refine Eq.trans (ev_getR (pc := 372) (b := 55) k_172_372 rfl zo_46.1 zg_46_13) ?_
    refine Eq.trans (ev_iconst (pc := 375) (v := 5) k_172_375 rfl (by decide)) ?_
    refine Eq.trans (ev_aload_n (pc := 376) (x := 46) k_172_376 rfl rfl (by decide)) ?_
    refine Eq.trans (ev_getI (pc := 377) k_172_377 rfl zo_46.1) ?_
    refine Eq.trans (ev_imul (pc := 380) k_172_380 rfl) ?_
    refine Eq.trans (ev_iconst (pc := 381) (v := 4) k_172_381 rfl (by decide)) ?_
    refine Eq.trans (ev_iadd (pc := 382) k_172_382 rfl) ?_
    refine Eq.trans (ev_iload (pc := 383) k_172_383 rfl rfl) ?_
    refine Eq.trans (ev_ifeq (pc := 385) k_172_385.1 rfl k_172_385.2) (z_ite ?_ ?_)
    · refine Eq.trans (ev_iconst (pc := 392) (v := 0) k_172_392 rfl (by decide)) ?_
      exact ev_mk kd_172_393 rfl
    · refine Eq.trans (ev_iconst (pc := 388) (v := 1) k_172_388 rfl (by decide)) ?_
      refine Eq.trans (ev_goto (pc := 389) k_172_389.1 rfl k_172_389.2) ?_
      exact ev_mk kd_172_393 rfl
  · refine Eq.trans (ev_mk (pc := 404) (lv' := [none, none, none, none, none, some (.int v5), none, none, none, none]) kd_172_404 rfl) ?_
    refine Eq.trans (ev_iload (pc := 404) k_172_404 rfl rfl) ?_
    exact ev_ret_bool k_172_406 rfl rt_172

set_option maxRecDepth 100000 in
theorem E_Mo_sayNow_393 (sc : zSc) (d : Nat) (h : zHp) (v5 : Int32) (s0 : Int32) (s1 : Int32) : zE sc (d + 1) 172 393 [some (.ref 46), none, none, none, none, some (.int v5), none, none, none, none] [.int s0, .int s1, .ref 55] zGL h = (if zin s1 300 = true then (if v5 = 0 ∨ v5 = 1 then some (some (.int v5), zGL, zPI (zPI h 55 s1.toNatClampNeg s0) 46 12 (((zPI h 55 s1.toNatClampNeg s0).1 46 12) + (1 : Int32))) else none) else none) := by
  refine Eq.trans (ev_iast_c (pc := 393) k_172_393 rfl za_55) (z_it1 ?_)
  refine Eq.trans (ev_aload_n (pc := 394) (x := 46) k_172_394 rfl rfl (by decide)) ?_
  refine Eq.trans (ev_dup (pc := 395) k_172_395 rfl rfl) ?_
  refine Eq.trans (ev_getI (pc := 396) k_172_396 rfl zo_46.1) ?_
  refine Eq.trans (ev_iconst (pc := 399) (v := 1) k_172_399 rfl (by decide)) ?_
  refine Eq.trans (ev_iadd (pc := 400) k_172_400 rfl) ?_
  refine Eq.trans (ev_putI (pc := 401) k_172_401 rfl zo_46.1) ?_
  refine Eq.trans (ev_mk (pc := 404) (lv' := [none, none, none, none, none, some (.int v5), none, none, none, none]) kd_172_404 rfl) ?_
  refine Eq.trans (ev_iload (pc := 404) k_172_404 rfl rfl) ?_
  exact ev_ret_bool k_172_406 rfl rt_172

set_option maxRecDepth 100000 in
theorem E_Mo_learnt (sc : zSc) (d : Nat) (h : zHp) (w1 : Int64) (v3 : Int32) : zRun sc d 173 [.ref 46, .long w1, .int v3] zGL h = zE sc d 173 6 [some (.ref 46), some (.long w1), none, some (.int v3), some (.long 0), none, some (.int 0)] [] zGL h := by
  have he : zEnt 173 [.ref 46, .long w1, .int v3] = [some (.ref 46), some (.long w1), none, some (.int v3), none, none, none] := by unfold zEnt; rw [ml_173]; rfl
  unfold zRun
  rw [he]
  refine Eq.trans (ev_lconst (pc := 0) (v := 0) k_173_0 rfl (by decide)) ?_
  refine Eq.trans (ev_lstore (pc := 1) (lv' := [some (.ref 46), some (.long w1), none, some (.int v3), some (.long 0), none, none]) k_173_1 rfl (Nat.le_of_ble_eq_true rfl) rfl) ?_
  refine Eq.trans (ev_iconst (pc := 3) (v := 0) k_173_3 rfl (by decide)) ?_
  refine Eq.trans (ev_istore (pc := 4) (lv' := [some (.ref 46), some (.long w1), none, some (.int v3), some (.long 0), none, some (.int 0)]) k_173_4 rfl (Nat.le_of_ble_eq_true rfl) rfl) ?_
  exact ev_mk kd_173_6 rfl

set_option maxRecDepth 100000 in
theorem E_Mo_learnt_6 (sc : zSc) (d : Nat) (h : zHp) (w1 : Int64) (v3 : Int32) (w4 : Int64) (v6 : Int32) : zE sc d 173 6 [some (.ref 46), some (.long w1), none, some (.int v3), some (.long w4), none, some (.int v6)] [] zGL h = (if v6 < ((1 : Int32) <<< ((h.1 46 0) &&& 31)) then (if ((w1 >>> (v6.toInt64 &&& 63)) &&& (1 : Int64)) = (1 : Int64) then (if zin (v6 ||| ((1 : Int32) <<< (v3 &&& 31))) 64 = true then zE sc d 173 6 [some (.ref 46), some (.long w1), none, some (.int v3), some (.long (w4 ||| ((1 : Int64) <<< ((h.1 50 (v6 ||| ((1 : Int32) <<< (v3 &&& 31))).toNatClampNeg).toInt64 &&& 63)))), none, some (.int (v6 + 1))] [] zGL h else none) else zE sc d 173 6 [some (.ref 46), some (.long w1), none, some (.int v3), some (.long (w4 ||| (0 : Int64))), none, some (.int (v6 + 1))] [] zGL h) else some (some (.long w4), zGL, h)) := by
  refine Eq.trans (ev_iload (pc := 6) k_173_6 rfl rfl) ?_
  refine Eq.trans (ev_iconst (pc := 8) (v := 1) k_173_8 rfl (by decide)) ?_
  refine Eq.trans (ev_aload_n (pc := 9) (x := 46) k_173_9 rfl rfl (by decide)) ?_
  refine Eq.trans (ev_getI (pc := 10) k_173_10 rfl zo_46.1) ?_
  refine Eq.trans (ev_ishl (pc := 13) k_173_13 rfl) ?_
  refine Eq.trans (ev_icge (pc := 14) k_173_14.1 rfl k_173_14.2) (z_ite ?_ ?_)
  · refine Eq.trans (ev_lload (pc := 17) k_173_17 rfl rfl) ?_
    refine Eq.trans (ev_lload_n (pc := 19) k_173_19 rfl rfl) ?_
    refine Eq.trans (ev_iload (pc := 20) k_173_20 rfl rfl) ?_
    refine Eq.trans (ev_lshr (pc := 22) k_173_22 rfl) ?_
    refine Eq.trans (ev_lconst (pc := 23) (v := 1) k_173_23 rfl (by decide)) ?_
    refine Eq.trans (ev_land (pc := 24) k_173_24 rfl) ?_
    refine Eq.trans (ev_lconst (pc := 25) (v := 1) k_173_25 rfl (by decide)) ?_
    refine Eq.trans (ev_lcmp (pc := 26) k_173_26 rfl) ?_
    refine Eq.trans (ev_ilne (pc := 27) k_173_27.1 rfl k_173_27.2) (z_ite ?_ ?_)
    · refine Eq.trans (ev_lconst (pc := 30) (v := 1) k_173_30 rfl (by decide)) ?_
      refine Eq.trans (ev_aload_n (pc := 31) (x := 46) k_173_31 rfl rfl (by decide)) ?_
      refine Eq.trans (ev_getR (pc := 32) (b := 50) k_173_32 rfl zo_46.1 zg_46_6) ?_
      refine Eq.trans (ev_iload (pc := 35) k_173_35 rfl rfl) ?_
      refine Eq.trans (ev_iconst (pc := 37) (v := 1) k_173_37 rfl (by decide)) ?_
      refine Eq.trans (ev_iload_n (pc := 38) k_173_38 rfl rfl) ?_
      refine Eq.trans (ev_ishl (pc := 39) k_173_39 rfl) ?_
      refine Eq.trans (ev_ior (pc := 40) k_173_40 rfl) ?_
      refine Eq.trans (ev_iald_c (pc := 41) k_173_41 rfl za_50) (z_it1 ?_)
      refine Eq.trans (ev_lshl (pc := 42) k_173_42 rfl) ?_
      refine Eq.trans (ev_goto (pc := 43) k_173_43.1 rfl k_173_43.2) ?_
      refine Eq.trans (ev_mk (pc := 47) (lv' := [some (.ref 46), some (.long w1), none, some (.int v3), none, none, some (.int v6)]) kd_173_47 rfl) ?_
      refine Eq.trans (ev_lor (pc := 47) k_173_47 rfl) ?_
      refine Eq.trans (ev_lstore (pc := 48) (lv' := [some (.ref 46), some (.long w1), none, some (.int v3), some (.long (w4 ||| ((1 : Int64) <<< ((h.1 50 (v6 ||| ((1 : Int32) <<< (v3 &&& 31))).toNatClampNeg).toInt64 &&& 63)))), none, some (.int v6)]) k_173_48 rfl (Nat.le_of_ble_eq_true rfl) rfl) ?_
      refine Eq.trans (ev_iinc (pc := 50) (v := 1) (lv' := [some (.ref 46), some (.long w1), none, some (.int v3), some (.long (w4 ||| ((1 : Int64) <<< ((h.1 50 (v6 ||| ((1 : Int32) <<< (v3 &&& 31))).toNatClampNeg).toInt64 &&& 63)))), none, some (.int (v6 + 1))]) k_173_50 rfl rfl (by decide) rfl) ?_
      refine Eq.trans (ev_goto (pc := 53) k_173_53.1 rfl k_173_53.2) ?_
      exact ev_mk kd_173_6 rfl
    · refine Eq.trans (ev_lconst (pc := 46) (v := 0) k_173_46 rfl (by decide)) ?_
      refine Eq.trans (ev_mk (pc := 47) (lv' := [some (.ref 46), some (.long w1), none, some (.int v3), none, none, some (.int v6)]) kd_173_47 rfl) ?_
      refine Eq.trans (ev_lor (pc := 47) k_173_47 rfl) ?_
      refine Eq.trans (ev_lstore (pc := 48) (lv' := [some (.ref 46), some (.long w1), none, some (.int v3), some (.long (w4 ||| (0 : Int64))), none, some (.int v6)]) k_173_48 rfl (Nat.le_of_ble_eq_true rfl) rfl) ?_
      refine Eq.trans (ev_iinc (pc := 50) (v := 1) (lv' := [some (.ref 46), some (.long w1), none, some (.int v3), some (.long (w4 ||| (0 : Int64))), none, some (.int (v6 + 1))]) k_173_50 rfl rfl (by decide) rfl) ?_
      refine Eq.trans (ev_goto (pc := 53) k_173_53.1 rfl k_173_53.2) ?_
      exact ev_mk kd_173_6 rfl
  · refine Eq.trans (ev_lload (pc := 56) k_173_56 rfl rfl) ?_
    exact ev_ret_long k_173_58 rfl rt_173

set_option maxRecDepth 100000 in
theorem E_Mo_silent (sc : zSc) (d : Nat) (h : zHp) (v1 : Int32) (v2 : Int32) : zRun sc (d + 1) 174 [.ref 46, .int v1, .int v2] zGL h = (zBi (zRun sc d 157 [.ref 46, .int v1, .int v2] zGL h) zGL fun x1 h1 => (if x1 = 0 then some (some (.int (-1000000001)), zGL, h1) else (zBi (zRun sc d 175 [.ref 46, .int v1, .int v2] zGL h1) zGL fun x2 h2 => some (some (.int x2), zGL, h2)))) := by
  have he : zEnt 174 [.ref 46, .int v1, .int v2] = [some (.ref 46), some (.int v1), some (.int v2)] := by unfold zEnt; rw [ml_174]; rfl
  unfold zRun
  rw [he]
  refine Eq.trans (ev_aload_n (pc := 0) (x := 46) k_174_0 rfl rfl (by decide)) ?_
  refine Eq.trans (ev_iload_n (pc := 1) k_174_1 rfl rfl) ?_
  refine Eq.trans (ev_iload_n (pc := 2) k_174_2 rfl rfl) ?_
  refine Eq.trans (ev_vi (pc := 3) (as := [.int v1, .int v2]) (rest := []) k_174_3 rfl zo_46 rfl rfl (Nat.le_of_ble_eq_true rfl) (Nat.le_of_ble_eq_true rfl)) (z_cbi fun x1 h1 => ?_)
  refine Eq.trans (ev_ifeq (pc := 6) k_174_6.1 rfl k_174_6.2) (z_ite ?_ ?_)
  · refine Eq.trans (ev_ldc (pc := 18) (v := (-1000000001)) k_174_18 rfl) ?_
    refine Eq.trans (ev_mk (pc := 20) (lv' := [none, none, none]) kd_174_20 rfl) ?_
    exact ev_ret_int k_174_20 rfl rt_174
  · refine Eq.trans (ev_aload_n (pc := 9) (x := 46) k_174_9 rfl rfl (by decide)) ?_
    refine Eq.trans (ev_iload_n (pc := 10) k_174_10 rfl rfl) ?_
    refine Eq.trans (ev_iload_n (pc := 11) k_174_11 rfl rfl) ?_
    refine Eq.trans (ev_vi (pc := 12) (as := [.int v1, .int v2]) (rest := []) k_174_12 rfl zo_46 rfl rfl (Nat.le_of_ble_eq_true rfl) (Nat.le_of_ble_eq_true rfl)) (z_cbi fun x2 h2 => ?_)
    refine Eq.trans (ev_goto (pc := 15) k_174_15.1 rfl k_174_15.2) ?_
    refine Eq.trans (ev_mk (pc := 20) (lv' := [none, none, none]) kd_174_20 rfl) ?_
    exact ev_ret_int k_174_20 rfl rt_174

set_option maxRecDepth 100000 in
theorem E_Mo_silentNow (sc : zSc) (d : Nat) (h : zHp) (v1 : Int32) (v2 : Int32) : zRun sc (d + 1) 175 [.ref 46, .int v1, .int v2] zGL h = (zBi (zRun sc d 152 [.ref 46, .int v2] zGL h) zGL fun x1 h1 => (if zin v2 5 = true then (if zin (((5 : Int32) * v2) + v1) 25 = true then zE sc (d + 1) 175 34 [some (.ref 46), some (.int v1), some (.int v2), some (.int (x1 &&& ((h1.1 51 v2.toNatClampNeg) ^^^ ((-1) : Int32)))), some (.long (h1.2.1 53 (((5 : Int32) * v2) + v1).toNatClampNeg)), none, some (.long (h1.2.1 53 (((5 : Int32) * v2) + v1).toNatClampNeg)), none, some (.int 0)] [] zGL h1 else none) else none)) := by
  have he : zEnt 175 [.ref 46, .int v1, .int v2] = [some (.ref 46), some (.int v1), some (.int v2), none, none, none, none, none, none] := by unfold zEnt; rw [ml_175]; rfl
  unfold zRun
  rw [he]
  refine Eq.trans (ev_aload_n (pc := 0) (x := 46) k_175_0 rfl rfl (by decide)) ?_
  refine Eq.trans (ev_iload_n (pc := 1) k_175_1 rfl rfl) ?_
  refine Eq.trans (ev_vi (pc := 2) (as := [.int v2]) (rest := []) k_175_2 rfl zo_46 rfl rfl (Nat.le_of_ble_eq_true rfl) (Nat.le_of_ble_eq_true rfl)) (z_cbi fun x1 h1 => ?_)
  refine Eq.trans (ev_aload_n (pc := 5) (x := 46) k_175_5 rfl rfl (by decide)) ?_
  refine Eq.trans (ev_getR (pc := 6) (b := 51) k_175_6 rfl zo_46.1 zg_46_8) ?_
  refine Eq.trans (ev_iload_n (pc := 9) k_175_9 rfl rfl) ?_
  refine Eq.trans (ev_iald_c (pc := 10) k_175_10 rfl za_51) (z_it1 ?_)
  refine Eq.trans (ev_iconst (pc := 11) (v := (-1)) k_175_11 rfl (by decide)) ?_
  refine Eq.trans (ev_ixor (pc := 12) k_175_12 rfl) ?_
  refine Eq.trans (ev_iand (pc := 13) k_175_13 rfl) ?_
  refine Eq.trans (ev_istore_n (pc := 14) (lv' := [some (.ref 46), some (.int v1), some (.int v2), some (.int (x1 &&& ((h1.1 51 v2.toNatClampNeg) ^^^ ((-1) : Int32)))), none, none, none, none, none]) k_175_14 rfl (Nat.le_of_ble_eq_true rfl) rfl) ?_
  refine Eq.trans (ev_aload_n (pc := 15) (x := 46) k_175_15 rfl rfl (by decide)) ?_
  refine Eq.trans (ev_getR (pc := 16) (b := 53) k_175_16 rfl zo_46.1 zg_46_10) ?_
  refine Eq.trans (ev_iconst (pc := 19) (v := 5) k_175_19 rfl (by decide)) ?_
  refine Eq.trans (ev_iload_n (pc := 20) k_175_20 rfl rfl) ?_
  refine Eq.trans (ev_imul (pc := 21) k_175_21 rfl) ?_
  refine Eq.trans (ev_iload_n (pc := 22) k_175_22 rfl rfl) ?_
  refine Eq.trans (ev_iadd (pc := 23) k_175_23 rfl) ?_
  refine Eq.trans (ev_lald_c (pc := 24) k_175_24 rfl za_53) (z_it1 ?_)
  refine Eq.trans (ev_lstore (pc := 25) (lv' := [some (.ref 46), some (.int v1), some (.int v2), some (.int (x1 &&& ((h1.1 51 v2.toNatClampNeg) ^^^ ((-1) : Int32)))), some (.long (h1.2.1 53 (((5 : Int32) * v2) + v1).toNatClampNeg)), none, none, none, none]) k_175_25 rfl (Nat.le_of_ble_eq_true rfl) rfl) ?_
  refine Eq.trans (ev_lload (pc := 27) k_175_27 rfl rfl) ?_
  refine Eq.trans (ev_lstore (pc := 29) (lv' := [some (.ref 46), some (.int v1), some (.int v2), some (.int (x1 &&& ((h1.1 51 v2.toNatClampNeg) ^^^ ((-1) : Int32)))), some (.long (h1.2.1 53 (((5 : Int32) * v2) + v1).toNatClampNeg)), none, some (.long (h1.2.1 53 (((5 : Int32) * v2) + v1).toNatClampNeg)), none, none]) k_175_29 rfl (Nat.le_of_ble_eq_true rfl) rfl) ?_
  refine Eq.trans (ev_iconst (pc := 31) (v := 0) k_175_31 rfl (by decide)) ?_
  refine Eq.trans (ev_istore (pc := 32) (lv' := [some (.ref 46), some (.int v1), some (.int v2), some (.int (x1 &&& ((h1.1 51 v2.toNatClampNeg) ^^^ ((-1) : Int32)))), some (.long (h1.2.1 53 (((5 : Int32) * v2) + v1).toNatClampNeg)), none, some (.long (h1.2.1 53 (((5 : Int32) * v2) + v1).toNatClampNeg)), none, some (.int 0)]) k_175_32 rfl (Nat.le_of_ble_eq_true rfl) rfl) ?_
  exact ev_mk kd_175_34 rfl

set_option maxRecDepth 100000 in
theorem E_Mo_silentNow_34 (sc : zSc) (d : Nat) (h : zHp) (v1 : Int32) (v2 : Int32) (v3 : Int32) (w4 : Int64) (w6 : Int64) (v8 : Int32) : zE sc (d + 1) 175 34 [some (.ref 46), some (.int v1), some (.int v2), some (.int v3), some (.long w4), none, some (.long w6), none, some (.int v8)] [] zGL h = (if v8 < ((1 : Int32) <<< ((h.1 46 0) &&& 31)) then (if (v8 &&& v3) = 0 then zE sc (d + 1) 175 34 [some (.ref 46), some (.int v1), some (.int v2), some (.int v3), some (.long w4), none, some (.long (w6 &&& ((-1) : Int64))), none, some (.int (v8 + 1))] [] zGL h else zE sc (d + 1) 175 34 [some (.ref 46), some (.int v1), some (.int v2), some (.int v3), some (.long w4), none, some (.long (w6 &&& (((1 : Int64) <<< (v8.toInt64 &&& 63)) ^^^ ((-1) : Int64)))), none, some (.int (v8 + 1))] [] zGL h) else (if zin (((5 : Int32) * v2) + v1) 25 = true then (zBi (zRun sc d 146 [.long w4] zGL (zPL h 53 (((5 : Int32) * v2) + v1).toNatClampNeg w6)) zGL fun x1 h1 => (zBi (zRun sc d 146 [.long w6] zGL h1) zGL fun x2 h2 => some (some (.int (x1 - x2)), zGL, h2))) else none)) := by
  refine Eq.trans (ev_iload (pc := 34) k_175_34 rfl rfl) ?_
  refine Eq.trans (ev_iconst (pc := 36) (v := 1) k_175_36 rfl (by decide)) ?_
  refine Eq.trans (ev_aload_n (pc := 37) (x := 46) k_175_37 rfl rfl (by decide)) ?_
  refine Eq.trans (ev_getI (pc := 38) k_175_38 rfl zo_46.1) ?_
  refine Eq.trans (ev_ishl (pc := 41) k_175_41 rfl) ?_
  refine Eq.trans (ev_icge (pc := 42) k_175_42.1 rfl k_175_42.2) (z_ite ?_ ?_)
  · refine Eq.trans (ev_lload (pc := 45) k_175_45 rfl rfl) ?_
    refine Eq.trans (ev_iload (pc := 47) k_175_47 rfl rfl) ?_
    refine Eq.trans (ev_iload_n (pc := 49) k_175_49 rfl rfl) ?_
    refine Eq.trans (ev_iand (pc := 50) k_175_50 rfl) ?_
    refine Eq.trans (ev_ifeq (pc := 51) k_175_51.1 rfl k_175_51.2) (z_ite ?_ ?_)
    · refine Eq.trans (ev_ldc2 (pc := 65) (v := (-1)) k_175_65 rfl) ?_
      refine Eq.trans (ev_mk (pc := 68) (lv' := [some (.ref 46), some (.int v1), some (.int v2), some (.int v3), some (.long w4), none, none, none, some (.int v8)]) kd_175_68 rfl) ?_
      refine Eq.trans (ev_land (pc := 68) k_175_68 rfl) ?_
      refine Eq.trans (ev_lstore (pc := 69) (lv' := [some (.ref 46), some (.int v1), some (.int v2), some (.int v3), some (.long w4), none, some (.long (w6 &&& ((-1) : Int64))), none, some (.int v8)]) k_175_69 rfl (Nat.le_of_ble_eq_true rfl) rfl) ?_
      refine Eq.trans (ev_iinc (pc := 71) (v := 1) (lv' := [some (.ref 46), some (.int v1), some (.int v2), some (.int v3), some (.long w4), none, some (.long (w6 &&& ((-1) : Int64))), none, some (.int (v8 + 1))]) k_175_71 rfl rfl (by decide) rfl) ?_
      refine Eq.trans (ev_goto (pc := 74) k_175_74.1 rfl k_175_74.2) ?_
      exact ev_mk kd_175_34 rfl
    · refine Eq.trans (ev_lconst (pc := 54) (v := 1) k_175_54 rfl (by decide)) ?_
      refine Eq.trans (ev_iload (pc := 55) k_175_55 rfl rfl) ?_
      refine Eq.trans (ev_lshl (pc := 57) k_175_57 rfl) ?_
      refine Eq.trans (ev_ldc2 (pc := 58) (v := (-1)) k_175_58 rfl) ?_
      refine Eq.trans (ev_lxor (pc := 61) k_175_61 rfl) ?_
      refine Eq.trans (ev_goto (pc := 62) k_175_62.1 rfl k_175_62.2) ?_
      refine Eq.trans (ev_mk (pc := 68) (lv' := [some (.ref 46), some (.int v1), some (.int v2), some (.int v3), some (.long w4), none, none, none, some (.int v8)]) kd_175_68 rfl) ?_
      refine Eq.trans (ev_land (pc := 68) k_175_68 rfl) ?_
      refine Eq.trans (ev_lstore (pc := 69) (lv' := [some (.ref 46), some (.int v1), some (.int v2), some (.int v3), some (.long w4), none, some (.long (w6 &&& (((1 : Int64) <<< (v8.toInt64 &&& 63)) ^^^ ((-1) : Int64)))), none, some (.int v8)]) k_175_69 rfl (Nat.le_of_ble_eq_true rfl) rfl) ?_
      refine Eq.trans (ev_iinc (pc := 71) (v := 1) (lv' := [some (.ref 46), some (.int v1), some (.int v2), some (.int v3), some (.long w4), none, some (.long (w6 &&& (((1 : Int64) <<< (v8.toInt64 &&& 63)) ^^^ ((-1) : Int64)))), none, some (.int (v8 + 1))]) k_175_71 rfl rfl (by decide) rfl) ?_
      refine Eq.trans (ev_goto (pc := 74) k_175_74.1 rfl k_175_74.2) ?_
      exact ev_mk kd_175_34 rfl
  · refine Eq.trans (ev_aload_n (pc := 77) (x := 46) k_175_77 rfl rfl (by decide)) ?_
    refine Eq.trans (ev_getR (pc := 78) (b := 53) k_175_78 rfl zo_46.1 zg_46_10) ?_
    refine Eq.trans (ev_iconst (pc := 81) (v := 5) k_175_81 rfl (by decide)) ?_
    refine Eq.trans (ev_iload_n (pc := 82) k_175_82 rfl rfl) ?_
    refine Eq.trans (ev_imul (pc := 83) k_175_83 rfl) ?_
    refine Eq.trans (ev_iload_n (pc := 84) k_175_84 rfl rfl) ?_
    refine Eq.trans (ev_iadd (pc := 85) k_175_85 rfl) ?_
    refine Eq.trans (ev_lload (pc := 86) k_175_86 rfl rfl) ?_
    refine Eq.trans (ev_last_c (pc := 88) k_175_88 rfl za_53) (z_it1 ?_)
    refine Eq.trans (ev_lload (pc := 89) k_175_89 rfl rfl) ?_
    refine Eq.trans (ev_si (pc := 91) (as := [.long w4]) (rest := []) k_175_91 rfl rfl rfl (Nat.le_of_ble_eq_true rfl) (Nat.le_of_ble_eq_true rfl)) (z_cbi fun x1 h1 => ?_)
    refine Eq.trans (ev_lload (pc := 94) k_175_94 rfl rfl) ?_
    refine Eq.trans (ev_si (pc := 96) (as := [.long w6]) (rest := [.int x1]) k_175_96 rfl rfl rfl (Nat.le_of_ble_eq_true rfl) (Nat.le_of_ble_eq_true rfl)) (z_cbi fun x2 h2 => ?_)
    refine Eq.trans (ev_isub (pc := 99) k_175_99 rfl) ?_
    exact ev_ret_int k_175_100 rfl rt_175

set_option maxRecDepth 100000 in
theorem E_Mo_morning (sc : zSc) (d : Nat) (h : zHp)  : zRun sc (d + 1) 176 [.ref 46] zGL h = zE sc (d + 1) 176 4 [some (.ref 46), some (.int 0), some (.int 0), none, none, none] [] zGL h := by
  have he : zEnt 176 [.ref 46] = [some (.ref 46), none, none, none, none, none] := by unfold zEnt; rw [ml_176]; rfl
  unfold zRun
  rw [he]
  refine Eq.trans (ev_iconst (pc := 0) (v := 0) k_176_0 rfl (by decide)) ?_
  refine Eq.trans (ev_istore_n (pc := 1) (lv' := [some (.ref 46), some (.int 0), none, none, none, none]) k_176_1 rfl (Nat.le_of_ble_eq_true rfl) rfl) ?_
  refine Eq.trans (ev_iconst (pc := 2) (v := 0) k_176_2 rfl (by decide)) ?_
  refine Eq.trans (ev_istore_n (pc := 3) (lv' := [some (.ref 46), some (.int 0), some (.int 0), none, none, none]) k_176_3 rfl (Nat.le_of_ble_eq_true rfl) rfl) ?_
  exact ev_mk kd_176_4 rfl

set_option maxRecDepth 100000 in
theorem E_Mo_morning_4 (sc : zSc) (d : Nat) (h : zHp) (v1 : Int32) (v2 : Int32) : zE sc (d + 1) 176 4 [some (.ref 46), some (.int v1), some (.int v2), none, none, none] [] zGL h = (if v2 < (25 : Int32) then (if (v2 / (5 : Int32)) = (v2 - v2 / (5 : Int32) * (5 : Int32)) then zE sc (d + 1) 176 43 [some (.ref 46), some (.int v1), some (.int v2), none, none, none] [] zGL h else (if (v2 / (5 : Int32)) < (h.1 46 3) then (if (v2 - v2 / (5 : Int32) * (5 : Int32)) < (h.1 46 3) then zE sc (d + 1) 176 44 [some (.ref 46), some (.int v1), some (.int v2), none, none, none] [.int 1] zGL h else zE sc (d + 1) 176 43 [some (.ref 46), some (.int v1), some (.int v2), none, none, none] [] zGL h) else zE sc (d + 1) 176 43 [some (.ref 46), some (.int v1), some (.int v2), none, none, none] [] zGL h)) else zE sc (d + 1) 176 77 [some (.ref 46), some (.int v1), some (.int 0), none, none, none] [] zGL h) := by
  refine Eq.trans (ev_iload_n (pc := 4) k_176_4 rfl rfl) ?_
  refine Eq.trans (ev_bipush (pc := 5) (v := 25) k_176_5 rfl (by decide)) ?_
  refine Eq.trans (ev_icge (pc := 7) k_176_7.1 rfl k_176_7.2) (z_ite ?_ ?_)
  · refine Eq.trans (ev_iload_n (pc := 10) k_176_10 rfl rfl) ?_
    refine Eq.trans (ev_iconst (pc := 11) (v := 5) k_176_11 rfl (by decide)) ?_
    refine Eq.trans (ev_idiv (pc := 12) k_176_12 rfl (by decide)) ?_
    refine Eq.trans (ev_iload_n (pc := 13) k_176_13 rfl rfl) ?_
    refine Eq.trans (ev_iconst (pc := 14) (v := 5) k_176_14 rfl (by decide)) ?_
    refine Eq.trans (ev_irem (pc := 15) k_176_15 rfl (by decide)) ?_
    refine Eq.trans (ev_iceq (pc := 16) k_176_16.1 rfl k_176_16.2) (z_ite ?_ ?_)
    · exact ev_mk kd_176_43 rfl
    · refine Eq.trans (ev_iload_n (pc := 19) k_176_19 rfl rfl) ?_
      refine Eq.trans (ev_iconst (pc := 20) (v := 5) k_176_20 rfl (by decide)) ?_
      refine Eq.trans (ev_idiv (pc := 21) k_176_21 rfl (by decide)) ?_
      refine Eq.trans (ev_aload_n (pc := 22) (x := 46) k_176_22 rfl rfl (by decide)) ?_
      refine Eq.trans (ev_getI (pc := 23) k_176_23 rfl zo_46.1) ?_
      refine Eq.trans (ev_icge (pc := 26) k_176_26.1 rfl k_176_26.2) (z_ite ?_ ?_)
      · refine Eq.trans (ev_iload_n (pc := 29) k_176_29 rfl rfl) ?_
        refine Eq.trans (ev_iconst (pc := 30) (v := 5) k_176_30 rfl (by decide)) ?_
        refine Eq.trans (ev_irem (pc := 31) k_176_31 rfl (by decide)) ?_
        refine Eq.trans (ev_aload_n (pc := 32) (x := 46) k_176_32 rfl rfl (by decide)) ?_
        refine Eq.trans (ev_getI (pc := 33) k_176_33 rfl zo_46.1) ?_
        refine Eq.trans (ev_icge (pc := 36) k_176_36.1 rfl k_176_36.2) (z_ite ?_ ?_)
        · refine Eq.trans (ev_iconst (pc := 39) (v := 1) k_176_39 rfl (by decide)) ?_
          refine Eq.trans (ev_goto (pc := 40) k_176_40.1 rfl k_176_40.2) ?_
          exact ev_mk kd_176_44 rfl
        · exact ev_mk kd_176_43 rfl
      · exact ev_mk kd_176_43 rfl
  · refine Eq.trans (ev_iconst (pc := 75) (v := 0) k_176_75 rfl (by decide)) ?_
    refine Eq.trans (ev_istore_n (pc := 76) (lv' := [some (.ref 46), some (.int v1), some (.int 0), none, none, none]) k_176_76 rfl (Nat.le_of_ble_eq_true rfl) rfl) ?_
    exact ev_mk kd_176_77 rfl

set_option maxRecDepth 100000 in
theorem E_Mo_morning_43 (sc : zSc) (d : Nat) (h : zHp) (v1 : Int32) (v2 : Int32) : zE sc (d + 1) 176 43 [some (.ref 46), some (.int v1), some (.int v2), none, none, none] [] zGL h = zE sc (d + 1) 176 44 [some (.ref 46), some (.int v1), some (.int v2), none, none, none] [.int 0] zGL h := by
  refine Eq.trans (ev_iconst (pc := 43) (v := 0) k_176_43 rfl (by decide)) ?_
  exact ev_mk kd_176_44 rfl

set_option maxRecDepth 100000 in
theorem E_Mo_morning_44 (sc : zSc) (d : Nat) (h : zHp) (v1 : Int32) (v2 : Int32) (s0 : Int32) : zE sc (d + 1) 176 44 [some (.ref 46), some (.int v1), some (.int v2), none, none, none] [.int s0] zGL h = (if s0 = 0 then (if zin v2 25 = true then zE sc (d + 1) 176 4 [some (.ref 46), some (.int v1), some (.int (v2 + 1)), none, none, none] [] zGL (zPI h 60 v2.toNatClampNeg 0) else none) else (zBi (zRun sc d 160 [.ref 46, .int (v2 / (5 : Int32)), .int (v2 - v2 / (5 : Int32) * (5 : Int32))] zGL h) zGL fun x1 h1 => (if zin v2 25 = true then zE sc (d + 1) 176 4 [some (.ref 46), some (.int v1), some (.int (v2 + 1)), none, none, none] [] zGL (zPI h1 60 v2.toNatClampNeg x1) else none))) := by
  refine Eq.trans (ev_istore_n (pc := 44) (lv' := [some (.ref 46), some (.int v1), some (.int v2), some (.int s0), none, none]) k_176_44 rfl (Nat.le_of_ble_eq_true rfl) rfl) ?_
  refine Eq.trans (ev_aload_n (pc := 45) (x := 46) k_176_45 rfl rfl (by decide)) ?_
  refine Eq.trans (ev_getR (pc := 46) (b := 60) k_176_46 rfl zo_46.1 zg_46_29) ?_
  refine Eq.trans (ev_iload_n (pc := 49) k_176_49 rfl rfl) ?_
  refine Eq.trans (ev_iload_n (pc := 50) k_176_50 rfl rfl) ?_
  refine Eq.trans (ev_ifeq (pc := 51) k_176_51.1 rfl k_176_51.2) (z_ite ?_ ?_)
  · refine Eq.trans (ev_iconst (pc := 67) (v := 0) k_176_67 rfl (by decide)) ?_
    refine Eq.trans (ev_mk (pc := 68) (lv' := [some (.ref 46), some (.int v1), some (.int v2), none, none, none]) kd_176_68 rfl) ?_
    refine Eq.trans (ev_iast_c (pc := 68) k_176_68 rfl za_60) (z_it1 ?_)
    refine Eq.trans (ev_iinc (pc := 69) (v := 1) (lv' := [some (.ref 46), some (.int v1), some (.int (v2 + 1)), none, none, none]) k_176_69 rfl rfl (by decide) rfl) ?_
    refine Eq.trans (ev_goto (pc := 72) k_176_72.1 rfl k_176_72.2) ?_
    exact ev_mk kd_176_4 rfl
  · refine Eq.trans (ev_aload_n (pc := 54) (x := 46) k_176_54 rfl rfl (by decide)) ?_
    refine Eq.trans (ev_iload_n (pc := 55) k_176_55 rfl rfl) ?_
    refine Eq.trans (ev_iconst (pc := 56) (v := 5) k_176_56 rfl (by decide)) ?_
    refine Eq.trans (ev_idiv (pc := 57) k_176_57 rfl (by decide)) ?_
    refine Eq.trans (ev_iload_n (pc := 58) k_176_58 rfl rfl) ?_
    refine Eq.trans (ev_iconst (pc := 59) (v := 5) k_176_59 rfl (by decide)) ?_
    refine Eq.trans (ev_irem (pc := 60) k_176_60 rfl (by decide)) ?_
    refine Eq.trans (ev_vi (pc := 61) (as := [.int (v2 / (5 : Int32)), .int (v2 - v2 / (5 : Int32) * (5 : Int32))]) (rest := [.int v2, .ref 60]) k_176_61 rfl zo_46 rfl rfl (Nat.le_of_ble_eq_true rfl) (Nat.le_of_ble_eq_true rfl)) (z_cbi fun x1 h1 => ?_)
    refine Eq.trans (ev_goto (pc := 64) k_176_64.1 rfl k_176_64.2) ?_
    refine Eq.trans (ev_mk (pc := 68) (lv' := [some (.ref 46), some (.int v1), some (.int v2), none, none, none]) kd_176_68 rfl) ?_
    refine Eq.trans (ev_iast_c (pc := 68) k_176_68 rfl za_60) (z_it1 ?_)
    refine Eq.trans (ev_iinc (pc := 69) (v := 1) (lv' := [some (.ref 46), some (.int v1), some (.int (v2 + 1)), none, none, none]) k_176_69 rfl rfl (by decide) rfl) ?_
    refine Eq.trans (ev_goto (pc := 72) k_176_72.1 rfl k_176_72.2) ?_
    exact ev_mk kd_176_4 rfl

set_option maxRecDepth 100000 in
theorem E_Mo_morning_77 (sc : zSc) (d : Nat) (h : zHp) (v1 : Int32) (v2 : Int32) : zE sc (d + 1) 176 77 [some (.ref 46), some (.int v1), some (.int v2), none, none, none] [] zGL h = (if v2 < (h.1 46 3) then (if zin v2 5 = true then (zBi (zRun sc d 128 [.ref 46, .int (h.1 51 v2.toNatClampNeg), .int (h.1 46 5)] zGL h) zGL fun x1 h1 => (if zin v2 5 = true then (if x1 = (h1.1 52 v2.toNatClampNeg) then zE sc (d + 1) 176 118 [some (.ref 46), none, some (.int v2), some (.int x1), none, none] [.int 0, .int v1] zGL h1 else zE sc (d + 1) 176 118 [some (.ref 46), none, some (.int v2), some (.int x1), none, none] [.int ((1 : Int32) <<< (v2 &&& 31)), .int v1] zGL h1) else none)) else none) else zE sc (d + 1) 176 135 [some (.ref 46), some (.int v1), some (.int 0), none, none, none] [] zGL h) := by
  refine Eq.trans (ev_iload_n (pc := 77) k_176_77 rfl rfl) ?_
  refine Eq.trans (ev_aload_n (pc := 78) (x := 46) k_176_78 rfl rfl (by decide)) ?_
  refine Eq.trans (ev_getI (pc := 79) k_176_79 rfl zo_46.1) ?_
  refine Eq.trans (ev_icge (pc := 82) k_176_82.1 rfl k_176_82.2) (z_ite ?_ ?_)
  · refine Eq.trans (ev_aload_n (pc := 85) (x := 46) k_176_85 rfl rfl (by decide)) ?_
    refine Eq.trans (ev_aload_n (pc := 86) (x := 46) k_176_86 rfl rfl (by decide)) ?_
    refine Eq.trans (ev_getR (pc := 87) (b := 51) k_176_87 rfl zo_46.1 zg_46_8) ?_
    refine Eq.trans (ev_iload_n (pc := 90) k_176_90 rfl rfl) ?_
    refine Eq.trans (ev_iald_c (pc := 91) k_176_91 rfl za_51) (z_it1 ?_)
    refine Eq.trans (ev_aload_n (pc := 92) (x := 46) k_176_92 rfl rfl (by decide)) ?_
    refine Eq.trans (ev_getI (pc := 93) k_176_93 rfl zo_46.1) ?_
    refine Eq.trans (ev_vi (pc := 96) (as := [.int (h.1 51 v2.toNatClampNeg), .int (h.1 46 5)]) (rest := []) k_176_96 rfl zo_46 rfl rfl (Nat.le_of_ble_eq_true rfl) (Nat.le_of_ble_eq_true rfl)) (z_cbi fun x1 h1 => ?_)
    refine Eq.trans (ev_istore_n (pc := 99) (lv' := [some (.ref 46), some (.int v1), some (.int v2), some (.int x1), none, none]) k_176_99 rfl (Nat.le_of_ble_eq_true rfl) rfl) ?_
    refine Eq.trans (ev_iload_n (pc := 100) k_176_100 rfl rfl) ?_
    refine Eq.trans (ev_iload_n (pc := 101) k_176_101 rfl rfl) ?_
    refine Eq.trans (ev_aload_n (pc := 102) (x := 46) k_176_102 rfl rfl (by decide)) ?_
    refine Eq.trans (ev_getR (pc := 103) (b := 52) k_176_103 rfl zo_46.1 zg_46_9) ?_
    refine Eq.trans (ev_iload_n (pc := 106) k_176_106 rfl rfl) ?_
    refine Eq.trans (ev_iald_c (pc := 107) k_176_107 rfl za_52) (z_it1 ?_)
    refine Eq.trans (ev_icne (pc := 108) k_176_108.1 rfl k_176_108.2) (z_ite ?_ ?_)
    · refine Eq.trans (ev_iconst (pc := 111) (v := 0) k_176_111 rfl (by decide)) ?_
      refine Eq.trans (ev_goto (pc := 112) k_176_112.1 rfl k_176_112.2) ?_
      exact ev_mk kd_176_118 rfl
    · refine Eq.trans (ev_iconst (pc := 115) (v := 1) k_176_115 rfl (by decide)) ?_
      refine Eq.trans (ev_iload_n (pc := 116) k_176_116 rfl rfl) ?_
      refine Eq.trans (ev_ishl (pc := 117) k_176_117 rfl) ?_
      exact ev_mk kd_176_118 rfl
  · refine Eq.trans (ev_iconst (pc := 133) (v := 0) k_176_133 rfl (by decide)) ?_
    refine Eq.trans (ev_istore_n (pc := 134) (lv' := [some (.ref 46), some (.int v1), some (.int 0), none, none, none]) k_176_134 rfl (Nat.le_of_ble_eq_true rfl) rfl) ?_
    exact ev_mk kd_176_135 rfl

set_option maxRecDepth 100000 in
theorem E_Mo_morning_118 (sc : zSc) (d : Nat) (h : zHp) (v2 : Int32) (v3 : Int32) (s0 : Int32) (s1 : Int32) : zE sc (d + 1) 176 118 [some (.ref 46), none, some (.int v2), some (.int v3), none, none] [.int s0, .int s1] zGL h = (if zin v2 5 = true then zE sc (d + 1) 176 77 [some (.ref 46), some (.int (s1 ||| s0)), some (.int (v2 + 1)), none, none, none] [] zGL (zPI h 52 v2.toNatClampNeg v3) else none) := by
  refine Eq.trans (ev_ior (pc := 118) k_176_118 rfl) ?_
  refine Eq.trans (ev_istore_n (pc := 119) (lv' := [some (.ref 46), some (.int (s1 ||| s0)), some (.int v2), some (.int v3), none, none]) k_176_119 rfl (Nat.le_of_ble_eq_true rfl) rfl) ?_
  refine Eq.trans (ev_aload_n (pc := 120) (x := 46) k_176_120 rfl rfl (by decide)) ?_
  refine Eq.trans (ev_getR (pc := 121) (b := 52) k_176_121 rfl zo_46.1 zg_46_9) ?_
  refine Eq.trans (ev_iload_n (pc := 124) k_176_124 rfl rfl) ?_
  refine Eq.trans (ev_iload_n (pc := 125) k_176_125 rfl rfl) ?_
  refine Eq.trans (ev_iast_c (pc := 126) k_176_126 rfl za_52) (z_it1 ?_)
  refine Eq.trans (ev_iinc (pc := 127) (v := 1) (lv' := [some (.ref 46), some (.int (s1 ||| s0)), some (.int (v2 + 1)), some (.int v3), none, none]) k_176_127 rfl rfl (by decide) rfl) ?_
  refine Eq.trans (ev_goto (pc := 130) k_176_130.1 rfl k_176_130.2) ?_
  exact ev_mk kd_176_77 rfl

set_option maxRecDepth 100000 in
theorem E_Mo_morning_135 (sc : zSc) (d : Nat) (h : zHp) (v1 : Int32) (v2 : Int32) : zE sc (d + 1) 176 135 [some (.ref 46), some (.int v1), some (.int v2), none, none, none] [] zGL h = (if v2 < (25 : Int32) then (if zin v2 25 = true then (if zin (v2 - v2 / (5 : Int32) * (5 : Int32)) 5 = true then (zBj (zRun sc d 130 [.ref 46, .int ((zPL h 53 v2.toNatClampNeg 0).1 52 (v2 - v2 / (5 : Int32) * (5 : Int32)).toNatClampNeg)] zGL (zPL h 53 v2.toNatClampNeg 0)) zGL fun x1 h1 => zE sc (d + 1) 176 164 [some (.ref 46), some (.int v1), some (.int v2), some (.long x1), none, some (.int 0)] [] zGL h1) else none) else none) else some (some (.int v1), zGL, zPI h 46 12 0)) := by
  refine Eq.trans (ev_iload_n (pc := 135) k_176_135 rfl rfl) ?_
  refine Eq.trans (ev_bipush (pc := 136) (v := 25) k_176_136 rfl (by decide)) ?_
  refine Eq.trans (ev_icge (pc := 138) k_176_138.1 rfl k_176_138.2) (z_ite ?_ ?_)
  · refine Eq.trans (ev_aload_n (pc := 141) (x := 46) k_176_141 rfl rfl (by decide)) ?_
    refine Eq.trans (ev_getR (pc := 142) (b := 53) k_176_142 rfl zo_46.1 zg_46_10) ?_
    refine Eq.trans (ev_iload_n (pc := 145) k_176_145 rfl rfl) ?_
    refine Eq.trans (ev_lconst (pc := 146) (v := 0) k_176_146 rfl (by decide)) ?_
    refine Eq.trans (ev_last_c (pc := 147) k_176_147 rfl za_53) (z_it1 ?_)
    refine Eq.trans (ev_aload_n (pc := 148) (x := 46) k_176_148 rfl rfl (by decide)) ?_
    refine Eq.trans (ev_aload_n (pc := 149) (x := 46) k_176_149 rfl rfl (by decide)) ?_
    refine Eq.trans (ev_getR (pc := 150) (b := 52) k_176_150 rfl zo_46.1 zg_46_9) ?_
    refine Eq.trans (ev_iload_n (pc := 153) k_176_153 rfl rfl) ?_
    refine Eq.trans (ev_iconst (pc := 154) (v := 5) k_176_154 rfl (by decide)) ?_
    refine Eq.trans (ev_irem (pc := 155) k_176_155 rfl (by decide)) ?_
    refine Eq.trans (ev_iald_c (pc := 156) k_176_156 rfl za_52) (z_it1 ?_)
    refine Eq.trans (ev_vj (pc := 157) (as := [.int ((zPL h 53 v2.toNatClampNeg 0).1 52 (v2 - v2 / (5 : Int32) * (5 : Int32)).toNatClampNeg)]) (rest := []) k_176_157 rfl zo_46 rfl rfl (Nat.le_of_ble_eq_true rfl) (Nat.le_of_ble_eq_true rfl)) (z_cbj fun x1 h1 => ?_)
    refine Eq.trans (ev_lstore_n (pc := 160) (lv' := [some (.ref 46), some (.int v1), some (.int v2), some (.long x1), none, none]) k_176_160 rfl (Nat.le_of_ble_eq_true rfl) rfl) ?_
    refine Eq.trans (ev_iconst (pc := 161) (v := 0) k_176_161 rfl (by decide)) ?_
    refine Eq.trans (ev_istore (pc := 162) (lv' := [some (.ref 46), some (.int v1), some (.int v2), some (.long x1), none, some (.int 0)]) k_176_162 rfl (Nat.le_of_ble_eq_true rfl) rfl) ?_
    exact ev_mk kd_176_164 rfl
  · refine Eq.trans (ev_aload_n (pc := 220) (x := 46) k_176_220 rfl rfl (by decide)) ?_
    refine Eq.trans (ev_iconst (pc := 221) (v := 0) k_176_221 rfl (by decide)) ?_
    refine Eq.trans (ev_putI (pc := 222) k_176_222 rfl zo_46.1) ?_
    refine Eq.trans (ev_iload_n (pc := 225) k_176_225 rfl rfl) ?_
    exact ev_ret_int k_176_226 rfl rt_176

set_option maxRecDepth 100000 in
theorem E_Mo_morning_164 (sc : zSc) (d : Nat) (h : zHp) (v1 : Int32) (v2 : Int32) (w3 : Int64) (v5 : Int32) : zE sc (d + 1) 176 164 [some (.ref 46), some (.int v1), some (.int v2), some (.long w3), none, some (.int v5)] [] zGL h = (if v5 < ((1 : Int32) <<< ((h.1 46 0) &&& 31)) then (if zin v2 25 = true then (if zin v2 25 = true then (if ((h.1 60 v2.toNatClampNeg) &&& (v5 ^^^ ((-1) : Int32))) = 0 then (if zin v2 25 = true then zE sc (d + 1) 176 164 [some (.ref 46), some (.int v1), some (.int v2), some (.long w3), none, some (.int (v5 + 1))] [] zGL (zPL h 53 v2.toNatClampNeg ((h.2.1 53 v2.toNatClampNeg) ||| (w3 &&& ((1 : Int64) <<< (v5.toInt64 &&& 63))))) else none) else (if zin v2 25 = true then zE sc (d + 1) 176 164 [some (.ref 46), some (.int v1), some (.int v2), some (.long w3), none, some (.int (v5 + 1))] [] zGL (zPL h 53 v2.toNatClampNeg ((h.2.1 53 v2.toNatClampNeg) ||| (0 : Int64))) else none)) else none) else none) else zE sc (d + 1) 176 135 [some (.ref 46), some (.int v1), some (.int (v2 + 1)), none, none, none] [] zGL h) := by
  refine Eq.trans (ev_iload (pc := 164) k_176_164 rfl rfl) ?_
  refine Eq.trans (ev_iconst (pc := 166) (v := 1) k_176_166 rfl (by decide)) ?_
  refine Eq.trans (ev_aload_n (pc := 167) (x := 46) k_176_167 rfl rfl (by decide)) ?_
  refine Eq.trans (ev_getI (pc := 168) k_176_168 rfl zo_46.1) ?_
  refine Eq.trans (ev_ishl (pc := 171) k_176_171 rfl) ?_
  refine Eq.trans (ev_icge (pc := 172) k_176_172.1 rfl k_176_172.2) (z_ite ?_ ?_)
  · refine Eq.trans (ev_aload_n (pc := 175) (x := 46) k_176_175 rfl rfl (by decide)) ?_
    refine Eq.trans (ev_getR (pc := 176) (b := 53) k_176_176 rfl zo_46.1 zg_46_10) ?_
    refine Eq.trans (ev_iload_n (pc := 179) k_176_179 rfl rfl) ?_
    refine Eq.trans (ev_dup2 (pc := 180) k_176_180 rfl rfl rfl) ?_
    refine Eq.trans (ev_lald_c (pc := 181) k_176_181 rfl za_53) (z_it1 ?_)
    refine Eq.trans (ev_aload_n (pc := 182) (x := 46) k_176_182 rfl rfl (by decide)) ?_
    refine Eq.trans (ev_getR (pc := 183) (b := 60) k_176_183 rfl zo_46.1 zg_46_29) ?_
    refine Eq.trans (ev_iload_n (pc := 186) k_176_186 rfl rfl) ?_
    refine Eq.trans (ev_iald_c (pc := 187) k_176_187 rfl za_60) (z_it1 ?_)
    refine Eq.trans (ev_iload (pc := 188) k_176_188 rfl rfl) ?_
    refine Eq.trans (ev_iconst (pc := 190) (v := (-1)) k_176_190 rfl (by decide)) ?_
    refine Eq.trans (ev_ixor (pc := 191) k_176_191 rfl) ?_
    refine Eq.trans (ev_iand (pc := 192) k_176_192 rfl) ?_
    refine Eq.trans (ev_ifne (pc := 193) k_176_193.1 rfl k_176_193.2) (z_ite ?_ ?_)
    · refine Eq.trans (ev_lload_n (pc := 196) k_176_196 rfl rfl) ?_
      refine Eq.trans (ev_lconst (pc := 197) (v := 1) k_176_197 rfl (by decide)) ?_
      refine Eq.trans (ev_iload (pc := 198) k_176_198 rfl rfl) ?_
      refine Eq.trans (ev_lshl (pc := 200) k_176_200 rfl) ?_
      refine Eq.trans (ev_land (pc := 201) k_176_201 rfl) ?_
      refine Eq.trans (ev_goto (pc := 202) k_176_202.1 rfl k_176_202.2) ?_
      refine Eq.trans (ev_lor (pc := 206) k_176_206 rfl) ?_
      refine Eq.trans (ev_last_c (pc := 207) k_176_207 rfl za_53) (z_it1 ?_)
      refine Eq.trans (ev_iinc (pc := 208) (v := 1) (lv' := [some (.ref 46), some (.int v1), some (.int v2), some (.long w3), none, some (.int (v5 + 1))]) k_176_208 rfl rfl (by decide) rfl) ?_
      refine Eq.trans (ev_goto (pc := 211) k_176_211.1 rfl k_176_211.2) ?_
      exact ev_mk kd_176_164 rfl
    · refine Eq.trans (ev_lconst (pc := 205) (v := 0) k_176_205 rfl (by decide)) ?_
      refine Eq.trans (ev_lor (pc := 206) k_176_206 rfl) ?_
      refine Eq.trans (ev_last_c (pc := 207) k_176_207 rfl za_53) (z_it1 ?_)
      refine Eq.trans (ev_iinc (pc := 208) (v := 1) (lv' := [some (.ref 46), some (.int v1), some (.int v2), some (.long w3), none, some (.int (v5 + 1))]) k_176_208 rfl rfl (by decide) rfl) ?_
      refine Eq.trans (ev_goto (pc := 211) k_176_211.1 rfl k_176_211.2) ?_
      exact ev_mk kd_176_164 rfl
  · refine Eq.trans (ev_iinc (pc := 214) (v := 1) (lv' := [some (.ref 46), some (.int v1), some (.int (v2 + 1)), some (.long w3), none, some (.int v5)]) k_176_214 rfl rfl (by decide) rfl) ?_
    refine Eq.trans (ev_goto (pc := 217) k_176_217.1 rfl k_176_217.2) ?_
    exact ev_mk kd_176_135 rfl

set_option maxRecDepth 100000 in
theorem E_Mo_party (sc : zSc) (d : Nat) (h : zHp) (v1 : Int32) : zRun sc (d + 1) 177 [.ref 46, .int v1] zGL h = (zBi (zRun sc d 155 [.ref 46, .int v1] zGL h) zGL fun x1 h1 => (if x1 = 0 then some (some (.int (-1000000001)), zGL, h1) else zE sc (d + 1) 177 13 [some (.ref 46), some (.int v1), some (.int 0)] [] zGL h1)) := by
  have he : zEnt 177 [.ref 46, .int v1] = [some (.ref 46), some (.int v1), none] := by unfold zEnt; rw [ml_177]; rfl
  unfold zRun
  rw [he]
  refine Eq.trans (ev_aload_n (pc := 0) (x := 46) k_177_0 rfl rfl (by decide)) ?_
  refine Eq.trans (ev_iload_n (pc := 1) k_177_1 rfl rfl) ?_
  refine Eq.trans (ev_vi (pc := 2) (as := [.int v1]) (rest := []) k_177_2 rfl zo_46 rfl rfl (Nat.le_of_ble_eq_true rfl) (Nat.le_of_ble_eq_true rfl)) (z_cbi fun x1 h1 => ?_)
  refine Eq.trans (ev_ifne (pc := 5) k_177_5.1 rfl k_177_5.2) (z_ite ?_ ?_)
  · refine Eq.trans (ev_ldc (pc := 8) (v := (-1000000001)) k_177_8 rfl) ?_
    exact ev_ret_int k_177_10 rfl rt_177
  · refine Eq.trans (ev_iconst (pc := 11) (v := 0) k_177_11 rfl (by decide)) ?_
    refine Eq.trans (ev_istore_n (pc := 12) (lv' := [some (.ref 46), some (.int v1), some (.int 0)]) k_177_12 rfl (Nat.le_of_ble_eq_true rfl) rfl) ?_
    exact ev_mk kd_177_13 rfl

set_option maxRecDepth 100000 in
theorem E_Mo_party_13 (sc : zSc) (d : Nat) (h : zHp) (v1 : Int32) (v2 : Int32) : zE sc (d + 1) 177 13 [some (.ref 46), some (.int v1), some (.int v2)] [] zGL h = (zBi (zRun sc d 178 [.ref 46, .int v1] zGL h) zGL fun x1 h1 => (if x1 = 0 then some (some (.int v2), zGL, h1) else zE sc (d + 1) 177 13 [some (.ref 46), some (.int v1), some (.int (v2 + 1))] [] zGL h1)) := by
  refine Eq.trans (ev_aload_n (pc := 13) (x := 46) k_177_13 rfl rfl (by decide)) ?_
  refine Eq.trans (ev_iload_n (pc := 14) k_177_14 rfl rfl) ?_
  refine Eq.trans (ev_vi (pc := 15) (as := [.int v1]) (rest := []) k_177_15 rfl zo_46 rfl rfl (Nat.le_of_ble_eq_true rfl) (Nat.le_of_ble_eq_true rfl)) (z_cbi fun x1 h1 => ?_)
  refine Eq.trans (ev_ifeq (pc := 18) k_177_18.1 rfl k_177_18.2) (z_ite ?_ ?_)
  · refine Eq.trans (ev_iload_n (pc := 27) k_177_27 rfl rfl) ?_
    exact ev_ret_int k_177_28 rfl rt_177
  · refine Eq.trans (ev_iinc (pc := 21) (v := 1) (lv' := [some (.ref 46), some (.int v1), some (.int (v2 + 1))]) k_177_21 rfl rfl (by decide) rfl) ?_
    refine Eq.trans (ev_goto (pc := 24) k_177_24.1 rfl k_177_24.2) ?_
    exact ev_mk kd_177_13 rfl

set_option maxRecDepth 100000 in
theorem E_Mo_partyOn (sc : zSc) (d : Nat) (h : zHp) (v1 : Int32) : zRun sc (d + 1) 178 [.ref 46, .int v1] zGL h = zE sc (d + 1) 178 2 [some (.ref 46), some (.int v1), some (.int 0), none, none, none, none, none] [] zGL h := by
  have he : zEnt 178 [.ref 46, .int v1] = [some (.ref 46), some (.int v1), none, none, none, none, none, none] := by unfold zEnt; rw [ml_178]; rfl
  unfold zRun
  rw [he]
  refine Eq.trans (ev_iconst (pc := 0) (v := 0) k_178_0 rfl (by decide)) ?_
  refine Eq.trans (ev_istore_n (pc := 1) (lv' := [some (.ref 46), some (.int v1), some (.int 0), none, none, none, none, none]) k_178_1 rfl (Nat.le_of_ble_eq_true rfl) rfl) ?_
  exact ev_mk kd_178_2 rfl

set_option maxRecDepth 100000 in
theorem E_Mo_partyOn_2 (sc : zSc) (d : Nat) (h : zHp) (v1 : Int32) (v2 : Int32) : zE sc (d + 1) 178 2 [some (.ref 46), some (.int v1), some (.int v2), none, none, none, none, none] [] zGL h = (if v2 < ((h.1 46 3) * (h.1 46 3)) then (if (h.1 46 3) = 0 then none else (if (h.1 46 3) = 0 then none else (if (v2 / (h.1 46 3)) = (v2 - v2 / (h.1 46 3) * (h.1 46 3)) then zE sc (d + 1) 178 49 [some (.ref 46), some (.int v1), some (.int v2), some (.int (v2 / (h.1 46 3))), some (.int (v2 - v2 / (h.1 46 3) * (h.1 46 3))), none, none, none] [.int 0] zGL h else (zBi (zRun sc d 165 [.ref 46, .int (v2 / (h.1 46 3)), .int (v2 - v2 / (h.1 46 3) * (h.1 46 3))] zGL h) zGL fun x1 h1 => zE sc (d + 1) 178 49 [some (.ref 46), some (.int v1), some (.int v2), some (.int (v2 / (h.1 46 3))), some (.int (v2 - v2 / (h.1 46 3) * (h.1 46 3))), none, none, none] [.int (x1 &&& v1)] zGL h1)))) else some (some (.int 0), zGL, h)) := by
  refine Eq.trans (ev_iload_n (pc := 2) k_178_2 rfl rfl) ?_
  refine Eq.trans (ev_aload_n (pc := 3) (x := 46) k_178_3 rfl rfl (by decide)) ?_
  refine Eq.trans (ev_getI (pc := 4) k_178_4 rfl zo_46.1) ?_
  refine Eq.trans (ev_aload_n (pc := 7) (x := 46) k_178_7 rfl rfl (by decide)) ?_
  refine Eq.trans (ev_getI (pc := 8) k_178_8 rfl zo_46.1) ?_
  refine Eq.trans (ev_imul (pc := 11) k_178_11 rfl) ?_
  refine Eq.trans (ev_icge (pc := 12) k_178_12.1 rfl k_178_12.2) (z_ite ?_ ?_)
  · refine Eq.trans (ev_iload_n (pc := 15) k_178_15 rfl rfl) ?_
    refine Eq.trans (ev_aload_n (pc := 16) (x := 46) k_178_16 rfl rfl (by decide)) ?_
    refine Eq.trans (ev_getI (pc := 17) k_178_17 rfl zo_46.1) ?_
    refine Eq.trans (ev_idiv_c (pc := 20) k_178_20 rfl) (z_it2 ?_)
    refine Eq.trans (ev_istore_n (pc := 21) (lv' := [some (.ref 46), some (.int v1), some (.int v2), some (.int (v2 / (h.1 46 3))), none, none, none, none]) k_178_21 rfl (Nat.le_of_ble_eq_true rfl) rfl) ?_
    refine Eq.trans (ev_iload_n (pc := 22) k_178_22 rfl rfl) ?_
    refine Eq.trans (ev_aload_n (pc := 23) (x := 46) k_178_23 rfl rfl (by decide)) ?_
    refine Eq.trans (ev_getI (pc := 24) k_178_24 rfl zo_46.1) ?_
    refine Eq.trans (ev_irem_c (pc := 27) k_178_27 rfl) (z_it2 ?_)
    refine Eq.trans (ev_istore (pc := 28) (lv' := [some (.ref 46), some (.int v1), some (.int v2), some (.int (v2 / (h.1 46 3))), some (.int (v2 - v2 / (h.1 46 3) * (h.1 46 3))), none, none, none]) k_178_28 rfl (Nat.le_of_ble_eq_true rfl) rfl) ?_
    refine Eq.trans (ev_iload_n (pc := 30) k_178_30 rfl rfl) ?_
    refine Eq.trans (ev_iload (pc := 31) k_178_31 rfl rfl) ?_
    refine Eq.trans (ev_icne (pc := 33) k_178_33.1 rfl k_178_33.2) (z_ite ?_ ?_)
    · refine Eq.trans (ev_iconst (pc := 36) (v := 0) k_178_36 rfl (by decide)) ?_
      refine Eq.trans (ev_goto (pc := 37) k_178_37.1 rfl k_178_37.2) ?_
      exact ev_mk kd_178_49 rfl
    · refine Eq.trans (ev_aload_n (pc := 40) (x := 46) k_178_40 rfl rfl (by decide)) ?_
      refine Eq.trans (ev_iload_n (pc := 41) k_178_41 rfl rfl) ?_
      refine Eq.trans (ev_iload (pc := 42) k_178_42 rfl rfl) ?_
      refine Eq.trans (ev_vi (pc := 44) (as := [.int (v2 / (h.1 46 3)), .int (v2 - v2 / (h.1 46 3) * (h.1 46 3))]) (rest := []) k_178_44 rfl zo_46 rfl rfl (Nat.le_of_ble_eq_true rfl) (Nat.le_of_ble_eq_true rfl)) (z_cbi fun x1 h1 => ?_)
      refine Eq.trans (ev_iload_n (pc := 47) k_178_47 rfl rfl) ?_
      refine Eq.trans (ev_iand (pc := 48) k_178_48 rfl) ?_
      exact ev_mk kd_178_49 rfl
  · refine Eq.trans (ev_iconst (pc := 115) (v := 0) k_178_115 rfl (by decide)) ?_
    exact ev_ret_b1 k_178_116 rfl rt_178 (by decide)

set_option maxRecDepth 100000 in
theorem E_Mo_partyOn_49 (sc : zSc) (d : Nat) (h : zHp) (v1 : Int32) (v2 : Int32) (v3 : Int32) (v4 : Int32) (s0 : Int32) : zE sc (d + 1) 178 49 [some (.ref 46), some (.int v1), some (.int v2), some (.int v3), some (.int v4), none, none, none] [.int s0] zGL h = (if s0 = 0 then zE sc (d + 1) 178 2 [some (.ref 46), some (.int v1), some (.int (v2 + 1)), none, none, none, none, none] [] zGL h else zE sc (d + 1) 178 59 [some (.ref 46), none, none, some (.int v3), some (.int v4), some (.int s0), some (.int 0), none] [] zGL h) := by
  refine Eq.trans (ev_istore (pc := 49) (lv' := [some (.ref 46), some (.int v1), some (.int v2), some (.int v3), some (.int v4), some (.int s0), none, none]) k_178_49 rfl (Nat.le_of_ble_eq_true rfl) rfl) ?_
  refine Eq.trans (ev_iload (pc := 51) k_178_51 rfl rfl) ?_
  refine Eq.trans (ev_ifeq (pc := 53) k_178_53.1 rfl k_178_53.2) (z_ite ?_ ?_)
  · refine Eq.trans (ev_iinc (pc := 109) (v := 1) (lv' := [some (.ref 46), some (.int v1), some (.int (v2 + 1)), some (.int v3), some (.int v4), some (.int s0), none, none]) k_178_109 rfl rfl (by decide) rfl) ?_
    refine Eq.trans (ev_goto (pc := 112) k_178_112.1 rfl k_178_112.2) ?_
    exact ev_mk kd_178_2 rfl
  · refine Eq.trans (ev_iconst (pc := 56) (v := 0) k_178_56 rfl (by decide)) ?_
    refine Eq.trans (ev_istore (pc := 57) (lv' := [some (.ref 46), some (.int v1), some (.int v2), some (.int v3), some (.int v4), some (.int s0), some (.int 0), none]) k_178_57 rfl (Nat.le_of_ble_eq_true rfl) rfl) ?_
    exact ev_mk kd_178_59 rfl

set_option maxRecDepth 100000 in
theorem E_Mo_partyOn_59 (sc : zSc) (d : Nat) (h : zHp) (v3 : Int32) (v4 : Int32) (v5 : Int32) (v6 : Int32) : zE sc (d + 1) 178 59 [some (.ref 46), none, none, some (.int v3), some (.int v4), some (.int v5), some (.int v6), none] [] zGL h = (zBi (zRun sc d 129 [.int v5, .int v6] zGL h) zGL fun x1 h1 => (if x1 = 0 then zE sc (d + 1) 178 59 [some (.ref 46), none, none, some (.int v3), some (.int v4), some (.int v5), some (.int (v6 + 1)), none] [] zGL h1 else (zBi (zRun sc d 172 [.ref 46, .int v3, .int v4, .int v6, .int (((((1 : Int32) <<< ((h1.1 46 3) &&& 31)) - (1 : Int32)) &&& (((1 : Int32) <<< (v3 &&& 31)) ^^^ ((-1) : Int32))) &&& (((1 : Int32) <<< (v4 &&& 31)) ^^^ ((-1) : Int32)))] zGL h1) zGL fun x2 h2 => some (some (.int 1), zGL, h2)))) := by
  refine Eq.trans (ev_iload (pc := 59) k_178_59 rfl rfl) ?_
  refine Eq.trans (ev_iload (pc := 61) k_178_61 rfl rfl) ?_
  refine Eq.trans (ev_si (pc := 63) (as := [.int v5, .int v6]) (rest := []) k_178_63 rfl rfl rfl (Nat.le_of_ble_eq_true rfl) (Nat.le_of_ble_eq_true rfl)) (z_cbi fun x1 h1 => ?_)
  refine Eq.trans (ev_ifne (pc := 66) k_178_66.1 rfl k_178_66.2) (z_ite ?_ ?_)
  · refine Eq.trans (ev_iinc (pc := 69) (v := 1) (lv' := [some (.ref 46), none, none, some (.int v3), some (.int v4), some (.int v5), some (.int (v6 + 1)), none]) k_178_69 rfl rfl (by decide) rfl) ?_
    refine Eq.trans (ev_goto (pc := 72) k_178_72.1 rfl k_178_72.2) ?_
    exact ev_mk kd_178_59 rfl
  · refine Eq.trans (ev_aload_n (pc := 75) (x := 46) k_178_75 rfl rfl (by decide)) ?_
    refine Eq.trans (ev_iload_n (pc := 76) k_178_76 rfl rfl) ?_
    refine Eq.trans (ev_iload (pc := 77) k_178_77 rfl rfl) ?_
    refine Eq.trans (ev_iload (pc := 79) k_178_79 rfl rfl) ?_
    refine Eq.trans (ev_iconst (pc := 81) (v := 1) k_178_81 rfl (by decide)) ?_
    refine Eq.trans (ev_aload_n (pc := 82) (x := 46) k_178_82 rfl rfl (by decide)) ?_
    refine Eq.trans (ev_getI (pc := 83) k_178_83 rfl zo_46.1) ?_
    refine Eq.trans (ev_ishl (pc := 86) k_178_86 rfl) ?_
    refine Eq.trans (ev_iconst (pc := 87) (v := 1) k_178_87 rfl (by decide)) ?_
    refine Eq.trans (ev_isub (pc := 88) k_178_88 rfl) ?_
    refine Eq.trans (ev_iconst (pc := 89) (v := 1) k_178_89 rfl (by decide)) ?_
    refine Eq.trans (ev_iload_n (pc := 90) k_178_90 rfl rfl) ?_
    refine Eq.trans (ev_ishl (pc := 91) k_178_91 rfl) ?_
    refine Eq.trans (ev_iconst (pc := 92) (v := (-1)) k_178_92 rfl (by decide)) ?_
    refine Eq.trans (ev_ixor (pc := 93) k_178_93 rfl) ?_
    refine Eq.trans (ev_iand (pc := 94) k_178_94 rfl) ?_
    refine Eq.trans (ev_iconst (pc := 95) (v := 1) k_178_95 rfl (by decide)) ?_
    refine Eq.trans (ev_iload (pc := 96) k_178_96 rfl rfl) ?_
    refine Eq.trans (ev_ishl (pc := 98) k_178_98 rfl) ?_
    refine Eq.trans (ev_iconst (pc := 99) (v := (-1)) k_178_99 rfl (by decide)) ?_
    refine Eq.trans (ev_ixor (pc := 100) k_178_100 rfl) ?_
    refine Eq.trans (ev_iand (pc := 101) k_178_101 rfl) ?_
    refine Eq.trans (ev_vi (pc := 102) (as := [.int v3, .int v4, .int v6, .int (((((1 : Int32) <<< ((h1.1 46 3) &&& 31)) - (1 : Int32)) &&& (((1 : Int32) <<< (v3 &&& 31)) ^^^ ((-1) : Int32))) &&& (((1 : Int32) <<< (v4 &&& 31)) ^^^ ((-1) : Int32)))]) (rest := []) k_178_102 rfl zo_46 rfl rfl (Nat.le_of_ble_eq_true rfl) (Nat.le_of_ble_eq_true rfl)) (z_cbi fun x2 h2 => ?_)
    refine Eq.trans (ev_istore (pc := 105) (lv' := [some (.ref 46), none, none, some (.int v3), some (.int v4), some (.int v5), some (.int v6), some (.int x2)]) k_178_105 rfl (Nat.le_of_ble_eq_true rfl) rfl) ?_
    refine Eq.trans (ev_iconst (pc := 107) (v := 1) k_178_107 rfl (by decide)) ?_
    exact ev_ret_b1 k_178_108 rfl rt_178 (by decide)

set_option maxRecDepth 100000 in
theorem E_Mo_plan (sc : zSc) (d : Nat) (h : zHp) (v1 : Int32) (v2 : Int32) (v3 : Int32) : zRun sc (d + 1) 179 [.ref 46, .int v1, .int v2, .int v3] zGL h = (zBi (zRun sc d 157 [.ref 46, .int v1, .int v2] zGL h) zGL fun x1 h1 => (if x1 = 0 then some (some (.int (-1000000001)), zGL, h1) else (if zin v1 5 = true then (if zin v2 5 = true then (if zin (((5 : Int32) * v1) + v2) 25 = true then (if zin (((5 : Int32) * v2) + v1) 25 = true then zE sc (d + 1) 179 71 [some (.ref 46), some (.int v1), some (.int v2), some (.int v3), some (.int 0), none] [] zGL (zPL (zPL (zPI (zPI h1 61 0 (h1.1 51 v1.toNatClampNeg)) 62 0 ((zPI h1 61 0 (h1.1 51 v1.toNatClampNeg)).1 51 v2.toNatClampNeg)) 63 0 ((zPI (zPI h1 61 0 (h1.1 51 v1.toNatClampNeg)) 62 0 ((zPI h1 61 0 (h1.1 51 v1.toNatClampNeg)).1 51 v2.toNatClampNeg)).2.1 53 (((5 : Int32) * v1) + v2).toNatClampNeg)) 64 0 ((zPL (zPI (zPI h1 61 0 (h1.1 51 v1.toNatClampNeg)) 62 0 ((zPI h1 61 0 (h1.1 51 v1.toNatClampNeg)).1 51 v2.toNatClampNeg)) 63 0 ((zPI (zPI h1 61 0 (h1.1 51 v1.toNatClampNeg)) 62 0 ((zPI h1 61 0 (h1.1 51 v1.toNatClampNeg)).1 51 v2.toNatClampNeg)).2.1 53 (((5 : Int32) * v1) + v2).toNatClampNeg)).2.1 53 (((5 : Int32) * v2) + v1).toNatClampNeg)) else none) else none) else none) else none))) := by
  have he : zEnt 179 [.ref 46, .int v1, .int v2, .int v3] = [some (.ref 46), some (.int v1), some (.int v2), some (.int v3), none, none] := by unfold zEnt; rw [ml_179]; rfl
  unfold zRun
  rw [he]
  refine Eq.trans (ev_aload_n (pc := 0) (x := 46) k_179_0 rfl rfl (by decide)) ?_
  refine Eq.trans (ev_iload_n (pc := 1) k_179_1 rfl rfl) ?_
  refine Eq.trans (ev_iload_n (pc := 2) k_179_2 rfl rfl) ?_
  refine Eq.trans (ev_vi (pc := 3) (as := [.int v1, .int v2]) (rest := []) k_179_3 rfl zo_46 rfl rfl (Nat.le_of_ble_eq_true rfl) (Nat.le_of_ble_eq_true rfl)) (z_cbi fun x1 h1 => ?_)
  refine Eq.trans (ev_ifne (pc := 6) k_179_6.1 rfl k_179_6.2) (z_ite ?_ ?_)
  · refine Eq.trans (ev_ldc (pc := 9) (v := (-1000000001)) k_179_9 rfl) ?_
    exact ev_ret_int k_179_11 rfl rt_179
  · refine Eq.trans (ev_aload_n (pc := 12) (x := 46) k_179_12 rfl rfl (by decide)) ?_
    refine Eq.trans (ev_getR (pc := 13) (b := 61) k_179_13 rfl zo_46.1 zg_46_30) ?_
    refine Eq.trans (ev_iconst (pc := 16) (v := 0) k_179_16 rfl (by decide)) ?_
    refine Eq.trans (ev_aload_n (pc := 17) (x := 46) k_179_17 rfl rfl (by decide)) ?_
    refine Eq.trans (ev_getR (pc := 18) (b := 51) k_179_18 rfl zo_46.1 zg_46_8) ?_
    refine Eq.trans (ev_iload_n (pc := 21) k_179_21 rfl rfl) ?_
    refine Eq.trans (ev_iald_c (pc := 22) k_179_22 rfl za_51) (z_it1 ?_)
    refine Eq.trans (ev_iast_k (pc := 23) (m := 0) k_179_23 rfl za_61 (by decide)) ?_
    refine Eq.trans (ev_aload_n (pc := 24) (x := 46) k_179_24 rfl rfl (by decide)) ?_
    refine Eq.trans (ev_getR (pc := 25) (b := 62) k_179_25 rfl zo_46.1 zg_46_31) ?_
    refine Eq.trans (ev_iconst (pc := 28) (v := 0) k_179_28 rfl (by decide)) ?_
    refine Eq.trans (ev_aload_n (pc := 29) (x := 46) k_179_29 rfl rfl (by decide)) ?_
    refine Eq.trans (ev_getR (pc := 30) (b := 51) k_179_30 rfl zo_46.1 zg_46_8) ?_
    refine Eq.trans (ev_iload_n (pc := 33) k_179_33 rfl rfl) ?_
    refine Eq.trans (ev_iald_c (pc := 34) k_179_34 rfl za_51) (z_it1 ?_)
    refine Eq.trans (ev_iast_k (pc := 35) (m := 0) k_179_35 rfl za_62 (by decide)) ?_
    refine Eq.trans (ev_aload_n (pc := 36) (x := 46) k_179_36 rfl rfl (by decide)) ?_
    refine Eq.trans (ev_getR (pc := 37) (b := 63) k_179_37 rfl zo_46.1 zg_46_32) ?_
    refine Eq.trans (ev_iconst (pc := 40) (v := 0) k_179_40 rfl (by decide)) ?_
    refine Eq.trans (ev_aload_n (pc := 41) (x := 46) k_179_41 rfl rfl (by decide)) ?_
    refine Eq.trans (ev_getR (pc := 42) (b := 53) k_179_42 rfl zo_46.1 zg_46_10) ?_
    refine Eq.trans (ev_iconst (pc := 45) (v := 5) k_179_45 rfl (by decide)) ?_
    refine Eq.trans (ev_iload_n (pc := 46) k_179_46 rfl rfl) ?_
    refine Eq.trans (ev_imul (pc := 47) k_179_47 rfl) ?_
    refine Eq.trans (ev_iload_n (pc := 48) k_179_48 rfl rfl) ?_
    refine Eq.trans (ev_iadd (pc := 49) k_179_49 rfl) ?_
    refine Eq.trans (ev_lald_c (pc := 50) k_179_50 rfl za_53) (z_it1 ?_)
    refine Eq.trans (ev_last_k (pc := 51) (m := 0) k_179_51 rfl za_63 (by decide)) ?_
    refine Eq.trans (ev_aload_n (pc := 52) (x := 46) k_179_52 rfl rfl (by decide)) ?_
    refine Eq.trans (ev_getR (pc := 53) (b := 64) k_179_53 rfl zo_46.1 zg_46_33) ?_
    refine Eq.trans (ev_iconst (pc := 56) (v := 0) k_179_56 rfl (by decide)) ?_
    refine Eq.trans (ev_aload_n (pc := 57) (x := 46) k_179_57 rfl rfl (by decide)) ?_
    refine Eq.trans (ev_getR (pc := 58) (b := 53) k_179_58 rfl zo_46.1 zg_46_10) ?_
    refine Eq.trans (ev_iconst (pc := 61) (v := 5) k_179_61 rfl (by decide)) ?_
    refine Eq.trans (ev_iload_n (pc := 62) k_179_62 rfl rfl) ?_
    refine Eq.trans (ev_imul (pc := 63) k_179_63 rfl) ?_
    refine Eq.trans (ev_iload_n (pc := 64) k_179_64 rfl rfl) ?_
    refine Eq.trans (ev_iadd (pc := 65) k_179_65 rfl) ?_
    refine Eq.trans (ev_lald_c (pc := 66) k_179_66 rfl za_53) (z_it1 ?_)
    refine Eq.trans (ev_last_k (pc := 67) (m := 0) k_179_67 rfl za_64 (by decide)) ?_
    refine Eq.trans (ev_iconst (pc := 68) (v := 0) k_179_68 rfl (by decide)) ?_
    refine Eq.trans (ev_istore (pc := 69) (lv' := [some (.ref 46), some (.int v1), some (.int v2), some (.int v3), some (.int 0), none]) k_179_69 rfl (Nat.le_of_ble_eq_true rfl) rfl) ?_
    exact ev_mk kd_179_71 rfl

set_option maxRecDepth 100000 in
theorem E_Mo_plan_71 (sc : zSc) (d : Nat) (h : zHp) (v1 : Int32) (v2 : Int32) (v3 : Int32) (v4 : Int32) : zE sc (d + 1) 179 71 [some (.ref 46), some (.int v1), some (.int v2), some (.int v3), some (.int v4), none] [] zGL h = (if (6 : Int32) < v4 then some (some (.int (-1)), zGL, h) else (if zin v1 5 = true then (if zin v2 5 = true then (zBi (zRun sc d 180 [.ref 46, .int v4, .int ((h.1 51 v1.toNatClampNeg) ||| (h.1 51 v2.toNatClampNeg))] zGL h) zGL fun x1 h1 => (if x1 = 0 then zE sc (d + 1) 179 71 [some (.ref 46), some (.int v1), some (.int v2), some (.int v3), some (.int (v4 + 1)), none] [] zGL h1 else (if v3 = ((-1) : Int32) then zE sc (d + 1) 179 121 [none, none, none, some (.int v3), some (.int v4), none] [] zGL h1 else (zBi (zRun sc d 132 [.long v3.toInt64, .long 0, .long ((((2 : Int32) * v4) - (1 : Int32)).toInt64)] zGL h1) zGL fun x2 h2 => (if x2 = 0 then zE sc (d + 1) 179 121 [none, none, none, some (.int v3), some (.int v4), none] [] zGL h2 else (if zin (v3 / (2 : Int32)) 7 = true then (if (v3 - v3 / (2 : Int32) * (2 : Int32)) = (1 : Int32) then some (some (.int ((h2.1 65 (v3 / (2 : Int32)).toNatClampNeg) - (h2.1 65 (v3 / (2 : Int32)).toNatClampNeg) / (6 : Int32) * (6 : Int32))), zGL, h2) else (if (h2.1 65 (v3 / (2 : Int32)).toNatClampNeg) < (6 : Int32) then some (some (.int v1), zGL, h2) else some (some (.int v2), zGL, h2))) else none)))))) else none) else none)) := by
  refine Eq.trans (ev_iload (pc := 71) k_179_71 rfl rfl) ?_
  refine Eq.trans (ev_bipush (pc := 73) (v := 6) k_179_73 rfl (by decide)) ?_
  refine Eq.trans (ev_icgt (pc := 75) k_179_75.1 rfl k_179_75.2) (z_ite ?_ ?_)
  · refine Eq.trans (ev_iconst (pc := 177) (v := (-1)) k_179_177 rfl (by decide)) ?_
    exact ev_ret_int k_179_178 rfl rt_179
  · refine Eq.trans (ev_aload_n (pc := 78) (x := 46) k_179_78 rfl rfl (by decide)) ?_
    refine Eq.trans (ev_iload (pc := 79) k_179_79 rfl rfl) ?_
    refine Eq.trans (ev_aload_n (pc := 81) (x := 46) k_179_81 rfl rfl (by decide)) ?_
    refine Eq.trans (ev_getR (pc := 82) (b := 51) k_179_82 rfl zo_46.1 zg_46_8) ?_
    refine Eq.trans (ev_iload_n (pc := 85) k_179_85 rfl rfl) ?_
    refine Eq.trans (ev_iald_c (pc := 86) k_179_86 rfl za_51) (z_it1 ?_)
    refine Eq.trans (ev_aload_n (pc := 87) (x := 46) k_179_87 rfl rfl (by decide)) ?_
    refine Eq.trans (ev_getR (pc := 88) (b := 51) k_179_88 rfl zo_46.1 zg_46_8) ?_
    refine Eq.trans (ev_iload_n (pc := 91) k_179_91 rfl rfl) ?_
    refine Eq.trans (ev_iald_c (pc := 92) k_179_92 rfl za_51) (z_it1 ?_)
    refine Eq.trans (ev_ior (pc := 93) k_179_93 rfl) ?_
    refine Eq.trans (ev_vi (pc := 94) (as := [.int v4, .int ((h.1 51 v1.toNatClampNeg) ||| (h.1 51 v2.toNatClampNeg))]) (rest := []) k_179_94 rfl zo_46 rfl rfl (Nat.le_of_ble_eq_true rfl) (Nat.le_of_ble_eq_true rfl)) (z_cbi fun x1 h1 => ?_)
    refine Eq.trans (ev_ifeq (pc := 97) k_179_97.1 rfl k_179_97.2) (z_ite ?_ ?_)
    · refine Eq.trans (ev_iinc (pc := 171) (v := 1) (lv' := [some (.ref 46), some (.int v1), some (.int v2), some (.int v3), some (.int (v4 + 1)), none]) k_179_171 rfl rfl (by decide) rfl) ?_
      refine Eq.trans (ev_goto (pc := 174) k_179_174.1 rfl k_179_174.2) ?_
      exact ev_mk kd_179_71 rfl
    · refine Eq.trans (ev_iload_n (pc := 100) k_179_100 rfl rfl) ?_
      refine Eq.trans (ev_iconst (pc := 101) (v := (-1)) k_179_101 rfl (by decide)) ?_
      refine Eq.trans (ev_iceq (pc := 102) k_179_102.1 rfl k_179_102.2) (z_ite ?_ ?_)
      · exact ev_mk kd_179_121 rfl
      · refine Eq.trans (ev_iload_n (pc := 105) k_179_105 rfl rfl) ?_
        refine Eq.trans (ev_i2l (pc := 106) k_179_106 rfl) ?_
        refine Eq.trans (ev_lconst (pc := 107) (v := 0) k_179_107 rfl (by decide)) ?_
        refine Eq.trans (ev_iconst (pc := 108) (v := 2) k_179_108 rfl (by decide)) ?_
        refine Eq.trans (ev_iload (pc := 109) k_179_109 rfl rfl) ?_
        refine Eq.trans (ev_imul (pc := 111) k_179_111 rfl) ?_
        refine Eq.trans (ev_iconst (pc := 112) (v := 1) k_179_112 rfl (by decide)) ?_
        refine Eq.trans (ev_isub (pc := 113) k_179_113 rfl) ?_
        refine Eq.trans (ev_i2l (pc := 114) k_179_114 rfl) ?_
        refine Eq.trans (ev_si (pc := 115) (as := [.long v3.toInt64, .long 0, .long ((((2 : Int32) * v4) - (1 : Int32)).toInt64)]) (rest := []) k_179_115 rfl rfl rfl (Nat.le_of_ble_eq_true rfl) (Nat.le_of_ble_eq_true rfl)) (z_cbi fun x2 h2 => ?_)
        refine Eq.trans (ev_ifne (pc := 118) k_179_118.1 rfl k_179_118.2) (z_ite ?_ ?_)
        · exact ev_mk kd_179_121 rfl
        · refine Eq.trans (ev_aload_n (pc := 133) (x := 46) k_179_133 rfl rfl (by decide)) ?_
          refine Eq.trans (ev_getR (pc := 134) (b := 65) k_179_134 rfl zo_46.1 zg_46_34) ?_
          refine Eq.trans (ev_iload_n (pc := 137) k_179_137 rfl rfl) ?_
          refine Eq.trans (ev_iconst (pc := 138) (v := 2) k_179_138 rfl (by decide)) ?_
          refine Eq.trans (ev_idiv (pc := 139) k_179_139 rfl (by decide)) ?_
          refine Eq.trans (ev_iald_c (pc := 140) k_179_140 rfl za_65) (z_it1 ?_)
          refine Eq.trans (ev_istore (pc := 141) (lv' := [some (.ref 46), some (.int v1), some (.int v2), some (.int v3), some (.int v4), some (.int (h2.1 65 (v3 / (2 : Int32)).toNatClampNeg))]) k_179_141 rfl (Nat.le_of_ble_eq_true rfl) rfl) ?_
          refine Eq.trans (ev_iload_n (pc := 143) k_179_143 rfl rfl) ?_
          refine Eq.trans (ev_iconst (pc := 144) (v := 2) k_179_144 rfl (by decide)) ?_
          refine Eq.trans (ev_irem (pc := 145) k_179_145 rfl (by decide)) ?_
          refine Eq.trans (ev_iconst (pc := 146) (v := 1) k_179_146 rfl (by decide)) ?_
          refine Eq.trans (ev_icne (pc := 147) k_179_147.1 rfl k_179_147.2) (z_ite ?_ ?_)
          · refine Eq.trans (ev_iload (pc := 150) k_179_150 rfl rfl) ?_
            refine Eq.trans (ev_bipush (pc := 152) (v := 6) k_179_152 rfl (by decide)) ?_
            refine Eq.trans (ev_irem (pc := 154) k_179_154 rfl (by decide)) ?_
            refine Eq.trans (ev_goto (pc := 155) k_179_155.1 rfl k_179_155.2) ?_
            refine Eq.trans (ev_mk (pc := 170) (lv' := [none, none, none, none, none, none]) kd_179_170 rfl) ?_
            exact ev_ret_int k_179_170 rfl rt_179
          · refine Eq.trans (ev_iload (pc := 158) k_179_158 rfl rfl) ?_
            refine Eq.trans (ev_bipush (pc := 160) (v := 6) k_179_160 rfl (by decide)) ?_
            refine Eq.trans (ev_icge (pc := 162) k_179_162.1 rfl k_179_162.2) (z_ite ?_ ?_)
            · refine Eq.trans (ev_iload_n (pc := 165) k_179_165 rfl rfl) ?_
              refine Eq.trans (ev_goto (pc := 166) k_179_166.1 rfl k_179_166.2) ?_
              refine Eq.trans (ev_mk (pc := 170) (lv' := [none, none, none, none, none, none]) kd_179_170 rfl) ?_
              exact ev_ret_int k_179_170 rfl rt_179
            · refine Eq.trans (ev_iload_n (pc := 169) k_179_169 rfl rfl) ?_
              refine Eq.trans (ev_mk (pc := 170) (lv' := [none, none, none, none, none, none]) kd_179_170 rfl) ?_
              exact ev_ret_int k_179_170 rfl rt_179

set_option maxRecDepth 100000 in
theorem E_Mo_plan_121 (sc : zSc) (d : Nat) (h : zHp) (v3 : Int32) (v4 : Int32) : zE sc (d + 1) 179 121 [none, none, none, some (.int v3), some (.int v4), none] [] zGL h = (if v3 = ((-1) : Int32) then some (some (.int v4), zGL, h) else some (some (.int (-1)), zGL, h)) := by
  refine Eq.trans (ev_iload_n (pc := 121) k_179_121 rfl rfl) ?_
  refine Eq.trans (ev_iconst (pc := 122) (v := (-1)) k_179_122 rfl (by decide)) ?_
  refine Eq.trans (ev_icne (pc := 123) k_179_123.1 rfl k_179_123.2) (z_ite ?_ ?_)
  · refine Eq.trans (ev_iload (pc := 126) k_179_126 rfl rfl) ?_
    refine Eq.trans (ev_goto (pc := 128) k_179_128.1 rfl k_179_128.2) ?_
    refine Eq.trans (ev_mk (pc := 132) (lv' := [none, none, none, none, none, none]) kd_179_132 rfl) ?_
    exact ev_ret_int k_179_132 rfl rt_179
  · refine Eq.trans (ev_iconst (pc := 131) (v := (-1)) k_179_131 rfl (by decide)) ?_
    refine Eq.trans (ev_mk (pc := 132) (lv' := [none, none, none, none, none, none]) kd_179_132 rfl) ?_
    exact ev_ret_int k_179_132 rfl rt_179


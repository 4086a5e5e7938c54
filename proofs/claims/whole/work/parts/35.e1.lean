set_option maxRecDepth 100000 in
theorem E_JL_bitCount (sc : zSc) (d : Nat) (g : zSg) (h : zHp) (w0 : Int64) : zRun sc d 50 [.long w0] g h = some (some (.int ((((((((((w0 - (((w0.toUInt64 >>> ((1 : Int32).toInt64.toUInt64 &&& Int64.toUInt64 63)).toInt64) &&& (6148914691236517205 : Int64))) &&& (3689348814741910323 : Int64)) + ((((w0 - (((w0.toUInt64 >>> ((1 : Int32).toInt64.toUInt64 &&& Int64.toUInt64 63)).toInt64) &&& (6148914691236517205 : Int64))).toUInt64 >>> ((2 : Int32).toInt64.toUInt64 &&& Int64.toUInt64 63)).toInt64) &&& (3689348814741910323 : Int64))) + (((((w0 - (((w0.toUInt64 >>> ((1 : Int32).toInt64.toUInt64 &&& Int64.toUInt64 63)).toInt64) &&& (6148914691236517205 : Int64))) &&& (3689348814741910323 : Int64)) + ((((w0 - (((w0.toUInt64 >>> ((1 : Int32).toInt64.toUInt64 &&& Int64.toUInt64 63)).toInt64) &&& (6148914691236517205 : Int64))).toUInt64 >>> ((2 : Int32).toInt64.toUInt64 &&& Int64.toUInt64 63)).toInt64) &&& (3689348814741910323 : Int64))).toUInt64 >>> ((4 : Int32).toInt64.toUInt64 &&& Int64.toUInt64 63)).toInt64)) &&& (1085102592571150095 : Int64)) + (((((((w0 - (((w0.toUInt64 >>> ((1 : Int32).toInt64.toUInt64 &&& Int64.toUInt64 63)).toInt64) &&& (6148914691236517205 : Int64))) &&& (3689348814741910323 : Int64)) + ((((w0 - (((w0.toUInt64 >>> ((1 : Int32).toInt64.toUInt64 &&& Int64.toUInt64 63)).toInt64) &&& (6148914691236517205 : Int64))).toUInt64 >>> ((2 : Int32).toInt64.toUInt64 &&& Int64.toUInt64 63)).toInt64) &&& (3689348814741910323 : Int64))) + (((((w0 - (((w0.toUInt64 >>> ((1 : Int32).toInt64.toUInt64 &&& Int64.toUInt64 63)).toInt64) &&& (6148914691236517205 : Int64))) &&& (3689348814741910323 : Int64)) + ((((w0 - (((w0.toUInt64 >>> ((1 : Int32).toInt64.toUInt64 &&& Int64.toUInt64 63)).toInt64) &&& (6148914691236517205 : Int64))).toUInt64 >>> ((2 : Int32).toInt64.toUInt64 &&& Int64.toUInt64 63)).toInt64) &&& (3689348814741910323 : Int64))).toUInt64 >>> ((4 : Int32).toInt64.toUInt64 &&& Int64.toUInt64 63)).toInt64)) &&& (1085102592571150095 : Int64)).toUInt64 >>> ((8 : Int32).toInt64.toUInt64 &&& Int64.toUInt64 63)).toInt64)) + ((((((((w0 - (((w0.toUInt64 >>> ((1 : Int32).toInt64.toUInt64 &&& Int64.toUInt64 63)).toInt64) &&& (6148914691236517205 : Int64))) &&& (3689348814741910323 : Int64)) + ((((w0 - (((w0.toUInt64 >>> ((1 : Int32).toInt64.toUInt64 &&& Int64.toUInt64 63)).toInt64) &&& (6148914691236517205 : Int64))).toUInt64 >>> ((2 : Int32).toInt64.toUInt64 &&& Int64.toUInt64 63)).toInt64) &&& (3689348814741910323 : Int64))) + (((((w0 - (((w0.toUInt64 >>> ((1 : Int32).toInt64.toUInt64 &&& Int64.toUInt64 63)).toInt64) &&& (6148914691236517205 : Int64))) &&& (3689348814741910323 : Int64)) + ((((w0 - (((w0.toUInt64 >>> ((1 : Int32).toInt64.toUInt64 &&& Int64.toUInt64 63)).toInt64) &&& (6148914691236517205 : Int64))).toUInt64 >>> ((2 : Int32).toInt64.toUInt64 &&& Int64.toUInt64 63)).toInt64) &&& (3689348814741910323 : Int64))).toUInt64 >>> ((4 : Int32).toInt64.toUInt64 &&& Int64.toUInt64 63)).toInt64)) &&& (1085102592571150095 : Int64)) + (((((((w0 - (((w0.toUInt64 >>> ((1 : Int32).toInt64.toUInt64 &&& Int64.toUInt64 63)).toInt64) &&& (6148914691236517205 : Int64))) &&& (3689348814741910323 : Int64)) + ((((w0 - (((w0.toUInt64 >>> ((1 : Int32).toInt64.toUInt64 &&& Int64.toUInt64 63)).toInt64) &&& (6148914691236517205 : Int64))).toUInt64 >>> ((2 : Int32).toInt64.toUInt64 &&& Int64.toUInt64 63)).toInt64) &&& (3689348814741910323 : Int64))) + (((((w0 - (((w0.toUInt64 >>> ((1 : Int32).toInt64.toUInt64 &&& Int64.toUInt64 63)).toInt64) &&& (6148914691236517205 : Int64))) &&& (3689348814741910323 : Int64)) + ((((w0 - (((w0.toUInt64 >>> ((1 : Int32).toInt64.toUInt64 &&& Int64.toUInt64 63)).toInt64) &&& (6148914691236517205 : Int64))).toUInt64 >>> ((2 : Int32).toInt64.toUInt64 &&& Int64.toUInt64 63)).toInt64) &&& (3689348814741910323 : Int64))).toUInt64 >>> ((4 : Int32).toInt64.toUInt64 &&& Int64.toUInt64 63)).toInt64)) &&& (1085102592571150095 : Int64)).toUInt64 >>> ((8 : Int32).toInt64.toUInt64 &&& Int64.toUInt64 63)).toInt64)).toUInt64 >>> ((16 : Int32).toInt64.toUInt64 &&& Int64.toUInt64 63)).toInt64)) + (((((((((w0 - (((w0.toUInt64 >>> ((1 : Int32).toInt64.toUInt64 &&& Int64.toUInt64 63)).toInt64) &&& (6148914691236517205 : Int64))) &&& (3689348814741910323 : Int64)) + ((((w0 - (((w0.toUInt64 >>> ((1 : Int32).toInt64.toUInt64 &&& Int64.toUInt64 63)).toInt64) &&& (6148914691236517205 : Int64))).toUInt64 >>> ((2 : Int32).toInt64.toUInt64 &&& Int64.toUInt64 63)).toInt64) &&& (3689348814741910323 : Int64))) + (((((w0 - (((w0.toUInt64 >>> ((1 : Int32).toInt64.toUInt64 &&& Int64.toUInt64 63)).toInt64) &&& (6148914691236517205 : Int64))) &&& (3689348814741910323 : Int64)) + ((((w0 - (((w0.toUInt64 >>> ((1 : Int32).toInt64.toUInt64 &&& Int64.toUInt64 63)).toInt64) &&& (6148914691236517205 : Int64))).toUInt64 >>> ((2 : Int32).toInt64.toUInt64 &&& Int64.toUInt64 63)).toInt64) &&& (3689348814741910323 : Int64))).toUInt64 >>> ((4 : Int32).toInt64.toUInt64 &&& Int64.toUInt64 63)).toInt64)) &&& (1085102592571150095 : Int64)) + (((((((w0 - (((w0.toUInt64 >>> ((1 : Int32).toInt64.toUInt64 &&& Int64.toUInt64 63)).toInt64) &&& (6148914691236517205 : Int64))) &&& (3689348814741910323 : Int64)) + ((((w0 - (((w0.toUInt64 >>> ((1 : Int32).toInt64.toUInt64 &&& Int64.toUInt64 63)).toInt64) &&& (6148914691236517205 : Int64))).toUInt64 >>> ((2 : Int32).toInt64.toUInt64 &&& Int64.toUInt64 63)).toInt64) &&& (3689348814741910323 : Int64))) + (((((w0 - (((w0.toUInt64 >>> ((1 : Int32).toInt64.toUInt64 &&& Int64.toUInt64 63)).toInt64) &&& (6148914691236517205 : Int64))) &&& (3689348814741910323 : Int64)) + ((((w0 - (((w0.toUInt64 >>> ((1 : Int32).toInt64.toUInt64 &&& Int64.toUInt64 63)).toInt64) &&& (6148914691236517205 : Int64))).toUInt64 >>> ((2 : Int32).toInt64.toUInt64 &&& Int64.toUInt64 63)).toInt64) &&& (3689348814741910323 : Int64))).toUInt64 >>> ((4 : Int32).toInt64.toUInt64 &&& Int64.toUInt64 63)).toInt64)) &&& (1085102592571150095 : Int64)).toUInt64 >>> ((8 : Int32).toInt64.toUInt64 &&& Int64.toUInt64 63)).toInt64)) + ((((((((w0 - (((w0.toUInt64 >>> ((1 : Int32).toInt64.toUInt64 &&& Int64.toUInt64 63)).toInt64) &&& (6148914691236517205 : Int64))) &&& (3689348814741910323 : Int64)) + ((((w0 - (((w0.toUInt64 >>> ((1 : Int32).toInt64.toUInt64 &&& Int64.toUInt64 63)).toInt64) &&& (6148914691236517205 : Int64))).toUInt64 >>> ((2 : Int32).toInt64.toUInt64 &&& Int64.toUInt64 63)).toInt64) &&& (3689348814741910323 : Int64))) + (((((w0 - (((w0.toUInt64 >>> ((1 : Int32).toInt64.toUInt64 &&& Int64.toUInt64 63)).toInt64) &&& (6148914691236517205 : Int64))) &&& (3689348814741910323 : Int64)) + ((((w0 - (((w0.toUInt64 >>> ((1 : Int32).toInt64.toUInt64 &&& Int64.toUInt64 63)).toInt64) &&& (6148914691236517205 : Int64))).toUInt64 >>> ((2 : Int32).toInt64.toUInt64 &&& Int64.toUInt64 63)).toInt64) &&& (3689348814741910323 : Int64))).toUInt64 >>> ((4 : Int32).toInt64.toUInt64 &&& Int64.toUInt64 63)).toInt64)) &&& (1085102592571150095 : Int64)) + (((((((w0 - (((w0.toUInt64 >>> ((1 : Int32).toInt64.toUInt64 &&& Int64.toUInt64 63)).toInt64) &&& (6148914691236517205 : Int64))) &&& (3689348814741910323 : Int64)) + ((((w0 - (((w0.toUInt64 >>> ((1 : Int32).toInt64.toUInt64 &&& Int64.toUInt64 63)).toInt64) &&& (6148914691236517205 : Int64))).toUInt64 >>> ((2 : Int32).toInt64.toUInt64 &&& Int64.toUInt64 63)).toInt64) &&& (3689348814741910323 : Int64))) + (((((w0 - (((w0.toUInt64 >>> ((1 : Int32).toInt64.toUInt64 &&& Int64.toUInt64 63)).toInt64) &&& (6148914691236517205 : Int64))) &&& (3689348814741910323 : Int64)) + ((((w0 - (((w0.toUInt64 >>> ((1 : Int32).toInt64.toUInt64 &&& Int64.toUInt64 63)).toInt64) &&& (6148914691236517205 : Int64))).toUInt64 >>> ((2 : Int32).toInt64.toUInt64 &&& Int64.toUInt64 63)).toInt64) &&& (3689348814741910323 : Int64))).toUInt64 >>> ((4 : Int32).toInt64.toUInt64 &&& Int64.toUInt64 63)).toInt64)) &&& (1085102592571150095 : Int64)).toUInt64 >>> ((8 : Int32).toInt64.toUInt64 &&& Int64.toUInt64 63)).toInt64)).toUInt64 >>> ((16 : Int32).toInt64.toUInt64 &&& Int64.toUInt64 63)).toInt64)).toUInt64 >>> ((32 : Int32).toInt64.toUInt64 &&& Int64.toUInt64 63)).toInt64)).toInt32) &&& (127 : Int32))), g, h) := by
  have he : zEnt 50 [.long w0] = [some (.long w0), none] := by unfold zEnt; rw [ml_50]; rfl
  unfold zRun
  rw [he]
  refine Eq.trans (ev_lload_n (pc := 0) k_50_0 rfl rfl) ?_
  refine Eq.trans (ev_lload_n (pc := 1) k_50_1 rfl rfl) ?_
  refine Eq.trans (ev_iconst (pc := 2) (v := 1) k_50_2 rfl (by decide)) ?_
  refine Eq.trans (ev_lushr (pc := 3) k_50_3 rfl) ?_
  refine Eq.trans (ev_ldc2 (pc := 4) (v := 6148914691236517205) k_50_4 rfl) ?_
  refine Eq.trans (ev_land (pc := 7) k_50_7 rfl) ?_
  refine Eq.trans (ev_lsub (pc := 8) k_50_8 rfl) ?_
  refine Eq.trans (ev_lstore_n (pc := 9) (lv' := [some (.long (w0 - (((w0.toUInt64 >>> ((1 : Int32).toInt64.toUInt64 &&& Int64.toUInt64 63)).toInt64) &&& (6148914691236517205 : Int64)))), none]) k_50_9 rfl (Nat.le_of_ble_eq_true rfl) rfl) ?_
  refine Eq.trans (ev_lload_n (pc := 10) k_50_10 rfl rfl) ?_
  refine Eq.trans (ev_ldc2 (pc := 11) (v := 3689348814741910323) k_50_11 rfl) ?_
  refine Eq.trans (ev_land (pc := 14) k_50_14 rfl) ?_
  refine Eq.trans (ev_lload_n (pc := 15) k_50_15 rfl rfl) ?_
  refine Eq.trans (ev_iconst (pc := 16) (v := 2) k_50_16 rfl (by decide)) ?_
  refine Eq.trans (ev_lushr (pc := 17) k_50_17 rfl) ?_
  refine Eq.trans (ev_ldc2 (pc := 18) (v := 3689348814741910323) k_50_18 rfl) ?_
  refine Eq.trans (ev_land (pc := 21) k_50_21 rfl) ?_
  refine Eq.trans (ev_ladd (pc := 22) k_50_22 rfl) ?_
  refine Eq.trans (ev_lstore_n (pc := 23) (lv' := [some (.long (((w0 - (((w0.toUInt64 >>> ((1 : Int32).toInt64.toUInt64 &&& Int64.toUInt64 63)).toInt64) &&& (6148914691236517205 : Int64))) &&& (3689348814741910323 : Int64)) + ((((w0 - (((w0.toUInt64 >>> ((1 : Int32).toInt64.toUInt64 &&& Int64.toUInt64 63)).toInt64) &&& (6148914691236517205 : Int64))).toUInt64 >>> ((2 : Int32).toInt64.toUInt64 &&& Int64.toUInt64 63)).toInt64) &&& (3689348814741910323 : Int64)))), none]) k_50_23 rfl (Nat.le_of_ble_eq_true rfl) rfl) ?_
  refine Eq.trans (ev_lload_n (pc := 24) k_50_24 rfl rfl) ?_
  refine Eq.trans (ev_lload_n (pc := 25) k_50_25 rfl rfl) ?_
  refine Eq.trans (ev_iconst (pc := 26) (v := 4) k_50_26 rfl (by decide)) ?_
  refine Eq.trans (ev_lushr (pc := 27) k_50_27 rfl) ?_
  refine Eq.trans (ev_ladd (pc := 28) k_50_28 rfl) ?_
  refine Eq.trans (ev_ldc2 (pc := 29) (v := 1085102592571150095) k_50_29 rfl) ?_
  refine Eq.trans (ev_land (pc := 32) k_50_32 rfl) ?_
  refine Eq.trans (ev_lstore_n (pc := 33) (lv' := [some (.long (((((w0 - (((w0.toUInt64 >>> ((1 : Int32).toInt64.toUInt64 &&& Int64.toUInt64 63)).toInt64) &&& (6148914691236517205 : Int64))) &&& (3689348814741910323 : Int64)) + ((((w0 - (((w0.toUInt64 >>> ((1 : Int32).toInt64.toUInt64 &&& Int64.toUInt64 63)).toInt64) &&& (6148914691236517205 : Int64))).toUInt64 >>> ((2 : Int32).toInt64.toUInt64 &&& Int64.toUInt64 63)).toInt64) &&& (3689348814741910323 : Int64))) + (((((w0 - (((w0.toUInt64 >>> ((1 : Int32).toInt64.toUInt64 &&& Int64.toUInt64 63)).toInt64) &&& (6148914691236517205 : Int64))) &&& (3689348814741910323 : Int64)) + ((((w0 - (((w0.toUInt64 >>> ((1 : Int32).toInt64.toUInt64 &&& Int64.toUInt64 63)).toInt64) &&& (6148914691236517205 : Int64))).toUInt64 >>> ((2 : Int32).toInt64.toUInt64 &&& Int64.toUInt64 63)).toInt64) &&& (3689348814741910323 : Int64))).toUInt64 >>> ((4 : Int32).toInt64.toUInt64 &&& Int64.toUInt64 63)).toInt64)) &&& (1085102592571150095 : Int64))), none]) k_50_33 rfl (Nat.le_of_ble_eq_true rfl) rfl) ?_
  refine Eq.trans (ev_lload_n (pc := 34) k_50_34 rfl rfl) ?_
  refine Eq.trans (ev_lload_n (pc := 35) k_50_35 rfl rfl) ?_
  refine Eq.trans (ev_bipush (pc := 36) (v := 8) k_50_36 rfl (by decide)) ?_
  refine Eq.trans (ev_lushr (pc := 38) k_50_38 rfl) ?_
  refine Eq.trans (ev_ladd (pc := 39) k_50_39 rfl) ?_
  refine Eq.trans (ev_lstore_n (pc := 40) (lv' := [some (.long ((((((w0 - (((w0.toUInt64 >>> ((1 : Int32).toInt64.toUInt64 &&& Int64.toUInt64 63)).toInt64) &&& (6148914691236517205 : Int64))) &&& (3689348814741910323 : Int64)) + ((((w0 - (((w0.toUInt64 >>> ((1 : Int32).toInt64.toUInt64 &&& Int64.toUInt64 63)).toInt64) &&& (6148914691236517205 : Int64))).toUInt64 >>> ((2 : Int32).toInt64.toUInt64 &&& Int64.toUInt64 63)).toInt64) &&& (3689348814741910323 : Int64))) + (((((w0 - (((w0.toUInt64 >>> ((1 : Int32).toInt64.toUInt64 &&& Int64.toUInt64 63)).toInt64) &&& (6148914691236517205 : Int64))) &&& (3689348814741910323 : Int64)) + ((((w0 - (((w0.toUInt64 >>> ((1 : Int32).toInt64.toUInt64 &&& Int64.toUInt64 63)).toInt64) &&& (6148914691236517205 : Int64))).toUInt64 >>> ((2 : Int32).toInt64.toUInt64 &&& Int64.toUInt64 63)).toInt64) &&& (3689348814741910323 : Int64))).toUInt64 >>> ((4 : Int32).toInt64.toUInt64 &&& Int64.toUInt64 63)).toInt64)) &&& (1085102592571150095 : Int64)) + (((((((w0 - (((w0.toUInt64 >>> ((1 : Int32).toInt64.toUInt64 &&& Int64.toUInt64 63)).toInt64) &&& (6148914691236517205 : Int64))) &&& (3689348814741910323 : Int64)) + ((((w0 - (((w0.toUInt64 >>> ((1 : Int32).toInt64.toUInt64 &&& Int64.toUInt64 63)).toInt64) &&& (6148914691236517205 : Int64))).toUInt64 >>> ((2 : Int32).toInt64.toUInt64 &&& Int64.toUInt64 63)).toInt64) &&& (3689348814741910323 : Int64))) + (((((w0 - (((w0.toUInt64 >>> ((1 : Int32).toInt64.toUInt64 &&& Int64.toUInt64 63)).toInt64) &&& (6148914691236517205 : Int64))) &&& (3689348814741910323 : Int64)) + ((((w0 - (((w0.toUInt64 >>> ((1 : Int32).toInt64.toUInt64 &&& Int64.toUInt64 63)).toInt64) &&& (6148914691236517205 : Int64))).toUInt64 >>> ((2 : Int32).toInt64.toUInt64 &&& Int64.toUInt64 63)).toInt64) &&& (3689348814741910323 : Int64))).toUInt64 >>> ((4 : Int32).toInt64.toUInt64 &&& Int64.toUInt64 63)).toInt64)) &&& (1085102592571150095 : Int64)).toUInt64 >>> ((8 : Int32).toInt64.toUInt64 &&& Int64.toUInt64 63)).toInt64))), none]) k_50_40 rfl (Nat.le_of_ble_eq_true rfl) rfl) ?_
  refine Eq.trans (ev_lload_n (pc := 41) k_50_41 rfl rfl) ?_
  refine Eq.trans (ev_lload_n (pc := 42) k_50_42 rfl rfl) ?_
  refine Eq.trans (ev_bipush (pc := 43) (v := 16) k_50_43 rfl (by decide)) ?_
  refine Eq.trans (ev_lushr (pc := 45) k_50_45 rfl) ?_
  refine Eq.trans (ev_ladd (pc := 46) k_50_46 rfl) ?_
  refine Eq.trans (ev_lstore_n (pc := 47) (lv' := [some (.long (((((((w0 - (((w0.toUInt64 >>> ((1 : Int32).toInt64.toUInt64 &&& Int64.toUInt64 63)).toInt64) &&& (6148914691236517205 : Int64))) &&& (3689348814741910323 : Int64)) + ((((w0 - (((w0.toUInt64 >>> ((1 : Int32).toInt64.toUInt64 &&& Int64.toUInt64 63)).toInt64) &&& (6148914691236517205 : Int64))).toUInt64 >>> ((2 : Int32).toInt64.toUInt64 &&& Int64.toUInt64 63)).toInt64) &&& (3689348814741910323 : Int64))) + (((((w0 - (((w0.toUInt64 >>> ((1 : Int32).toInt64.toUInt64 &&& Int64.toUInt64 63)).toInt64) &&& (6148914691236517205 : Int64))) &&& (3689348814741910323 : Int64)) + ((((w0 - (((w0.toUInt64 >>> ((1 : Int32).toInt64.toUInt64 &&& Int64.toUInt64 63)).toInt64) &&& (6148914691236517205 : Int64))).toUInt64 >>> ((2 : Int32).toInt64.toUInt64 &&& Int64.toUInt64 63)).toInt64) &&& (3689348814741910323 : Int64))).toUInt64 >>> ((4 : Int32).toInt64.toUInt64 &&& Int64.toUInt64 63)).toInt64)) &&& (1085102592571150095 : Int64)) + (((((((w0 - (((w0.toUInt64 >>> ((1 : Int32).toInt64.toUInt64 &&& Int64.toUInt64 63)).toInt64) &&& (6148914691236517205 : Int64))) &&& (3689348814741910323 : Int64)) + ((((w0 - (((w0.toUInt64 >>> ((1 : Int32).toInt64.toUInt64 &&& Int64.toUInt64 63)).toInt64) &&& (6148914691236517205 : Int64))).toUInt64 >>> ((2 : Int32).toInt64.toUInt64 &&& Int64.toUInt64 63)).toInt64) &&& (3689348814741910323 : Int64))) + (((((w0 - (((w0.toUInt64 >>> ((1 : Int32).toInt64.toUInt64 &&& Int64.toUInt64 63)).toInt64) &&& (6148914691236517205 : Int64))) &&& (3689348814741910323 : Int64)) + ((((w0 - (((w0.toUInt64 >>> ((1 : Int32).toInt64.toUInt64 &&& Int64.toUInt64 63)).toInt64) &&& (6148914691236517205 : Int64))).toUInt64 >>> ((2 : Int32).toInt64.toUInt64 &&& Int64.toUInt64 63)).toInt64) &&& (3689348814741910323 : Int64))).toUInt64 >>> ((4 : Int32).toInt64.toUInt64 &&& Int64.toUInt64 63)).toInt64)) &&& (1085102592571150095 : Int64)).toUInt64 >>> ((8 : Int32).toInt64.toUInt64 &&& Int64.toUInt64 63)).toInt64)) + ((((((((w0 - (((w0.toUInt64 >>> ((1 : Int32).toInt64.toUInt64 &&& Int64.toUInt64 63)).toInt64) &&& (6148914691236517205 : Int64))) &&& (3689348814741910323 : Int64)) + ((((w0 - (((w0.toUInt64 >>> ((1 : Int32).toInt64.toUInt64 &&& Int64.toUInt64 63)).toInt64) &&& (6148914691236517205 : Int64))).toUInt64 >>> ((2 : Int32).toInt64.toUInt64 &&& Int64.toUInt64 63)).toInt64) &&& (3689348814741910323 : Int64))) + (((((w0 - (((w0.toUInt64 >>> ((1 : Int32).toInt64.toUInt64 &&& Int64.toUInt64 63)).toInt64) &&& (6148914691236517205 : Int64))) &&& (3689348814741910323 : Int64)) + ((((w0 - (((w0.toUInt64 >>> ((1 : Int32).toInt64.toUInt64 &&& Int64.toUInt64 63)).toInt64) &&& (6148914691236517205 : Int64))).toUInt64 >>> ((2 : Int32).toInt64.toUInt64 &&& Int64.toUInt64 63)).toInt64) &&& (3689348814741910323 : Int64))).toUInt64 >>> ((4 : Int32).toInt64.toUInt64 &&& Int64.toUInt64 63)).toInt64)) &&& (1085102592571150095 : Int64)) + (((((((w0 - (((w0.toUInt64 >>> ((1 : Int32).toInt64.toUInt64 &&& Int64.toUInt64 63)).toInt64) &&& (6148914691236517205 : Int64))) &&& (3689348814741910323 : Int64)) + ((((w0 - (((w0.toUInt64 >>> ((1 : Int32).toInt64.toUInt64 &&& Int64.toUInt64 63)).toInt64) &&& (6148914691236517205 : Int64))).toUInt64 >>> ((2 : Int32).toInt64.toUInt64 &&& Int64.toUInt64 63)).toInt64) &&& (3689348814741910323 : Int64))) + (((((w0 - (((w0.toUInt64 >>> ((1 : Int32).toInt64.toUInt64 &&& Int64.toUInt64 63)).toInt64) &&& (6148914691236517205 : Int64))) &&& (3689348814741910323 : Int64)) + ((((w0 - (((w0.toUInt64 >>> ((1 : Int32).toInt64.toUInt64 &&& Int64.toUInt64 63)).toInt64) &&& (6148914691236517205 : Int64))).toUInt64 >>> ((2 : Int32).toInt64.toUInt64 &&& Int64.toUInt64 63)).toInt64) &&& (3689348814741910323 : Int64))).toUInt64 >>> ((4 : Int32).toInt64.toUInt64 &&& Int64.toUInt64 63)).toInt64)) &&& (1085102592571150095 : Int64)).toUInt64 >>> ((8 : Int32).toInt64.toUInt64 &&& Int64.toUInt64 63)).toInt64)).toUInt64 >>> ((16 : Int32).toInt64.toUInt64 &&& Int64.toUInt64 63)).toInt64))), none]) k_50_47 rfl (Nat.le_of_ble_eq_true rfl) rfl) ?_
  refine Eq.trans (ev_lload_n (pc := 48) k_50_48 rfl rfl) ?_
  refine Eq.trans (ev_lload_n (pc := 49) k_50_49 rfl rfl) ?_
  refine Eq.trans (ev_bipush (pc := 50) (v := 32) k_50_50 rfl (by decide)) ?_
  refine Eq.trans (ev_lushr (pc := 52) k_50_52 rfl) ?_
  refine Eq.trans (ev_ladd (pc := 53) k_50_53 rfl) ?_
  refine Eq.trans (ev_lstore_n (pc := 54) (lv' := [some (.long ((((((((w0 - (((w0.toUInt64 >>> ((1 : Int32).toInt64.toUInt64 &&& Int64.toUInt64 63)).toInt64) &&& (6148914691236517205 : Int64))) &&& (3689348814741910323 : Int64)) + ((((w0 - (((w0.toUInt64 >>> ((1 : Int32).toInt64.toUInt64 &&& Int64.toUInt64 63)).toInt64) &&& (6148914691236517205 : Int64))).toUInt64 >>> ((2 : Int32).toInt64.toUInt64 &&& Int64.toUInt64 63)).toInt64) &&& (3689348814741910323 : Int64))) + (((((w0 - (((w0.toUInt64 >>> ((1 : Int32).toInt64.toUInt64 &&& Int64.toUInt64 63)).toInt64) &&& (6148914691236517205 : Int64))) &&& (3689348814741910323 : Int64)) + ((((w0 - (((w0.toUInt64 >>> ((1 : Int32).toInt64.toUInt64 &&& Int64.toUInt64 63)).toInt64) &&& (6148914691236517205 : Int64))).toUInt64 >>> ((2 : Int32).toInt64.toUInt64 &&& Int64.toUInt64 63)).toInt64) &&& (3689348814741910323 : Int64))).toUInt64 >>> ((4 : Int32).toInt64.toUInt64 &&& Int64.toUInt64 63)).toInt64)) &&& (1085102592571150095 : Int64)) + (((((((w0 - (((w0.toUInt64 >>> ((1 : Int32).toInt64.toUInt64 &&& Int64.toUInt64 63)).toInt64) &&& (6148914691236517205 : Int64))) &&& (3689348814741910323 : Int64)) + ((((w0 - (((w0.toUInt64 >>> ((1 : Int32).toInt64.toUInt64 &&& Int64.toUInt64 63)).toInt64) &&& (6148914691236517205 : Int64))).toUInt64 >>> ((2 : Int32).toInt64.toUInt64 &&& Int64.toUInt64 63)).toInt64) &&& (3689348814741910323 : Int64))) + (((((w0 - (((w0.toUInt64 >>> ((1 : Int32).toInt64.toUInt64 &&& Int64.toUInt64 63)).toInt64) &&& (6148914691236517205 : Int64))) &&& (3689348814741910323 : Int64)) + ((((w0 - (((w0.toUInt64 >>> ((1 : Int32).toInt64.toUInt64 &&& Int64.toUInt64 63)).toInt64) &&& (6148914691236517205 : Int64))).toUInt64 >>> ((2 : Int32).toInt64.toUInt64 &&& Int64.toUInt64 63)).toInt64) &&& (3689348814741910323 : Int64))).toUInt64 >>> ((4 : Int32).toInt64.toUInt64 &&& Int64.toUInt64 63)).toInt64)) &&& (1085102592571150095 : Int64)).toUInt64 >>> ((8 : Int32).toInt64.toUInt64 &&& Int64.toUInt64 63)).toInt64)) + ((((((((w0 - (((w0.toUInt64 >>> ((1 : Int32).toInt64.toUInt64 &&& Int64.toUInt64 63)).toInt64) &&& (6148914691236517205 : Int64))) &&& (3689348814741910323 : Int64)) + ((((w0 - (((w0.toUInt64 >>> ((1 : Int32).toInt64.toUInt64 &&& Int64.toUInt64 63)).toInt64) &&& (6148914691236517205 : Int64))).toUInt64 >>> ((2 : Int32).toInt64.toUInt64 &&& Int64.toUInt64 63)).toInt64) &&& (3689348814741910323 : Int64))) + (((((w0 - (((w0.toUInt64 >>> ((1 : Int32).toInt64.toUInt64 &&& Int64.toUInt64 63)).toInt64) &&& (6148914691236517205 : Int64))) &&& (3689348814741910323 : Int64)) + ((((w0 - (((w0.toUInt64 >>> ((1 : Int32).toInt64.toUInt64 &&& Int64.toUInt64 63)).toInt64) &&& (6148914691236517205 : Int64))).toUInt64 >>> ((2 : Int32).toInt64.toUInt64 &&& Int64.toUInt64 63)).toInt64) &&& (3689348814741910323 : Int64))).toUInt64 >>> ((4 : Int32).toInt64.toUInt64 &&& Int64.toUInt64 63)).toInt64)) &&& (1085102592571150095 : Int64)) + (((((((w0 - (((w0.toUInt64 >>> ((1 : Int32).toInt64.toUInt64 &&& Int64.toUInt64 63)).toInt64) &&& (6148914691236517205 : Int64))) &&& (3689348814741910323 : Int64)) + ((((w0 - (((w0.toUInt64 >>> ((1 : Int32).toInt64.toUInt64 &&& Int64.toUInt64 63)).toInt64) &&& (6148914691236517205 : Int64))).toUInt64 >>> ((2 : Int32).toInt64.toUInt64 &&& Int64.toUInt64 63)).toInt64) &&& (3689348814741910323 : Int64))) + (((((w0 - (((w0.toUInt64 >>> ((1 : Int32).toInt64.toUInt64 &&& Int64.toUInt64 63)).toInt64) &&& (6148914691236517205 : Int64))) &&& (3689348814741910323 : Int64)) + ((((w0 - (((w0.toUInt64 >>> ((1 : Int32).toInt64.toUInt64 &&& Int64.toUInt64 63)).toInt64) &&& (6148914691236517205 : Int64))).toUInt64 >>> ((2 : Int32).toInt64.toUInt64 &&& Int64.toUInt64 63)).toInt64) &&& (3689348814741910323 : Int64))).toUInt64 >>> ((4 : Int32).toInt64.toUInt64 &&& Int64.toUInt64 63)).toInt64)) &&& (1085102592571150095 : Int64)).toUInt64 >>> ((8 : Int32).toInt64.toUInt64 &&& Int64.toUInt64 63)).toInt64)).toUInt64 >>> ((16 : Int32).toInt64.toUInt64 &&& Int64.toUInt64 63)).toInt64)) + (((((((((w0 - (((w0.toUInt64 >>> ((1 : Int32).toInt64.toUInt64 &&& Int64.toUInt64 63)).toInt64) &&& (6148914691236517205 : Int64))) &&& (3689348814741910323 : Int64)) + ((((w0 - (((w0.toUInt64 >>> ((1 : Int32).toInt64.toUInt64 &&& Int64.toUInt64 63)).toInt64) &&& (6148914691236517205 : Int64))).toUInt64 >>> ((2 : Int32).toInt64.toUInt64 &&& Int64.toUInt64 63)).toInt64) &&& (3689348814741910323 : Int64))) + (((((w0 - (((w0.toUInt64 >>> ((1 : Int32).toInt64.toUInt64 &&& Int64.toUInt64 63)).toInt64) &&& (6148914691236517205 : Int64))) &&& (3689348814741910323 : Int64)) + ((((w0 - (((w0.toUInt64 >>> ((1 : Int32).toInt64.toUInt64 &&& Int64.toUInt64 63)).toInt64) &&& (6148914691236517205 : Int64))).toUInt64 >>> ((2 : Int32).toInt64.toUInt64 &&& Int64.toUInt64 63)).toInt64) &&& (3689348814741910323 : Int64))).toUInt64 >>> ((4 : Int32).toInt64.toUInt64 &&& Int64.toUInt64 63)).toInt64)) &&& (1085102592571150095 : Int64)) + (((((((w0 - (((w0.toUInt64 >>> ((1 : Int32).toInt64.toUInt64 &&& Int64.toUInt64 63)).toInt64) &&& (6148914691236517205 : Int64))) &&& (3689348814741910323 : Int64)) + ((((w0 - (((w0.toUInt64 >>> ((1 : Int32).toInt64.toUInt64 &&& Int64.toUInt64 63)).toInt64) &&& (6148914691236517205 : Int64))).toUInt64 >>> ((2 : Int32).toInt64.toUInt64 &&& Int64.toUInt64 63)).toInt64) &&& (3689348814741910323 : Int64))) + (((((w0 - (((w0.toUInt64 >>> ((1 : Int32).toInt64.toUInt64 &&& Int64.toUInt64 63)).toInt64) &&& (6148914691236517205 : Int64))) &&& (3689348814741910323 : Int64)) + ((((w0 - (((w0.toUInt64 >>> ((1 : Int32).toInt64.toUInt64 &&& Int64.toUInt64 63)).toInt64) &&& (6148914691236517205 : Int64))).toUInt64 >>> ((2 : Int32).toInt64.toUInt64 &&& Int64.toUInt64 63)).toInt64) &&& (3689348814741910323 : Int64))).toUInt64 >>> ((4 : Int32).toInt64.toUInt64 &&& Int64.toUInt64 63)).toInt64)) &&& (1085102592571150095 : Int64)).toUInt64 >>> ((8 : Int32).toInt64.toUInt64 &&& Int64.toUInt64 63)).toInt64)) + ((((((((w0 - (((w0.toUInt64 >>> ((1 : Int32).toInt64.toUInt64 &&& Int64.toUInt64 63)).toInt64) &&& (6148914691236517205 : Int64))) &&& (3689348814741910323 : Int64)) + ((((w0 - (((w0.toUInt64 >>> ((1 : Int32).toInt64.toUInt64 &&& Int64.toUInt64 63)).toInt64) &&& (6148914691236517205 : Int64))).toUInt64 >>> ((2 : Int32).toInt64.toUInt64 &&& Int64.toUInt64 63)).toInt64) &&& (3689348814741910323 : Int64))) + (((((w0 - (((w0.toUInt64 >>> ((1 : Int32).toInt64.toUInt64 &&& Int64.toUInt64 63)).toInt64) &&& (6148914691236517205 : Int64))) &&& (3689348814741910323 : Int64)) + ((((w0 - (((w0.toUInt64 >>> ((1 : Int32).toInt64.toUInt64 &&& Int64.toUInt64 63)).toInt64) &&& (6148914691236517205 : Int64))).toUInt64 >>> ((2 : Int32).toInt64.toUInt64 &&& Int64.toUInt64 63)).toInt64) &&& (3689348814741910323 : Int64))).toUInt64 >>> ((4 : Int32).toInt64.toUInt64 &&& Int64.toUInt64 63)).toInt64)) &&& (1085102592571150095 : Int64)) + (((((((w0 - (((w0.toUInt64 >>> ((1 : Int32).toInt64.toUInt64 &&& Int64.toUInt64 63)).toInt64) &&& (6148914691236517205 : Int64))) &&& (3689348814741910323 : Int64)) + ((((w0 - (((w0.toUInt64 >>> ((1 : Int32).toInt64.toUInt64 &&& Int64.toUInt64 63)).toInt64) &&& (6148914691236517205 : Int64))).toUInt64 >>> ((2 : Int32).toInt64.toUInt64 &&& Int64.toUInt64 63)).toInt64) &&& (3689348814741910323 : Int64))) + (((((w0 - (((w0.toUInt64 >>> ((1 : Int32).toInt64.toUInt64 &&& Int64.toUInt64 63)).toInt64) &&& (6148914691236517205 : Int64))) &&& (3689348814741910323 : Int64)) + ((((w0 - (((w0.toUInt64 >>> ((1 : Int32).toInt64.toUInt64 &&& Int64.toUInt64 63)).toInt64) &&& (6148914691236517205 : Int64))).toUInt64 >>> ((2 : Int32).toInt64.toUInt64 &&& Int64.toUInt64 63)).toInt64) &&& (3689348814741910323 : Int64))).toUInt64 >>> ((4 : Int32).toInt64.toUInt64 &&& Int64.toUInt64 63)).toInt64)) &&& (1085102592571150095 : Int64)).toUInt64 >>> ((8 : Int32).toInt64.toUInt64 &&& Int64.toUInt64 63)).toInt64)).toUInt64 >>> ((16 : Int32).toInt64.toUInt64 &&& Int64.toUInt64 63)).toInt64)).toUInt64 >>> ((32 : Int32).toInt64.toUInt64 &&& Int64.toUInt64 63)).toInt64))), none]) k_50_54 rfl (Nat.le_of_ble_eq_true rfl) rfl) ?_
  refine Eq.trans (ev_lload_n (pc := 55) k_50_55 rfl rfl) ?_
  refine Eq.trans (ev_l2i (pc := 56) k_50_56 rfl) ?_
  refine Eq.trans (ev_bipush (pc := 57) (v := 127) k_50_57 rfl (by decide)) ?_
  refine Eq.trans (ev_iand (pc := 59) k_50_59 rfl) ?_
  exact ev_ret_int k_50_60 rfl rt_50

set_option maxRecDepth 100000 in
theorem E_JI_numberOfTrailingZeros (sc : zSc) (d : Nat) (g : zSg) (h : zHp) (v0 : Int32) : zRun sc d 90 [.int v0] g h = (if 0 < ((v0 ^^^ ((-1) : Int32)) &&& (v0 - (1 : Int32))) then (if (65536 : Int32) < ((v0 ^^^ ((-1) : Int32)) &&& (v0 - (1 : Int32))) then zE sc d 90 34 [some (.int ((((v0 ^^^ ((-1) : Int32)) &&& (v0 - (1 : Int32))).toUInt32 >>> ((16 : Int32).toUInt32 &&& Int32.toUInt32 31)).toInt32)), some (.int ((1 : Int32) + 16))] [] g h else zE sc d 90 34 [some (.int ((v0 ^^^ ((-1) : Int32)) &&& (v0 - (1 : Int32)))), some (.int 1)] [] g h) else some (some (.int (((v0 ^^^ ((-1) : Int32)) &&& (v0 - (1 : Int32))) &&& (32 : Int32))), g, h)) := by
  have he : zEnt 90 [.int v0] = [some (.int v0), none] := by unfold zEnt; rw [ml_90]; rfl
  unfold zRun
  rw [he]
  refine Eq.trans (ev_iload_n (pc := 0) k_90_0 rfl rfl) ?_
  refine Eq.trans (ev_iconst (pc := 1) (v := (-1)) k_90_1 rfl (by decide)) ?_
  refine Eq.trans (ev_ixor (pc := 2) k_90_2 rfl) ?_
  refine Eq.trans (ev_iload_n (pc := 3) k_90_3 rfl rfl) ?_
  refine Eq.trans (ev_iconst (pc := 4) (v := 1) k_90_4 rfl (by decide)) ?_
  refine Eq.trans (ev_isub (pc := 5) k_90_5 rfl) ?_
  refine Eq.trans (ev_iand (pc := 6) k_90_6 rfl) ?_
  refine Eq.trans (ev_istore_n (pc := 7) (lv' := [some (.int ((v0 ^^^ ((-1) : Int32)) &&& (v0 - (1 : Int32)))), none]) k_90_7 rfl (Nat.le_of_ble_eq_true rfl) rfl) ?_
  refine Eq.trans (ev_iload_n (pc := 8) k_90_8 rfl rfl) ?_
  refine Eq.trans (ev_ifgt (pc := 9) k_90_9.1 rfl k_90_9.2) (z_ite ?_ ?_)
  · refine Eq.trans (ev_iconst (pc := 17) (v := 1) k_90_17 rfl (by decide)) ?_
    refine Eq.trans (ev_istore_n (pc := 18) (lv' := [some (.int ((v0 ^^^ ((-1) : Int32)) &&& (v0 - (1 : Int32)))), some (.int 1)]) k_90_18 rfl (Nat.le_of_ble_eq_true rfl) rfl) ?_
    refine Eq.trans (ev_iload_n (pc := 19) k_90_19 rfl rfl) ?_
    refine Eq.trans (ev_ldcw (pc := 20) (v := 65536) k_90_20 rfl) ?_
    refine Eq.trans (ev_icle (pc := 23) k_90_23.1 rfl k_90_23.2) (z_ite ?_ ?_)
    · refine Eq.trans (ev_iinc (pc := 26) (v := 16) (lv' := [some (.int ((v0 ^^^ ((-1) : Int32)) &&& (v0 - (1 : Int32)))), some (.int ((1 : Int32) + 16))]) k_90_26 rfl rfl (by decide) rfl) ?_
      refine Eq.trans (ev_iload_n (pc := 29) k_90_29 rfl rfl) ?_
      refine Eq.trans (ev_bipush (pc := 30) (v := 16) k_90_30 rfl (by decide)) ?_
      refine Eq.trans (ev_iushr (pc := 32) k_90_32 rfl) ?_
      refine Eq.trans (ev_istore_n (pc := 33) (lv' := [some (.int ((((v0 ^^^ ((-1) : Int32)) &&& (v0 - (1 : Int32))).toUInt32 >>> ((16 : Int32).toUInt32 &&& Int32.toUInt32 31)).toInt32)), some (.int ((1 : Int32) + 16))]) k_90_33 rfl (Nat.le_of_ble_eq_true rfl) rfl) ?_
      exact ev_mk kd_90_34 rfl
    · exact ev_mk kd_90_34 rfl
  · refine Eq.trans (ev_iload_n (pc := 12) k_90_12 rfl rfl) ?_
    refine Eq.trans (ev_bipush (pc := 13) (v := 32) k_90_13 rfl (by decide)) ?_
    refine Eq.trans (ev_iand (pc := 15) k_90_15 rfl) ?_
    exact ev_ret_int k_90_16 rfl rt_90

set_option maxRecDepth 100000 in
theorem E_JI_numberOfTrailingZeros_34 (sc : zSc) (d : Nat) (g : zSg) (h : zHp) (v0 : Int32) (v1 : Int32) : zE sc d 90 34 [some (.int v0), some (.int v1)] [] g h = (if (256 : Int32) < v0 then zE sc d 90 49 [some (.int ((v0.toUInt32 >>> ((8 : Int32).toUInt32 &&& Int32.toUInt32 31)).toInt32)), some (.int (v1 + 8))] [] g h else zE sc d 90 49 [some (.int v0), some (.int v1)] [] g h) := by
  refine Eq.trans (ev_iload_n (pc := 34) k_90_34 rfl rfl) ?_
  refine Eq.trans (ev_sipush (pc := 35) (v := 256) k_90_35 rfl (by decide)) ?_
  refine Eq.trans (ev_icle (pc := 38) k_90_38.1 rfl k_90_38.2) (z_ite ?_ ?_)
  · refine Eq.trans (ev_iinc (pc := 41) (v := 8) (lv' := [some (.int v0), some (.int (v1 + 8))]) k_90_41 rfl rfl (by decide) rfl) ?_
    refine Eq.trans (ev_iload_n (pc := 44) k_90_44 rfl rfl) ?_
    refine Eq.trans (ev_bipush (pc := 45) (v := 8) k_90_45 rfl (by decide)) ?_
    refine Eq.trans (ev_iushr (pc := 47) k_90_47 rfl) ?_
    refine Eq.trans (ev_istore_n (pc := 48) (lv' := [some (.int ((v0.toUInt32 >>> ((8 : Int32).toUInt32 &&& Int32.toUInt32 31)).toInt32)), some (.int (v1 + 8))]) k_90_48 rfl (Nat.le_of_ble_eq_true rfl) rfl) ?_
    exact ev_mk kd_90_49 rfl
  · exact ev_mk kd_90_49 rfl

set_option maxRecDepth 100000 in
theorem E_JI_numberOfTrailingZeros_49 (sc : zSc) (d : Nat) (g : zSg) (h : zHp) (v0 : Int32) (v1 : Int32) : zE sc d 90 49 [some (.int v0), some (.int v1)] [] g h = (if (16 : Int32) < v0 then zE sc d 90 62 [some (.int ((v0.toUInt32 >>> ((4 : Int32).toUInt32 &&& Int32.toUInt32 31)).toInt32)), some (.int (v1 + 4))] [] g h else zE sc d 90 62 [some (.int v0), some (.int v1)] [] g h) := by
  refine Eq.trans (ev_iload_n (pc := 49) k_90_49 rfl rfl) ?_
  refine Eq.trans (ev_bipush (pc := 50) (v := 16) k_90_50 rfl (by decide)) ?_
  refine Eq.trans (ev_icle (pc := 52) k_90_52.1 rfl k_90_52.2) (z_ite ?_ ?_)
  · refine Eq.trans (ev_iinc (pc := 55) (v := 4) (lv' := [some (.int v0), some (.int (v1 + 4))]) k_90_55 rfl rfl (by decide) rfl) ?_
    refine Eq.trans (ev_iload_n (pc := 58) k_90_58 rfl rfl) ?_
    refine Eq.trans (ev_iconst (pc := 59) (v := 4) k_90_59 rfl (by decide)) ?_
    refine Eq.trans (ev_iushr (pc := 60) k_90_60 rfl) ?_
    refine Eq.trans (ev_istore_n (pc := 61) (lv' := [some (.int ((v0.toUInt32 >>> ((4 : Int32).toUInt32 &&& Int32.toUInt32 31)).toInt32)), some (.int (v1 + 4))]) k_90_61 rfl (Nat.le_of_ble_eq_true rfl) rfl) ?_
    exact ev_mk kd_90_62 rfl
  · exact ev_mk kd_90_62 rfl

set_option maxRecDepth 100000 in
theorem E_JI_numberOfTrailingZeros_62 (sc : zSc) (d : Nat) (g : zSg) (h : zHp) (v0 : Int32) (v1 : Int32) : zE sc d 90 62 [some (.int v0), some (.int v1)] [] g h = (if (4 : Int32) < v0 then some (some (.int ((v1 + 2) + ((((v0.toUInt32 >>> ((2 : Int32).toUInt32 &&& Int32.toUInt32 31)).toInt32).toUInt32 >>> ((1 : Int32).toUInt32 &&& Int32.toUInt32 31)).toInt32))), g, h) else some (some (.int (v1 + ((v0.toUInt32 >>> ((1 : Int32).toUInt32 &&& Int32.toUInt32 31)).toInt32))), g, h)) := by
  refine Eq.trans (ev_iload_n (pc := 62) k_90_62 rfl rfl) ?_
  refine Eq.trans (ev_iconst (pc := 63) (v := 4) k_90_63 rfl (by decide)) ?_
  refine Eq.trans (ev_icle (pc := 64) k_90_64.1 rfl k_90_64.2) (z_ite ?_ ?_)
  · refine Eq.trans (ev_iinc (pc := 67) (v := 2) (lv' := [some (.int v0), some (.int (v1 + 2))]) k_90_67 rfl rfl (by decide) rfl) ?_
    refine Eq.trans (ev_iload_n (pc := 70) k_90_70 rfl rfl) ?_
    refine Eq.trans (ev_iconst (pc := 71) (v := 2) k_90_71 rfl (by decide)) ?_
    refine Eq.trans (ev_iushr (pc := 72) k_90_72 rfl) ?_
    refine Eq.trans (ev_istore_n (pc := 73) (lv' := [some (.int ((v0.toUInt32 >>> ((2 : Int32).toUInt32 &&& Int32.toUInt32 31)).toInt32)), some (.int (v1 + 2))]) k_90_73 rfl (Nat.le_of_ble_eq_true rfl) rfl) ?_
    refine Eq.trans (ev_iload_n (pc := 74) k_90_74 rfl rfl) ?_
    refine Eq.trans (ev_iload_n (pc := 75) k_90_75 rfl rfl) ?_
    refine Eq.trans (ev_iconst (pc := 76) (v := 1) k_90_76 rfl (by decide)) ?_
    refine Eq.trans (ev_iushr (pc := 77) k_90_77 rfl) ?_
    refine Eq.trans (ev_iadd (pc := 78) k_90_78 rfl) ?_
    exact ev_ret_int k_90_79 rfl rt_90
  · refine Eq.trans (ev_iload_n (pc := 74) k_90_74 rfl rfl) ?_
    refine Eq.trans (ev_iload_n (pc := 75) k_90_75 rfl rfl) ?_
    refine Eq.trans (ev_iconst (pc := 76) (v := 1) k_90_76 rfl (by decide)) ?_
    refine Eq.trans (ev_iushr (pc := 77) k_90_77 rfl) ?_
    refine Eq.trans (ev_iadd (pc := 78) k_90_78 rfl) ?_
    exact ev_ret_int k_90_79 rfl rt_90

set_option maxRecDepth 100000 in
theorem E_JI_bitCount (sc : zSc) (d : Nat) (g : zSg) (h : zHp) (v0 : Int32) : zRun sc d 96 [.int v0] g h = some (some (.int ((((((((v0 - (((v0.toUInt32 >>> ((1 : Int32).toUInt32 &&& Int32.toUInt32 31)).toInt32) &&& (1431655765 : Int32))) &&& (858993459 : Int32)) + ((((v0 - (((v0.toUInt32 >>> ((1 : Int32).toUInt32 &&& Int32.toUInt32 31)).toInt32) &&& (1431655765 : Int32))).toUInt32 >>> ((2 : Int32).toUInt32 &&& Int32.toUInt32 31)).toInt32) &&& (858993459 : Int32))) + (((((v0 - (((v0.toUInt32 >>> ((1 : Int32).toUInt32 &&& Int32.toUInt32 31)).toInt32) &&& (1431655765 : Int32))) &&& (858993459 : Int32)) + ((((v0 - (((v0.toUInt32 >>> ((1 : Int32).toUInt32 &&& Int32.toUInt32 31)).toInt32) &&& (1431655765 : Int32))).toUInt32 >>> ((2 : Int32).toUInt32 &&& Int32.toUInt32 31)).toInt32) &&& (858993459 : Int32))).toUInt32 >>> ((4 : Int32).toUInt32 &&& Int32.toUInt32 31)).toInt32)) &&& (252645135 : Int32)) + (((((((v0 - (((v0.toUInt32 >>> ((1 : Int32).toUInt32 &&& Int32.toUInt32 31)).toInt32) &&& (1431655765 : Int32))) &&& (858993459 : Int32)) + ((((v0 - (((v0.toUInt32 >>> ((1 : Int32).toUInt32 &&& Int32.toUInt32 31)).toInt32) &&& (1431655765 : Int32))).toUInt32 >>> ((2 : Int32).toUInt32 &&& Int32.toUInt32 31)).toInt32) &&& (858993459 : Int32))) + (((((v0 - (((v0.toUInt32 >>> ((1 : Int32).toUInt32 &&& Int32.toUInt32 31)).toInt32) &&& (1431655765 : Int32))) &&& (858993459 : Int32)) + ((((v0 - (((v0.toUInt32 >>> ((1 : Int32).toUInt32 &&& Int32.toUInt32 31)).toInt32) &&& (1431655765 : Int32))).toUInt32 >>> ((2 : Int32).toUInt32 &&& Int32.toUInt32 31)).toInt32) &&& (858993459 : Int32))).toUInt32 >>> ((4 : Int32).toUInt32 &&& Int32.toUInt32 31)).toInt32)) &&& (252645135 : Int32)).toUInt32 >>> ((8 : Int32).toUInt32 &&& Int32.toUInt32 31)).toInt32)) + ((((((((v0 - (((v0.toUInt32 >>> ((1 : Int32).toUInt32 &&& Int32.toUInt32 31)).toInt32) &&& (1431655765 : Int32))) &&& (858993459 : Int32)) + ((((v0 - (((v0.toUInt32 >>> ((1 : Int32).toUInt32 &&& Int32.toUInt32 31)).toInt32) &&& (1431655765 : Int32))).toUInt32 >>> ((2 : Int32).toUInt32 &&& Int32.toUInt32 31)).toInt32) &&& (858993459 : Int32))) + (((((v0 - (((v0.toUInt32 >>> ((1 : Int32).toUInt32 &&& Int32.toUInt32 31)).toInt32) &&& (1431655765 : Int32))) &&& (858993459 : Int32)) + ((((v0 - (((v0.toUInt32 >>> ((1 : Int32).toUInt32 &&& Int32.toUInt32 31)).toInt32) &&& (1431655765 : Int32))).toUInt32 >>> ((2 : Int32).toUInt32 &&& Int32.toUInt32 31)).toInt32) &&& (858993459 : Int32))).toUInt32 >>> ((4 : Int32).toUInt32 &&& Int32.toUInt32 31)).toInt32)) &&& (252645135 : Int32)) + (((((((v0 - (((v0.toUInt32 >>> ((1 : Int32).toUInt32 &&& Int32.toUInt32 31)).toInt32) &&& (1431655765 : Int32))) &&& (858993459 : Int32)) + ((((v0 - (((v0.toUInt32 >>> ((1 : Int32).toUInt32 &&& Int32.toUInt32 31)).toInt32) &&& (1431655765 : Int32))).toUInt32 >>> ((2 : Int32).toUInt32 &&& Int32.toUInt32 31)).toInt32) &&& (858993459 : Int32))) + (((((v0 - (((v0.toUInt32 >>> ((1 : Int32).toUInt32 &&& Int32.toUInt32 31)).toInt32) &&& (1431655765 : Int32))) &&& (858993459 : Int32)) + ((((v0 - (((v0.toUInt32 >>> ((1 : Int32).toUInt32 &&& Int32.toUInt32 31)).toInt32) &&& (1431655765 : Int32))).toUInt32 >>> ((2 : Int32).toUInt32 &&& Int32.toUInt32 31)).toInt32) &&& (858993459 : Int32))).toUInt32 >>> ((4 : Int32).toUInt32 &&& Int32.toUInt32 31)).toInt32)) &&& (252645135 : Int32)).toUInt32 >>> ((8 : Int32).toUInt32 &&& Int32.toUInt32 31)).toInt32)).toUInt32 >>> ((16 : Int32).toUInt32 &&& Int32.toUInt32 31)).toInt32)) &&& (63 : Int32))), g, h) := by
  have he : zEnt 96 [.int v0] = [some (.int v0)] := by unfold zEnt; rw [ml_96]; rfl
  unfold zRun
  rw [he]
  refine Eq.trans (ev_iload_n (pc := 0) k_96_0 rfl rfl) ?_
  refine Eq.trans (ev_iload_n (pc := 1) k_96_1 rfl rfl) ?_
  refine Eq.trans (ev_iconst (pc := 2) (v := 1) k_96_2 rfl (by decide)) ?_
  refine Eq.trans (ev_iushr (pc := 3) k_96_3 rfl) ?_
  refine Eq.trans (ev_ldcw (pc := 4) (v := 1431655765) k_96_4 rfl) ?_
  refine Eq.trans (ev_iand (pc := 7) k_96_7 rfl) ?_
  refine Eq.trans (ev_isub (pc := 8) k_96_8 rfl) ?_
  refine Eq.trans (ev_istore_n (pc := 9) (lv' := [some (.int (v0 - (((v0.toUInt32 >>> ((1 : Int32).toUInt32 &&& Int32.toUInt32 31)).toInt32) &&& (1431655765 : Int32))))]) k_96_9 rfl (Nat.le_of_ble_eq_true rfl) rfl) ?_
  refine Eq.trans (ev_iload_n (pc := 10) k_96_10 rfl rfl) ?_
  refine Eq.trans (ev_ldcw (pc := 11) (v := 858993459) k_96_11 rfl) ?_
  refine Eq.trans (ev_iand (pc := 14) k_96_14 rfl) ?_
  refine Eq.trans (ev_iload_n (pc := 15) k_96_15 rfl rfl) ?_
  refine Eq.trans (ev_iconst (pc := 16) (v := 2) k_96_16 rfl (by decide)) ?_
  refine Eq.trans (ev_iushr (pc := 17) k_96_17 rfl) ?_
  refine Eq.trans (ev_ldcw (pc := 18) (v := 858993459) k_96_18 rfl) ?_
  refine Eq.trans (ev_iand (pc := 21) k_96_21 rfl) ?_
  refine Eq.trans (ev_iadd (pc := 22) k_96_22 rfl) ?_
  refine Eq.trans (ev_istore_n (pc := 23) (lv' := [some (.int (((v0 - (((v0.toUInt32 >>> ((1 : Int32).toUInt32 &&& Int32.toUInt32 31)).toInt32) &&& (1431655765 : Int32))) &&& (858993459 : Int32)) + ((((v0 - (((v0.toUInt32 >>> ((1 : Int32).toUInt32 &&& Int32.toUInt32 31)).toInt32) &&& (1431655765 : Int32))).toUInt32 >>> ((2 : Int32).toUInt32 &&& Int32.toUInt32 31)).toInt32) &&& (858993459 : Int32))))]) k_96_23 rfl (Nat.le_of_ble_eq_true rfl) rfl) ?_
  refine Eq.trans (ev_iload_n (pc := 24) k_96_24 rfl rfl) ?_
  refine Eq.trans (ev_iload_n (pc := 25) k_96_25 rfl rfl) ?_
  refine Eq.trans (ev_iconst (pc := 26) (v := 4) k_96_26 rfl (by decide)) ?_
  refine Eq.trans (ev_iushr (pc := 27) k_96_27 rfl) ?_
  refine Eq.trans (ev_iadd (pc := 28) k_96_28 rfl) ?_
  refine Eq.trans (ev_ldcw (pc := 29) (v := 252645135) k_96_29 rfl) ?_
  refine Eq.trans (ev_iand (pc := 32) k_96_32 rfl) ?_
  refine Eq.trans (ev_istore_n (pc := 33) (lv' := [some (.int (((((v0 - (((v0.toUInt32 >>> ((1 : Int32).toUInt32 &&& Int32.toUInt32 31)).toInt32) &&& (1431655765 : Int32))) &&& (858993459 : Int32)) + ((((v0 - (((v0.toUInt32 >>> ((1 : Int32).toUInt32 &&& Int32.toUInt32 31)).toInt32) &&& (1431655765 : Int32))).toUInt32 >>> ((2 : Int32).toUInt32 &&& Int32.toUInt32 31)).toInt32) &&& (858993459 : Int32))) + (((((v0 - (((v0.toUInt32 >>> ((1 : Int32).toUInt32 &&& Int32.toUInt32 31)).toInt32) &&& (1431655765 : Int32))) &&& (858993459 : Int32)) + ((((v0 - (((v0.toUInt32 >>> ((1 : Int32).toUInt32 &&& Int32.toUInt32 31)).toInt32) &&& (1431655765 : Int32))).toUInt32 >>> ((2 : Int32).toUInt32 &&& Int32.toUInt32 31)).toInt32) &&& (858993459 : Int32))).toUInt32 >>> ((4 : Int32).toUInt32 &&& Int32.toUInt32 31)).toInt32)) &&& (252645135 : Int32)))]) k_96_33 rfl (Nat.le_of_ble_eq_true rfl) rfl) ?_
  refine Eq.trans (ev_iload_n (pc := 34) k_96_34 rfl rfl) ?_
  refine Eq.trans (ev_iload_n (pc := 35) k_96_35 rfl rfl) ?_
  refine Eq.trans (ev_bipush (pc := 36) (v := 8) k_96_36 rfl (by decide)) ?_
  refine Eq.trans (ev_iushr (pc := 38) k_96_38 rfl) ?_
  refine Eq.trans (ev_iadd (pc := 39) k_96_39 rfl) ?_
  refine Eq.trans (ev_istore_n (pc := 40) (lv' := [some (.int ((((((v0 - (((v0.toUInt32 >>> ((1 : Int32).toUInt32 &&& Int32.toUInt32 31)).toInt32) &&& (1431655765 : Int32))) &&& (858993459 : Int32)) + ((((v0 - (((v0.toUInt32 >>> ((1 : Int32).toUInt32 &&& Int32.toUInt32 31)).toInt32) &&& (1431655765 : Int32))).toUInt32 >>> ((2 : Int32).toUInt32 &&& Int32.toUInt32 31)).toInt32) &&& (858993459 : Int32))) + (((((v0 - (((v0.toUInt32 >>> ((1 : Int32).toUInt32 &&& Int32.toUInt32 31)).toInt32) &&& (1431655765 : Int32))) &&& (858993459 : Int32)) + ((((v0 - (((v0.toUInt32 >>> ((1 : Int32).toUInt32 &&& Int32.toUInt32 31)).toInt32) &&& (1431655765 : Int32))).toUInt32 >>> ((2 : Int32).toUInt32 &&& Int32.toUInt32 31)).toInt32) &&& (858993459 : Int32))).toUInt32 >>> ((4 : Int32).toUInt32 &&& Int32.toUInt32 31)).toInt32)) &&& (252645135 : Int32)) + (((((((v0 - (((v0.toUInt32 >>> ((1 : Int32).toUInt32 &&& Int32.toUInt32 31)).toInt32) &&& (1431655765 : Int32))) &&& (858993459 : Int32)) + ((((v0 - (((v0.toUInt32 >>> ((1 : Int32).toUInt32 &&& Int32.toUInt32 31)).toInt32) &&& (1431655765 : Int32))).toUInt32 >>> ((2 : Int32).toUInt32 &&& Int32.toUInt32 31)).toInt32) &&& (858993459 : Int32))) + (((((v0 - (((v0.toUInt32 >>> ((1 : Int32).toUInt32 &&& Int32.toUInt32 31)).toInt32) &&& (1431655765 : Int32))) &&& (858993459 : Int32)) + ((((v0 - (((v0.toUInt32 >>> ((1 : Int32).toUInt32 &&& Int32.toUInt32 31)).toInt32) &&& (1431655765 : Int32))).toUInt32 >>> ((2 : Int32).toUInt32 &&& Int32.toUInt32 31)).toInt32) &&& (858993459 : Int32))).toUInt32 >>> ((4 : Int32).toUInt32 &&& Int32.toUInt32 31)).toInt32)) &&& (252645135 : Int32)).toUInt32 >>> ((8 : Int32).toUInt32 &&& Int32.toUInt32 31)).toInt32)))]) k_96_40 rfl (Nat.le_of_ble_eq_true rfl) rfl) ?_
  refine Eq.trans (ev_iload_n (pc := 41) k_96_41 rfl rfl) ?_
  refine Eq.trans (ev_iload_n (pc := 42) k_96_42 rfl rfl) ?_
  refine Eq.trans (ev_bipush (pc := 43) (v := 16) k_96_43 rfl (by decide)) ?_
  refine Eq.trans (ev_iushr (pc := 45) k_96_45 rfl) ?_
  refine Eq.trans (ev_iadd (pc := 46) k_96_46 rfl) ?_
  refine Eq.trans (ev_istore_n (pc := 47) (lv' := [some (.int (((((((v0 - (((v0.toUInt32 >>> ((1 : Int32).toUInt32 &&& Int32.toUInt32 31)).toInt32) &&& (1431655765 : Int32))) &&& (858993459 : Int32)) + ((((v0 - (((v0.toUInt32 >>> ((1 : Int32).toUInt32 &&& Int32.toUInt32 31)).toInt32) &&& (1431655765 : Int32))).toUInt32 >>> ((2 : Int32).toUInt32 &&& Int32.toUInt32 31)).toInt32) &&& (858993459 : Int32))) + (((((v0 - (((v0.toUInt32 >>> ((1 : Int32).toUInt32 &&& Int32.toUInt32 31)).toInt32) &&& (1431655765 : Int32))) &&& (858993459 : Int32)) + ((((v0 - (((v0.toUInt32 >>> ((1 : Int32).toUInt32 &&& Int32.toUInt32 31)).toInt32) &&& (1431655765 : Int32))).toUInt32 >>> ((2 : Int32).toUInt32 &&& Int32.toUInt32 31)).toInt32) &&& (858993459 : Int32))).toUInt32 >>> ((4 : Int32).toUInt32 &&& Int32.toUInt32 31)).toInt32)) &&& (252645135 : Int32)) + (((((((v0 - (((v0.toUInt32 >>> ((1 : Int32).toUInt32 &&& Int32.toUInt32 31)).toInt32) &&& (1431655765 : Int32))) &&& (858993459 : Int32)) + ((((v0 - (((v0.toUInt32 >>> ((1 : Int32).toUInt32 &&& Int32.toUInt32 31)).toInt32) &&& (1431655765 : Int32))).toUInt32 >>> ((2 : Int32).toUInt32 &&& Int32.toUInt32 31)).toInt32) &&& (858993459 : Int32))) + (((((v0 - (((v0.toUInt32 >>> ((1 : Int32).toUInt32 &&& Int32.toUInt32 31)).toInt32) &&& (1431655765 : Int32))) &&& (858993459 : Int32)) + ((((v0 - (((v0.toUInt32 >>> ((1 : Int32).toUInt32 &&& Int32.toUInt32 31)).toInt32) &&& (1431655765 : Int32))).toUInt32 >>> ((2 : Int32).toUInt32 &&& Int32.toUInt32 31)).toInt32) &&& (858993459 : Int32))).toUInt32 >>> ((4 : Int32).toUInt32 &&& Int32.toUInt32 31)).toInt32)) &&& (252645135 : Int32)).toUInt32 >>> ((8 : Int32).toUInt32 &&& Int32.toUInt32 31)).toInt32)) + ((((((((v0 - (((v0.toUInt32 >>> ((1 : Int32).toUInt32 &&& Int32.toUInt32 31)).toInt32) &&& (1431655765 : Int32))) &&& (858993459 : Int32)) + ((((v0 - (((v0.toUInt32 >>> ((1 : Int32).toUInt32 &&& Int32.toUInt32 31)).toInt32) &&& (1431655765 : Int32))).toUInt32 >>> ((2 : Int32).toUInt32 &&& Int32.toUInt32 31)).toInt32) &&& (858993459 : Int32))) + (((((v0 - (((v0.toUInt32 >>> ((1 : Int32).toUInt32 &&& Int32.toUInt32 31)).toInt32) &&& (1431655765 : Int32))) &&& (858993459 : Int32)) + ((((v0 - (((v0.toUInt32 >>> ((1 : Int32).toUInt32 &&& Int32.toUInt32 31)).toInt32) &&& (1431655765 : Int32))).toUInt32 >>> ((2 : Int32).toUInt32 &&& Int32.toUInt32 31)).toInt32) &&& (858993459 : Int32))).toUInt32 >>> ((4 : Int32).toUInt32 &&& Int32.toUInt32 31)).toInt32)) &&& (252645135 : Int32)) + (((((((v0 - (((v0.toUInt32 >>> ((1 : Int32).toUInt32 &&& Int32.toUInt32 31)).toInt32) &&& (1431655765 : Int32))) &&& (858993459 : Int32)) + ((((v0 - (((v0.toUInt32 >>> ((1 : Int32).toUInt32 &&& Int32.toUInt32 31)).toInt32) &&& (1431655765 : Int32))).toUInt32 >>> ((2 : Int32).toUInt32 &&& Int32.toUInt32 31)).toInt32) &&& (858993459 : Int32))) + (((((v0 - (((v0.toUInt32 >>> ((1 : Int32).toUInt32 &&& Int32.toUInt32 31)).toInt32) &&& (1431655765 : Int32))) &&& (858993459 : Int32)) + ((((v0 - (((v0.toUInt32 >>> ((1 : Int32).toUInt32 &&& Int32.toUInt32 31)).toInt32) &&& (1431655765 : Int32))).toUInt32 >>> ((2 : Int32).toUInt32 &&& Int32.toUInt32 31)).toInt32) &&& (858993459 : Int32))).toUInt32 >>> ((4 : Int32).toUInt32 &&& Int32.toUInt32 31)).toInt32)) &&& (252645135 : Int32)).toUInt32 >>> ((8 : Int32).toUInt32 &&& Int32.toUInt32 31)).toInt32)).toUInt32 >>> ((16 : Int32).toUInt32 &&& Int32.toUInt32 31)).toInt32)))]) k_96_47 rfl (Nat.le_of_ble_eq_true rfl) rfl) ?_
  refine Eq.trans (ev_iload_n (pc := 48) k_96_48 rfl rfl) ?_
  refine Eq.trans (ev_bipush (pc := 49) (v := 63) k_96_49 rfl (by decide)) ?_
  refine Eq.trans (ev_iand (pc := 51) k_96_51 rfl) ?_
  exact ev_ret_int k_96_52 rfl rt_96

set_option maxRecDepth 100000 in
theorem E_JM_abs (sc : zSc) (d : Nat) (g : zSg) (h : zHp) (v0 : Int32) : zRun sc d 103 [.int v0] g h = (if v0 < 0 then some (some (.int (-v0)), g, h) else some (some (.int v0), g, h)) := by
  have he : zEnt 103 [.int v0] = [some (.int v0)] := by unfold zEnt; rw [ml_103]; rfl
  unfold zRun
  rw [he]
  refine Eq.trans (ev_iload_n (pc := 0) k_103_0 rfl rfl) ?_
  refine Eq.trans (ev_ifge (pc := 1) k_103_1.1 rfl k_103_1.2) (z_ite ?_ ?_)
  · refine Eq.trans (ev_iload_n (pc := 4) k_103_4 rfl rfl) ?_
    refine Eq.trans (ev_ineg (pc := 5) k_103_5 rfl) ?_
    refine Eq.trans (ev_goto (pc := 6) k_103_6.1 rfl k_103_6.2) ?_
    refine Eq.trans (ev_mk (pc := 10) (lv' := [none]) kd_103_10 rfl) ?_
    exact ev_ret_int k_103_10 rfl rt_103
  · refine Eq.trans (ev_iload_n (pc := 9) k_103_9 rfl rfl) ?_
    refine Eq.trans (ev_mk (pc := 10) (lv' := [none]) kd_103_10 rfl) ?_
    exact ev_ret_int k_103_10 rfl rt_103

set_option maxRecDepth 100000 in
theorem E_X_has (sc : zSc) (d : Nat) (g : zSg) (h : zHp) (v0 : Int32) (v1 : Int32) : zRun sc d 11 [.int v0, .int v1] g h = (if ((v0 >>> (v1 &&& 31)) &&& (1 : Int32)) = 0 then some (some (.int 0), g, h) else some (some (.int 1), g, h)) := by
  have he : zEnt 11 [.int v0, .int v1] = [some (.int v0), some (.int v1)] := by unfold zEnt; rw [ml_11]; rfl
  unfold zRun
  rw [he]
  refine Eq.trans (ev_iload_n (pc := 0) k_11_0 rfl rfl) ?_
  refine Eq.trans (ev_iload_n (pc := 1) k_11_1 rfl rfl) ?_
  refine Eq.trans (ev_ishr (pc := 2) k_11_2 rfl) ?_
  refine Eq.trans (ev_iconst (pc := 3) (v := 1) k_11_3 rfl (by decide)) ?_
  refine Eq.trans (ev_iand (pc := 4) k_11_4 rfl) ?_
  refine Eq.trans (ev_ifeq (pc := 5) k_11_5.1 rfl k_11_5.2) (z_ite ?_ ?_)
  · refine Eq.trans (ev_iconst (pc := 12) (v := 0) k_11_12 rfl (by decide)) ?_
    refine Eq.trans (ev_mk (pc := 13) (lv' := [none, none]) kd_11_13 rfl) ?_
    exact ev_ret_b1 k_11_13 rfl rt_11 (by decide)
  · refine Eq.trans (ev_iconst (pc := 8) (v := 1) k_11_8 rfl (by decide)) ?_
    refine Eq.trans (ev_goto (pc := 9) k_11_9.1 rfl k_11_9.2) ?_
    refine Eq.trans (ev_mk (pc := 13) (lv' := [none, none]) kd_11_13 rfl) ?_
    exact ev_ret_b1 k_11_13 rfl rt_11 (by decide)

set_option maxRecDepth 100000 in
theorem E_Fa_havingAll (sc : zSc) (d : Nat) (g : zSg) (h : zHp) (w0 : Int64) (v2 : Int32) : zRun sc (d + 1) 10 [.long w0, .int v2] g h = zE sc (d + 1) 10 5 [none, none, some (.int v2), some (.long w0), none, some (.int 0)] [] g h := by
  have he : zEnt 10 [.long w0, .int v2] = [some (.long w0), none, some (.int v2), none, none, none] := by unfold zEnt; rw [ml_10]; rfl
  unfold zRun
  rw [he]
  refine Eq.trans (ev_lload_n (pc := 0) k_10_0 rfl rfl) ?_
  refine Eq.trans (ev_lstore_n (pc := 1) (lv' := [some (.long w0), none, some (.int v2), some (.long w0), none, none]) k_10_1 rfl (Nat.le_of_ble_eq_true rfl) rfl) ?_
  refine Eq.trans (ev_iconst (pc := 2) (v := 0) k_10_2 rfl (by decide)) ?_
  refine Eq.trans (ev_istore (pc := 3) (lv' := [some (.long w0), none, some (.int v2), some (.long w0), none, some (.int 0)]) k_10_3 rfl (Nat.le_of_ble_eq_true rfl) rfl) ?_
  exact ev_mk kd_10_5 rfl

set_option maxRecDepth 100000 in
theorem E_Fa_havingAll_5 (sc : zSc) (d : Nat) (g : zSg) (h : zHp) (v2 : Int32) (w3 : Int64) (v5 : Int32) : zE sc (d + 1) 10 5 [none, none, some (.int v2), some (.long w3), none, some (.int v5)] [] g h = (if v5 < (6 : Int32) then (zBi (zRun sc d 11 [.int v2, .int v5] g h) g fun x1 h1 => (if x1 = 0 then zE sc (d + 1) 10 5 [none, none, some (.int v2), some (.long w3), none, some (.int (v5 + 1))] [] g h1 else (zBj (zRun sc d 12 [.long w3, .int v5] g h1) g fun x2 h2 => zE sc (d + 1) 10 5 [none, none, some (.int v2), some (.long x2), none, some (.int (v5 + 1))] [] g h2))) else some (some (.long w3), g, h)) := by
  refine Eq.trans (ev_iload (pc := 5) k_10_5 rfl rfl) ?_
  refine Eq.trans (ev_bipush (pc := 7) (v := 6) k_10_7 rfl (by decide)) ?_
  refine Eq.trans (ev_icge (pc := 9) k_10_9.1 rfl k_10_9.2) (z_ite ?_ ?_)
  · refine Eq.trans (ev_iload_n (pc := 12) k_10_12 rfl rfl) ?_
    refine Eq.trans (ev_iload (pc := 13) k_10_13 rfl rfl) ?_
    refine Eq.trans (ev_si (pc := 15) (as := [.int v2, .int v5]) (rest := []) k_10_15 rfl rfl rfl (Nat.le_of_ble_eq_true rfl) (Nat.le_of_ble_eq_true rfl)) (z_cbi fun x1 h1 => ?_)
    refine Eq.trans (ev_ifeq (pc := 18) k_10_18.1 rfl k_10_18.2) (z_ite ?_ ?_)
    · refine Eq.trans (ev_iinc (pc := 28) (v := 1) (lv' := [none, none, some (.int v2), some (.long w3), none, some (.int (v5 + 1))]) k_10_28 rfl rfl (by decide) rfl) ?_
      refine Eq.trans (ev_goto (pc := 31) k_10_31.1 rfl k_10_31.2) ?_
      exact ev_mk kd_10_5 rfl
    · refine Eq.trans (ev_lload_n (pc := 21) k_10_21 rfl rfl) ?_
      refine Eq.trans (ev_iload (pc := 22) k_10_22 rfl rfl) ?_
      refine Eq.trans (ev_sj (pc := 24) (as := [.long w3, .int v5]) (rest := []) k_10_24 rfl rfl rfl (Nat.le_of_ble_eq_true rfl) (Nat.le_of_ble_eq_true rfl)) (z_cbj fun x2 h2 => ?_)
      refine Eq.trans (ev_lstore_n (pc := 27) (lv' := [none, none, some (.int v2), some (.long x2), none, some (.int v5)]) k_10_27 rfl (Nat.le_of_ble_eq_true rfl) rfl) ?_
      refine Eq.trans (ev_iinc (pc := 28) (v := 1) (lv' := [none, none, some (.int v2), some (.long x2), none, some (.int (v5 + 1))]) k_10_28 rfl rfl (by decide) rfl) ?_
      refine Eq.trans (ev_goto (pc := 31) k_10_31.1 rfl k_10_31.2) ?_
      exact ev_mk kd_10_5 rfl
  · refine Eq.trans (ev_lload_n (pc := 34) k_10_34 rfl rfl) ?_
    exact ev_ret_long k_10_35 rfl rt_10

set_option maxRecDepth 100000 in
theorem E_Fa_having (sc : zSc) (d : Nat) (g : zSg) (h : zHp) (w0 : Int64) (v2 : Int32) : zRun sc d 12 [.long w0, .int v2] g h = (if v2 < 0 then some (some (.long 0), g, h) else (if v2 < (6 : Int32) then (if zin v2 6 = true then some (some (.long (w0 &&& (zWi v2.toNatClampNeg))), g, h) else none) else some (some (.long 0), g, h))) := by
  have he : zEnt 12 [.long w0, .int v2] = [some (.long w0), none, some (.int v2)] := by unfold zEnt; rw [ml_12]; rfl
  unfold zRun
  rw [he]
  refine Eq.trans (ev_iload_n (pc := 0) k_12_0 rfl rfl) ?_
  refine Eq.trans (ev_iflt (pc := 1) k_12_1.1 rfl k_12_1.2) (z_ite ?_ ?_)
  · refine Eq.trans (ev_mk (pc := 22) (lv' := [none, none, none]) kd_12_22 rfl) ?_
    refine Eq.trans (ev_lconst (pc := 22) (v := 0) k_12_22 rfl (by decide)) ?_
    exact ev_ret_long k_12_23 rfl rt_12
  · refine Eq.trans (ev_iload_n (pc := 4) k_12_4 rfl rfl) ?_
    refine Eq.trans (ev_gsW (pc := 5) k_12_5 rfl) ?_
    refine Eq.trans (ev_alenW (pc := 8) k_12_8 rfl) ?_
    refine Eq.trans (ev_icge (pc := 9) k_12_9.1 rfl k_12_9.2) (z_ite ?_ ?_)
    · refine Eq.trans (ev_lload_n (pc := 12) k_12_12 rfl rfl) ?_
      refine Eq.trans (ev_gsW (pc := 13) k_12_13 rfl) ?_
      refine Eq.trans (ev_iload_n (pc := 16) k_12_16 rfl rfl) ?_
      refine Eq.trans (ev_wld_c (pc := 17) k_12_17 rfl) (z_it1 ?_)
      refine Eq.trans (ev_land (pc := 18) k_12_18 rfl) ?_
      refine Eq.trans (ev_goto (pc := 19) k_12_19.1 rfl k_12_19.2) ?_
      refine Eq.trans (ev_mk (pc := 23) (lv' := [none, none, none]) kd_12_23 rfl) ?_
      exact ev_ret_long k_12_23 rfl rt_12
    · refine Eq.trans (ev_mk (pc := 22) (lv' := [none, none, none]) kd_12_22 rfl) ?_
      refine Eq.trans (ev_lconst (pc := 22) (v := 0) k_12_22 rfl (by decide)) ?_
      exact ev_ret_long k_12_23 rfl rt_12

set_option maxRecDepth 100000 in
theorem E_Fa_lacking (sc : zSc) (d : Nat) (g : zSg) (h : zHp) (w0 : Int64) (v2 : Int32) : zRun sc d 13 [.long w0, .int v2] g h = (if v2 < 0 then some (some (.long w0), g, h) else (if v2 < (6 : Int32) then (if zin v2 6 = true then some (some (.long (w0 &&& ((zWi v2.toNatClampNeg) ^^^ ((-1) : Int64)))), g, h) else none) else some (some (.long w0), g, h))) := by
  have he : zEnt 13 [.long w0, .int v2] = [some (.long w0), none, some (.int v2)] := by unfold zEnt; rw [ml_13]; rfl
  unfold zRun
  rw [he]
  refine Eq.trans (ev_iload_n (pc := 0) k_13_0 rfl rfl) ?_
  refine Eq.trans (ev_iflt (pc := 1) k_13_1.1 rfl k_13_1.2) (z_ite ?_ ?_)
  · refine Eq.trans (ev_mk (pc := 26) (lv' := [some (.long w0), none, none]) kd_13_26 rfl) ?_
    refine Eq.trans (ev_lload_n (pc := 26) k_13_26 rfl rfl) ?_
    refine Eq.trans (ev_mk (pc := 27) (lv' := [none, none, none]) kd_13_27 rfl) ?_
    exact ev_ret_long k_13_27 rfl rt_13
  · refine Eq.trans (ev_iload_n (pc := 4) k_13_4 rfl rfl) ?_
    refine Eq.trans (ev_gsW (pc := 5) k_13_5 rfl) ?_
    refine Eq.trans (ev_alenW (pc := 8) k_13_8 rfl) ?_
    refine Eq.trans (ev_icge (pc := 9) k_13_9.1 rfl k_13_9.2) (z_ite ?_ ?_)
    · refine Eq.trans (ev_lload_n (pc := 12) k_13_12 rfl rfl) ?_
      refine Eq.trans (ev_gsW (pc := 13) k_13_13 rfl) ?_
      refine Eq.trans (ev_iload_n (pc := 16) k_13_16 rfl rfl) ?_
      refine Eq.trans (ev_wld_c (pc := 17) k_13_17 rfl) (z_it1 ?_)
      refine Eq.trans (ev_ldc2 (pc := 18) (v := (-1)) k_13_18 rfl) ?_
      refine Eq.trans (ev_lxor (pc := 21) k_13_21 rfl) ?_
      refine Eq.trans (ev_land (pc := 22) k_13_22 rfl) ?_
      refine Eq.trans (ev_goto (pc := 23) k_13_23.1 rfl k_13_23.2) ?_
      refine Eq.trans (ev_mk (pc := 27) (lv' := [none, none, none]) kd_13_27 rfl) ?_
      exact ev_ret_long k_13_27 rfl rt_13
    · refine Eq.trans (ev_mk (pc := 26) (lv' := [some (.long w0), none, none]) kd_13_26 rfl) ?_
      refine Eq.trans (ev_lload_n (pc := 26) k_13_26 rfl rfl) ?_
      refine Eq.trans (ev_mk (pc := 27) (lv' := [none, none, none]) kd_13_27 rfl) ?_
      exact ev_ret_long k_13_27 rfl rt_13

set_option maxRecDepth 100000 in
theorem E_Fa_holds (sc : zSc) (d : Nat) (g : zSg) (h : zHp) (w0 : Int64) (v2 : Int32) : zRun sc d 14 [.long w0, .int v2] g h = (if (((w0.toUInt64 >>> (v2.toInt64.toUInt64 &&& Int64.toUInt64 63)).toInt64) &&& (1 : Int64)) = (0 : Int64) then some (some (.int 0), g, h) else some (some (.int 1), g, h)) := by
  have he : zEnt 14 [.long w0, .int v2] = [some (.long w0), none, some (.int v2)] := by unfold zEnt; rw [ml_14]; rfl
  unfold zRun
  rw [he]
  refine Eq.trans (ev_lload_n (pc := 0) k_14_0 rfl rfl) ?_
  refine Eq.trans (ev_iload_n (pc := 1) k_14_1 rfl rfl) ?_
  refine Eq.trans (ev_lushr (pc := 2) k_14_2 rfl) ?_
  refine Eq.trans (ev_lconst (pc := 3) (v := 1) k_14_3 rfl (by decide)) ?_
  refine Eq.trans (ev_land (pc := 4) k_14_4 rfl) ?_
  refine Eq.trans (ev_lconst (pc := 5) (v := 0) k_14_5 rfl (by decide)) ?_
  refine Eq.trans (ev_lcmp (pc := 6) k_14_6 rfl) ?_
  refine Eq.trans (ev_ileq (pc := 7) k_14_7.1 rfl k_14_7.2) (z_ite ?_ ?_)
  · refine Eq.trans (ev_iconst (pc := 14) (v := 0) k_14_14 rfl (by decide)) ?_
    refine Eq.trans (ev_mk (pc := 15) (lv' := [none, none, none]) kd_14_15 rfl) ?_
    exact ev_ret_b1 k_14_15 rfl rt_14 (by decide)
  · refine Eq.trans (ev_iconst (pc := 10) (v := 1) k_14_10 rfl (by decide)) ?_
    refine Eq.trans (ev_goto (pc := 11) k_14_11.1 rfl k_14_11.2) ?_
    refine Eq.trans (ev_mk (pc := 15) (lv' := [none, none, none]) kd_14_15 rfl) ?_
    exact ev_ret_b1 k_14_15 rfl rt_14 (by decide)

set_option maxRecDepth 100000 in
theorem E_Fa_inNone (sc : zSc) (d : Nat) (g : zSg) (h : zHp) (w0 : Int64) (v2 : Int32) : zRun sc (d + 1) 57 [.long w0, .int v2] g h = zE sc (d + 1) 57 5 [some (.long w0), none, some (.int v2), some (.int 0), some (.int 0)] [] g h := by
  have he : zEnt 57 [.long w0, .int v2] = [some (.long w0), none, some (.int v2), none, none] := by unfold zEnt; rw [ml_57]; rfl
  unfold zRun
  rw [he]
  refine Eq.trans (ev_iconst (pc := 0) (v := 0) k_57_0 rfl (by decide)) ?_
  refine Eq.trans (ev_istore_n (pc := 1) (lv' := [some (.long w0), none, some (.int v2), some (.int 0), none]) k_57_1 rfl (Nat.le_of_ble_eq_true rfl) rfl) ?_
  refine Eq.trans (ev_iconst (pc := 2) (v := 0) k_57_2 rfl (by decide)) ?_
  refine Eq.trans (ev_istore (pc := 3) (lv' := [some (.long w0), none, some (.int v2), some (.int 0), some (.int 0)]) k_57_3 rfl (Nat.le_of_ble_eq_true rfl) rfl) ?_
  exact ev_mk kd_57_5 rfl

set_option maxRecDepth 100000 in
theorem E_Fa_inNone_5 (sc : zSc) (d : Nat) (g : zSg) (h : zHp) (w0 : Int64) (v2 : Int32) (v3 : Int32) (v4 : Int32) : zE sc (d + 1) 57 5 [some (.long w0), none, some (.int v2), some (.int v3), some (.int v4)] [] g h = (if v4 < v2 then (if w0 = (0 : Int64) then some (some (.int v3), g, h) else (zBj (zRun sc d 12 [.long w0, .int v4] g h) g fun x1 h1 => (if x1 = (0 : Int64) then zE sc (d + 1) 57 5 [some (.long w0), none, some (.int v2), some (.int (v3 ||| ((1 : Int32) <<< (v4 &&& 31)))), some (.int (v4 + 1))] [] g h1 else zE sc (d + 1) 57 5 [some (.long w0), none, some (.int v2), some (.int v3), some (.int (v4 + 1))] [] g h1))) else some (some (.int v3), g, h)) := by
  refine Eq.trans (ev_iload (pc := 5) k_57_5 rfl rfl) ?_
  refine Eq.trans (ev_iload_n (pc := 7) k_57_7 rfl rfl) ?_
  refine Eq.trans (ev_icge (pc := 8) k_57_8.1 rfl k_57_8.2) (z_ite ?_ ?_)
  · refine Eq.trans (ev_lload_n (pc := 11) k_57_11 rfl rfl) ?_
    refine Eq.trans (ev_lconst (pc := 12) (v := 0) k_57_12 rfl (by decide)) ?_
    refine Eq.trans (ev_lcmp (pc := 13) k_57_13 rfl) ?_
    refine Eq.trans (ev_ileq (pc := 14) k_57_14.1 rfl k_57_14.2) (z_ite ?_ ?_)
    · refine Eq.trans (ev_mk (pc := 41) (lv' := [none, none, none, some (.int v3), none]) kd_57_41 rfl) ?_
      refine Eq.trans (ev_iload_n (pc := 41) k_57_41 rfl rfl) ?_
      exact ev_ret_int k_57_42 rfl rt_57
    · refine Eq.trans (ev_lload_n (pc := 17) k_57_17 rfl rfl) ?_
      refine Eq.trans (ev_iload (pc := 18) k_57_18 rfl rfl) ?_
      refine Eq.trans (ev_sj (pc := 20) (as := [.long w0, .int v4]) (rest := []) k_57_20 rfl rfl rfl (Nat.le_of_ble_eq_true rfl) (Nat.le_of_ble_eq_true rfl)) (z_cbj fun x1 h1 => ?_)
      refine Eq.trans (ev_lconst (pc := 23) (v := 0) k_57_23 rfl (by decide)) ?_
      refine Eq.trans (ev_lcmp (pc := 24) k_57_24 rfl) ?_
      refine Eq.trans (ev_ilne (pc := 25) k_57_25.1 rfl k_57_25.2) (z_ite ?_ ?_)
      · refine Eq.trans (ev_iload_n (pc := 28) k_57_28 rfl rfl) ?_
        refine Eq.trans (ev_iconst (pc := 29) (v := 1) k_57_29 rfl (by decide)) ?_
        refine Eq.trans (ev_iload (pc := 30) k_57_30 rfl rfl) ?_
        refine Eq.trans (ev_ishl (pc := 32) k_57_32 rfl) ?_
        refine Eq.trans (ev_ior (pc := 33) k_57_33 rfl) ?_
        refine Eq.trans (ev_istore_n (pc := 34) (lv' := [some (.long w0), none, some (.int v2), some (.int (v3 ||| ((1 : Int32) <<< (v4 &&& 31)))), some (.int v4)]) k_57_34 rfl (Nat.le_of_ble_eq_true rfl) rfl) ?_
        refine Eq.trans (ev_iinc (pc := 35) (v := 1) (lv' := [some (.long w0), none, some (.int v2), some (.int (v3 ||| ((1 : Int32) <<< (v4 &&& 31)))), some (.int (v4 + 1))]) k_57_35 rfl rfl (by decide) rfl) ?_
        refine Eq.trans (ev_goto (pc := 38) k_57_38.1 rfl k_57_38.2) ?_
        exact ev_mk kd_57_5 rfl
      · refine Eq.trans (ev_iinc (pc := 35) (v := 1) (lv' := [some (.long w0), none, some (.int v2), some (.int v3), some (.int (v4 + 1))]) k_57_35 rfl rfl (by decide) rfl) ?_
        refine Eq.trans (ev_goto (pc := 38) k_57_38.1 rfl k_57_38.2) ?_
        exact ev_mk kd_57_5 rfl
  · refine Eq.trans (ev_mk (pc := 41) (lv' := [none, none, none, some (.int v3), none]) kd_57_41 rfl) ?_
    refine Eq.trans (ev_iload_n (pc := 41) k_57_41 rfl rfl) ?_
    exact ev_ret_int k_57_42 rfl rt_57

set_option maxRecDepth 100000 in
theorem E_Fa_countOrSet (sc : zSc) (d : Nat) (g : zSg) (h : zHp) (w0 : Int64) (v2 : Int32) : zRun sc (d + 1) 63 [.long w0, .int v2] g h = (if v2 = ((-1) : Int32) then (zBi (zRun sc d 50 [.long w0] g h) g fun x1 h1 => some (some (.int x1), g, h1)) else zE sc (d + 1) 63 15 [some (.long w0), none, some (.int v2), some (.int 0), some (.int 0)] [] g h) := by
  have he : zEnt 63 [.long w0, .int v2] = [some (.long w0), none, some (.int v2), none, none] := by unfold zEnt; rw [ml_63]; rfl
  unfold zRun
  rw [he]
  refine Eq.trans (ev_iload_n (pc := 0) k_63_0 rfl rfl) ?_
  refine Eq.trans (ev_iconst (pc := 1) (v := (-1)) k_63_1 rfl (by decide)) ?_
  refine Eq.trans (ev_icne (pc := 2) k_63_2.1 rfl k_63_2.2) (z_ite ?_ ?_)
  · refine Eq.trans (ev_lload_n (pc := 5) k_63_5 rfl rfl) ?_
    refine Eq.trans (ev_si (pc := 6) (as := [.long w0]) (rest := []) k_63_6 rfl rfl rfl (Nat.le_of_ble_eq_true rfl) (Nat.le_of_ble_eq_true rfl)) (z_cbi fun x1 h1 => ?_)
    exact ev_ret_int k_63_9 rfl rt_63
  · refine Eq.trans (ev_iconst (pc := 10) (v := 0) k_63_10 rfl (by decide)) ?_
    refine Eq.trans (ev_istore_n (pc := 11) (lv' := [some (.long w0), none, some (.int v2), some (.int 0), none]) k_63_11 rfl (Nat.le_of_ble_eq_true rfl) rfl) ?_
    refine Eq.trans (ev_iconst (pc := 12) (v := 0) k_63_12 rfl (by decide)) ?_
    refine Eq.trans (ev_istore (pc := 13) (lv' := [some (.long w0), none, some (.int v2), some (.int 0), some (.int 0)]) k_63_13 rfl (Nat.le_of_ble_eq_true rfl) rfl) ?_
    exact ev_mk kd_63_15 rfl

set_option maxRecDepth 100000 in
theorem E_Fa_countOrSet_15 (sc : zSc) (d : Nat) (g : zSg) (h : zHp) (w0 : Int64) (v2 : Int32) (v3 : Int32) (v4 : Int32) : zE sc (d + 1) 63 15 [some (.long w0), none, some (.int v2), some (.int v3), some (.int v4)] [] g h = (if v4 < (64 : Int32) then (zBi (zRun sc d 14 [.long w0, .int v4] g h) g fun x1 h1 => (if x1 = 0 then zE sc (d + 1) 63 15 [some (.long w0), none, some (.int v2), some (.int v3), some (.int (v4 + 1))] [] g h1 else (if v3 = v2 then some (some (.int v4), g, h1) else zE sc (d + 1) 63 15 [some (.long w0), none, some (.int v2), some (.int (v3 + 1)), some (.int (v4 + 1))] [] g h1))) else some (some (.int (-1)), g, h)) := by
  refine Eq.trans (ev_iload (pc := 15) k_63_15 rfl rfl) ?_
  refine Eq.trans (ev_bipush (pc := 17) (v := 64) k_63_17 rfl (by decide)) ?_
  refine Eq.trans (ev_icge (pc := 19) k_63_19.1 rfl k_63_19.2) (z_ite ?_ ?_)
  · refine Eq.trans (ev_lload_n (pc := 22) k_63_22 rfl rfl) ?_
    refine Eq.trans (ev_iload (pc := 23) k_63_23 rfl rfl) ?_
    refine Eq.trans (ev_si (pc := 25) (as := [.long w0, .int v4]) (rest := []) k_63_25 rfl rfl rfl (Nat.le_of_ble_eq_true rfl) (Nat.le_of_ble_eq_true rfl)) (z_cbi fun x1 h1 => ?_)
    refine Eq.trans (ev_ifeq (pc := 28) k_63_28.1 rfl k_63_28.2) (z_ite ?_ ?_)
    · refine Eq.trans (ev_iinc (pc := 42) (v := 1) (lv' := [some (.long w0), none, some (.int v2), some (.int v3), some (.int (v4 + 1))]) k_63_42 rfl rfl (by decide) rfl) ?_
      refine Eq.trans (ev_goto (pc := 45) k_63_45.1 rfl k_63_45.2) ?_
      exact ev_mk kd_63_15 rfl
    · refine Eq.trans (ev_iload_n (pc := 31) k_63_31 rfl rfl) ?_
      refine Eq.trans (ev_iload_n (pc := 32) k_63_32 rfl rfl) ?_
      refine Eq.trans (ev_icne (pc := 33) k_63_33.1 rfl k_63_33.2) (z_ite ?_ ?_)
      · refine Eq.trans (ev_iload (pc := 36) k_63_36 rfl rfl) ?_
        exact ev_ret_int k_63_38 rfl rt_63
      · refine Eq.trans (ev_iinc (pc := 39) (v := 1) (lv' := [some (.long w0), none, some (.int v2), some (.int (v3 + 1)), some (.int v4)]) k_63_39 rfl rfl (by decide) rfl) ?_
        refine Eq.trans (ev_iinc (pc := 42) (v := 1) (lv' := [some (.long w0), none, some (.int v2), some (.int (v3 + 1)), some (.int (v4 + 1))]) k_63_42 rfl rfl (by decide) rfl) ?_
        refine Eq.trans (ev_goto (pc := 45) k_63_45.1 rfl k_63_45.2) ?_
        exact ev_mk kd_63_15 rfl
  · refine Eq.trans (ev_iconst (pc := 48) (v := (-1)) k_63_48 rfl (by decide)) ?_
    exact ev_ret_int k_63_49 rfl rt_63

set_option maxRecDepth 100000 in
theorem E_Fa_inAll (sc : zSc) (d : Nat) (g : zSg) (h : zHp) (w0 : Int64) (v2 : Int32) : zRun sc (d + 1) 66 [.long w0, .int v2] g h = zE sc (d + 1) 66 5 [some (.long w0), none, some (.int v2), some (.int 0), some (.int 0)] [] g h := by
  have he : zEnt 66 [.long w0, .int v2] = [some (.long w0), none, some (.int v2), none, none] := by unfold zEnt; rw [ml_66]; rfl
  unfold zRun
  rw [he]
  refine Eq.trans (ev_iconst (pc := 0) (v := 0) k_66_0 rfl (by decide)) ?_
  refine Eq.trans (ev_istore_n (pc := 1) (lv' := [some (.long w0), none, some (.int v2), some (.int 0), none]) k_66_1 rfl (Nat.le_of_ble_eq_true rfl) rfl) ?_
  refine Eq.trans (ev_iconst (pc := 2) (v := 0) k_66_2 rfl (by decide)) ?_
  refine Eq.trans (ev_istore (pc := 3) (lv' := [some (.long w0), none, some (.int v2), some (.int 0), some (.int 0)]) k_66_3 rfl (Nat.le_of_ble_eq_true rfl) rfl) ?_
  exact ev_mk kd_66_5 rfl

set_option maxRecDepth 100000 in
theorem E_Fa_inAll_5 (sc : zSc) (d : Nat) (g : zSg) (h : zHp) (w0 : Int64) (v2 : Int32) (v3 : Int32) (v4 : Int32) : zE sc (d + 1) 66 5 [some (.long w0), none, some (.int v2), some (.int v3), some (.int v4)] [] g h = (if v4 < v2 then (if w0 = (0 : Int64) then some (some (.int v3), g, h) else (zBj (zRun sc d 13 [.long w0, .int v4] g h) g fun x1 h1 => (if x1 = (0 : Int64) then zE sc (d + 1) 66 5 [some (.long w0), none, some (.int v2), some (.int (v3 ||| ((1 : Int32) <<< (v4 &&& 31)))), some (.int (v4 + 1))] [] g h1 else zE sc (d + 1) 66 5 [some (.long w0), none, some (.int v2), some (.int v3), some (.int (v4 + 1))] [] g h1))) else some (some (.int v3), g, h)) := by
  refine Eq.trans (ev_iload (pc := 5) k_66_5 rfl rfl) ?_
  refine Eq.trans (ev_iload_n (pc := 7) k_66_7 rfl rfl) ?_
  refine Eq.trans (ev_icge (pc := 8) k_66_8.1 rfl k_66_8.2) (z_ite ?_ ?_)
  · refine Eq.trans (ev_lload_n (pc := 11) k_66_11 rfl rfl) ?_
    refine Eq.trans (ev_lconst (pc := 12) (v := 0) k_66_12 rfl (by decide)) ?_
    refine Eq.trans (ev_lcmp (pc := 13) k_66_13 rfl) ?_
    refine Eq.trans (ev_ileq (pc := 14) k_66_14.1 rfl k_66_14.2) (z_ite ?_ ?_)
    · refine Eq.trans (ev_mk (pc := 41) (lv' := [none, none, none, some (.int v3), none]) kd_66_41 rfl) ?_
      refine Eq.trans (ev_iload_n (pc := 41) k_66_41 rfl rfl) ?_
      exact ev_ret_int k_66_42 rfl rt_66
    · refine Eq.trans (ev_lload_n (pc := 17) k_66_17 rfl rfl) ?_
      refine Eq.trans (ev_iload (pc := 18) k_66_18 rfl rfl) ?_
      refine Eq.trans (ev_sj (pc := 20) (as := [.long w0, .int v4]) (rest := []) k_66_20 rfl rfl rfl (Nat.le_of_ble_eq_true rfl) (Nat.le_of_ble_eq_true rfl)) (z_cbj fun x1 h1 => ?_)
      refine Eq.trans (ev_lconst (pc := 23) (v := 0) k_66_23 rfl (by decide)) ?_
      refine Eq.trans (ev_lcmp (pc := 24) k_66_24 rfl) ?_
      refine Eq.trans (ev_ilne (pc := 25) k_66_25.1 rfl k_66_25.2) (z_ite ?_ ?_)
      · refine Eq.trans (ev_iload_n (pc := 28) k_66_28 rfl rfl) ?_
        refine Eq.trans (ev_iconst (pc := 29) (v := 1) k_66_29 rfl (by decide)) ?_
        refine Eq.trans (ev_iload (pc := 30) k_66_30 rfl rfl) ?_
        refine Eq.trans (ev_ishl (pc := 32) k_66_32 rfl) ?_
        refine Eq.trans (ev_ior (pc := 33) k_66_33 rfl) ?_
        refine Eq.trans (ev_istore_n (pc := 34) (lv' := [some (.long w0), none, some (.int v2), some (.int (v3 ||| ((1 : Int32) <<< (v4 &&& 31)))), some (.int v4)]) k_66_34 rfl (Nat.le_of_ble_eq_true rfl) rfl) ?_
        refine Eq.trans (ev_iinc (pc := 35) (v := 1) (lv' := [some (.long w0), none, some (.int v2), some (.int (v3 ||| ((1 : Int32) <<< (v4 &&& 31)))), some (.int (v4 + 1))]) k_66_35 rfl rfl (by decide) rfl) ?_
        refine Eq.trans (ev_goto (pc := 38) k_66_38.1 rfl k_66_38.2) ?_
        exact ev_mk kd_66_5 rfl
      · refine Eq.trans (ev_iinc (pc := 35) (v := 1) (lv' := [some (.long w0), none, some (.int v2), some (.int v3), some (.int (v4 + 1))]) k_66_35 rfl rfl (by decide) rfl) ?_
        refine Eq.trans (ev_goto (pc := 38) k_66_38.1 rfl k_66_38.2) ?_
        exact ev_mk kd_66_5 rfl
  · refine Eq.trans (ev_mk (pc := 41) (lv' := [none, none, none, some (.int v3), none]) kd_66_41 rfl) ?_
    refine Eq.trans (ev_iload_n (pc := 41) k_66_41 rfl rfl) ?_
    exact ev_ret_int k_66_42 rfl rt_66

set_option maxRecDepth 100000 in
theorem E_Fa_put (sc : zSc) (d : Nat) (g : zSg) (h : zHp) (w0 : Int64) (v2 : Int32) : zRun sc (d + 1) 81 [.long w0, .int v2] g h = (zBj (zRun sc d 12 [.long w0, .int v2] g h) g fun x1 h1 => (zBj (zRun sc d 13 [.long w0, .int v2] g h1) g fun x2 h2 => some (some (.long (x1 ||| (x2 <<< (((1 : Int32) <<< (v2 &&& 31)).toInt64 &&& 63)))), g, h2))) := by
  have he : zEnt 81 [.long w0, .int v2] = [some (.long w0), none, some (.int v2)] := by unfold zEnt; rw [ml_81]; rfl
  unfold zRun
  rw [he]
  refine Eq.trans (ev_lload_n (pc := 0) k_81_0 rfl rfl) ?_
  refine Eq.trans (ev_iload_n (pc := 1) k_81_1 rfl rfl) ?_
  refine Eq.trans (ev_sj (pc := 2) (as := [.long w0, .int v2]) (rest := []) k_81_2 rfl rfl rfl (Nat.le_of_ble_eq_true rfl) (Nat.le_of_ble_eq_true rfl)) (z_cbj fun x1 h1 => ?_)
  refine Eq.trans (ev_lload_n (pc := 5) k_81_5 rfl rfl) ?_
  refine Eq.trans (ev_iload_n (pc := 6) k_81_6 rfl rfl) ?_
  refine Eq.trans (ev_sj (pc := 7) (as := [.long w0, .int v2]) (rest := [.long x1]) k_81_7 rfl rfl rfl (Nat.le_of_ble_eq_true rfl) (Nat.le_of_ble_eq_true rfl)) (z_cbj fun x2 h2 => ?_)
  refine Eq.trans (ev_iconst (pc := 10) (v := 1) k_81_10 rfl (by decide)) ?_
  refine Eq.trans (ev_iload_n (pc := 11) k_81_11 rfl rfl) ?_
  refine Eq.trans (ev_ishl (pc := 12) k_81_12 rfl) ?_
  refine Eq.trans (ev_lshl (pc := 13) k_81_13 rfl) ?_
  refine Eq.trans (ev_lor (pc := 14) k_81_14 rfl) ?_
  exact ev_ret_long k_81_15 rfl rt_81

set_option maxRecDepth 100000 in
theorem E_Fa_havingNone (sc : zSc) (d : Nat) (g : zSg) (h : zHp) (w0 : Int64) (v2 : Int32) : zRun sc (d + 1) 85 [.long w0, .int v2] g h = zE sc (d + 1) 85 5 [none, none, some (.int v2), some (.long w0), none, some (.int 0)] [] g h := by
  have he : zEnt 85 [.long w0, .int v2] = [some (.long w0), none, some (.int v2), none, none, none] := by unfold zEnt; rw [ml_85]; rfl
  unfold zRun
  rw [he]
  refine Eq.trans (ev_lload_n (pc := 0) k_85_0 rfl rfl) ?_
  refine Eq.trans (ev_lstore_n (pc := 1) (lv' := [some (.long w0), none, some (.int v2), some (.long w0), none, none]) k_85_1 rfl (Nat.le_of_ble_eq_true rfl) rfl) ?_
  refine Eq.trans (ev_iconst (pc := 2) (v := 0) k_85_2 rfl (by decide)) ?_
  refine Eq.trans (ev_istore (pc := 3) (lv' := [some (.long w0), none, some (.int v2), some (.long w0), none, some (.int 0)]) k_85_3 rfl (Nat.le_of_ble_eq_true rfl) rfl) ?_
  exact ev_mk kd_85_5 rfl

set_option maxRecDepth 100000 in
theorem E_Fa_havingNone_5 (sc : zSc) (d : Nat) (g : zSg) (h : zHp) (v2 : Int32) (w3 : Int64) (v5 : Int32) : zE sc (d + 1) 85 5 [none, none, some (.int v2), some (.long w3), none, some (.int v5)] [] g h = (if v5 < (6 : Int32) then (zBi (zRun sc d 11 [.int v2, .int v5] g h) g fun x1 h1 => (if x1 = 0 then zE sc (d + 1) 85 5 [none, none, some (.int v2), some (.long w3), none, some (.int (v5 + 1))] [] g h1 else (zBj (zRun sc d 13 [.long w3, .int v5] g h1) g fun x2 h2 => zE sc (d + 1) 85 5 [none, none, some (.int v2), some (.long x2), none, some (.int (v5 + 1))] [] g h2))) else some (some (.long w3), g, h)) := by
  refine Eq.trans (ev_iload (pc := 5) k_85_5 rfl rfl) ?_
  refine Eq.trans (ev_bipush (pc := 7) (v := 6) k_85_7 rfl (by decide)) ?_
  refine Eq.trans (ev_icge (pc := 9) k_85_9.1 rfl k_85_9.2) (z_ite ?_ ?_)
  · refine Eq.trans (ev_iload_n (pc := 12) k_85_12 rfl rfl) ?_
    refine Eq.trans (ev_iload (pc := 13) k_85_13 rfl rfl) ?_
    refine Eq.trans (ev_si (pc := 15) (as := [.int v2, .int v5]) (rest := []) k_85_15 rfl rfl rfl (Nat.le_of_ble_eq_true rfl) (Nat.le_of_ble_eq_true rfl)) (z_cbi fun x1 h1 => ?_)
    refine Eq.trans (ev_ifeq (pc := 18) k_85_18.1 rfl k_85_18.2) (z_ite ?_ ?_)
    · refine Eq.trans (ev_iinc (pc := 28) (v := 1) (lv' := [none, none, some (.int v2), some (.long w3), none, some (.int (v5 + 1))]) k_85_28 rfl rfl (by decide) rfl) ?_
      refine Eq.trans (ev_goto (pc := 31) k_85_31.1 rfl k_85_31.2) ?_
      exact ev_mk kd_85_5 rfl
    · refine Eq.trans (ev_lload_n (pc := 21) k_85_21 rfl rfl) ?_
      refine Eq.trans (ev_iload (pc := 22) k_85_22 rfl rfl) ?_
      refine Eq.trans (ev_sj (pc := 24) (as := [.long w3, .int v5]) (rest := []) k_85_24 rfl rfl rfl (Nat.le_of_ble_eq_true rfl) (Nat.le_of_ble_eq_true rfl)) (z_cbj fun x2 h2 => ?_)
      refine Eq.trans (ev_lstore_n (pc := 27) (lv' := [none, none, some (.int v2), some (.long x2), none, some (.int v5)]) k_85_27 rfl (Nat.le_of_ble_eq_true rfl) rfl) ?_
      refine Eq.trans (ev_iinc (pc := 28) (v := 1) (lv' := [none, none, some (.int v2), some (.long x2), none, some (.int (v5 + 1))]) k_85_28 rfl rfl (by decide) rfl) ?_
      refine Eq.trans (ev_goto (pc := 31) k_85_31.1 rfl k_85_31.2) ?_
      exact ev_mk kd_85_5 rfl
  · refine Eq.trans (ev_lload_n (pc := 34) k_85_34 rfl rfl) ?_
    exact ev_ret_long k_85_35 rfl rt_85

set_option maxRecDepth 100000 in
theorem E_Tx_append (sc : zSc) (d : Nat) (h : zHp) (v1 : Int32) (w2 : Int64) : zRun sc d 21 [.ref 1, .int v1, .long w2] zGL h = (if v1 < 0 then some (some (.int 0), zGL, h) else (if (400 : Int32) < ((h.1 1 1) + v1) then some (some (.int 0), zGL, h) else zE sc d 21 21 [some (.ref 1), some (.int v1), some (.long w2), none, some (.int 0)] [] zGL h)) := by
  have he : zEnt 21 [.ref 1, .int v1, .long w2] = [some (.ref 1), some (.int v1), some (.long w2), none, none] := by unfold zEnt; rw [ml_21]; rfl
  unfold zRun
  rw [he]
  refine Eq.trans (ev_iload_n (pc := 0) k_21_0 rfl rfl) ?_
  refine Eq.trans (ev_iflt (pc := 1) k_21_1.1 rfl k_21_1.2) (z_ite ?_ ?_)
  · refine Eq.trans (ev_mk (pc := 16) (lv' := [none, none, none, none, none]) kd_21_16 rfl) ?_
    refine Eq.trans (ev_iconst (pc := 16) (v := 0) k_21_16 rfl (by decide)) ?_
    exact ev_ret_b1 k_21_17 rfl rt_21 (by decide)
  · refine Eq.trans (ev_aload_n (pc := 4) (x := 1) k_21_4 rfl rfl (by decide)) ?_
    refine Eq.trans (ev_getI (pc := 5) k_21_5 rfl zo_1.1) ?_
    refine Eq.trans (ev_iload_n (pc := 8) k_21_8 rfl rfl) ?_
    refine Eq.trans (ev_iadd (pc := 9) k_21_9 rfl) ?_
    refine Eq.trans (ev_sipush (pc := 10) (v := 400) k_21_10 rfl (by decide)) ?_
    refine Eq.trans (ev_icle (pc := 13) k_21_13.1 rfl k_21_13.2) (z_ite ?_ ?_)
    · refine Eq.trans (ev_mk (pc := 16) (lv' := [none, none, none, none, none]) kd_21_16 rfl) ?_
      refine Eq.trans (ev_iconst (pc := 16) (v := 0) k_21_16 rfl (by decide)) ?_
      exact ev_ret_b1 k_21_17 rfl rt_21 (by decide)
    · refine Eq.trans (ev_iconst (pc := 18) (v := 0) k_21_18 rfl (by decide)) ?_
      refine Eq.trans (ev_istore (pc := 19) (lv' := [some (.ref 1), some (.int v1), some (.long w2), none, some (.int 0)]) k_21_19 rfl (Nat.le_of_ble_eq_true rfl) rfl) ?_
      exact ev_mk kd_21_21 rfl

set_option maxRecDepth 100000 in
theorem E_Tx_append_21 (sc : zSc) (d : Nat) (h : zHp) (v1 : Int32) (w2 : Int64) (v4 : Int32) : zE sc d 21 21 [some (.ref 1), some (.int v1), some (.long w2), none, some (.int v4)] [] zGL h = (if v4 < v1 then (if zin ((h.1 1 1) + v4) 400 = true then zE sc d 21 21 [some (.ref 1), some (.int v1), some (.long w2), none, some (.int (v4 + 1))] [] zGL (zPI h 2 ((h.1 1 1) + v4).toNatClampNeg ((((w2.toUInt64 >>> (((8 : Int32) * ((v1 - (1 : Int32)) - v4)).toInt64.toUInt64 &&& Int64.toUInt64 63)).toInt64).toInt32) &&& (255 : Int32))) else none) else some (some (.int 1), zGL, zPI h 1 1 ((h.1 1 1) + v1))) := by
  refine Eq.trans (ev_iload (pc := 21) k_21_21 rfl rfl) ?_
  refine Eq.trans (ev_iload_n (pc := 23) k_21_23 rfl rfl) ?_
  refine Eq.trans (ev_icge (pc := 24) k_21_24.1 rfl k_21_24.2) (z_ite ?_ ?_)
  · refine Eq.trans (ev_aload_n (pc := 27) (x := 1) k_21_27 rfl rfl (by decide)) ?_
    refine Eq.trans (ev_getR (pc := 28) (b := 2) k_21_28 rfl zo_1.1 zg_1_0) ?_
    refine Eq.trans (ev_aload_n (pc := 31) (x := 1) k_21_31 rfl rfl (by decide)) ?_
    refine Eq.trans (ev_getI (pc := 32) k_21_32 rfl zo_1.1) ?_
    refine Eq.trans (ev_iload (pc := 35) k_21_35 rfl rfl) ?_
    refine Eq.trans (ev_iadd (pc := 37) k_21_37 rfl) ?_
    refine Eq.trans (ev_lload_n (pc := 38) k_21_38 rfl rfl) ?_
    refine Eq.trans (ev_bipush (pc := 39) (v := 8) k_21_39 rfl (by decide)) ?_
    refine Eq.trans (ev_iload_n (pc := 41) k_21_41 rfl rfl) ?_
    refine Eq.trans (ev_iconst (pc := 42) (v := 1) k_21_42 rfl (by decide)) ?_
    refine Eq.trans (ev_isub (pc := 43) k_21_43 rfl) ?_
    refine Eq.trans (ev_iload (pc := 44) k_21_44 rfl rfl) ?_
    refine Eq.trans (ev_isub (pc := 46) k_21_46 rfl) ?_
    refine Eq.trans (ev_imul (pc := 47) k_21_47 rfl) ?_
    refine Eq.trans (ev_lushr (pc := 48) k_21_48 rfl) ?_
    refine Eq.trans (ev_l2i (pc := 49) k_21_49 rfl) ?_
    refine Eq.trans (ev_sipush (pc := 50) (v := 255) k_21_50 rfl (by decide)) ?_
    refine Eq.trans (ev_iand (pc := 53) k_21_53 rfl) ?_
    refine Eq.trans (ev_iast_c (pc := 54) k_21_54 rfl za_2) (z_it1 ?_)
    refine Eq.trans (ev_iinc (pc := 55) (v := 1) (lv' := [some (.ref 1), some (.int v1), some (.long w2), none, some (.int (v4 + 1))]) k_21_55 rfl rfl (by decide) rfl) ?_
    refine Eq.trans (ev_goto (pc := 58) k_21_58.1 rfl k_21_58.2) ?_
    exact ev_mk kd_21_21 rfl
  · refine Eq.trans (ev_aload_n (pc := 61) (x := 1) k_21_61 rfl rfl (by decide)) ?_
    refine Eq.trans (ev_dup (pc := 62) k_21_62 rfl rfl) ?_
    refine Eq.trans (ev_getI (pc := 63) k_21_63 rfl zo_1.1) ?_
    refine Eq.trans (ev_iload_n (pc := 66) k_21_66 rfl rfl) ?_
    refine Eq.trans (ev_iadd (pc := 67) k_21_67 rfl) ?_
    refine Eq.trans (ev_putI (pc := 68) k_21_68 rfl zo_1.1) ?_
    refine Eq.trans (ev_iconst (pc := 71) (v := 1) k_21_71 rfl (by decide)) ?_
    exact ev_ret_b1 k_21_72 rfl rt_21 (by decide)

set_option maxRecDepth 100000 in
theorem E_Tn_clear (sc : zSc) (d : Nat) (g : zSg) (h : zHp) (a0 : Nat) (q0 : zS6 g a0) : zRun sc d 8 [.ref a0] g h = some (none, g, zPI (zPI (zPI h a0 0 0) a0 1 0) a0 2 10) := by
  have he : zEnt 8 [.ref a0] = [some (.ref a0)] := by unfold zEnt; rw [ml_8]; rfl
  unfold zRun
  rw [he]
  refine Eq.trans (ev_aload_n (pc := 0) (x := a0) k_8_0 rfl rfl (zIO_lt q0.1).2.2) ?_
  refine Eq.trans (ev_iconst (pc := 1) (v := 0) k_8_1 rfl (by decide)) ?_
  refine Eq.trans (ev_putI (pc := 2) k_8_2 rfl q0.1.1) ?_
  refine Eq.trans (ev_aload_n (pc := 5) (x := a0) k_8_5 rfl rfl (zIO_lt q0.1).2.2) ?_
  refine Eq.trans (ev_iconst (pc := 6) (v := 0) k_8_6 rfl (by decide)) ?_
  refine Eq.trans (ev_putI (pc := 7) k_8_7 rfl q0.1.1) ?_
  refine Eq.trans (ev_aload_n (pc := 10) (x := a0) k_8_10 rfl rfl (zIO_lt q0.1).2.2) ?_
  refine Eq.trans (ev_bipush (pc := 11) (v := 10) k_8_11 rfl (by decide)) ?_
  refine Eq.trans (ev_putI (pc := 13) k_8_13 rfl q0.1.1) ?_
  exact ev_ret_void k_8_16 rfl rt_8

set_option maxRecDepth 100000 in
theorem E_Tn_settle (sc : zSc) (d : Nat) (g : zSg) (h : zHp) (a0 : Nat) (q0 : zS6 g a0) : zRun sc (d + 1) 9 [.ref a0] g h = zE sc (d + 1) 9 21 [some (.ref a0), some (.int ((1 : Int32) <<< ((h.1 a0 0) &&& 31))), some (.int 0)] [] g (zPL h a0 8 ((((-1) : Int64).toUInt64 >>> (((64 : Int32) - ((1 : Int32) <<< ((h.1 a0 0) &&& 31))).toInt64.toUInt64 &&& Int64.toUInt64 63)).toInt64)) := by
  have he : zEnt 9 [.ref a0] = [some (.ref a0), none, none] := by unfold zEnt; rw [ml_9]; rfl
  unfold zRun
  rw [he]
  refine Eq.trans (ev_iconst (pc := 0) (v := 1) k_9_0 rfl (by decide)) ?_
  refine Eq.trans (ev_aload_n (pc := 1) (x := a0) k_9_1 rfl rfl (zIO_lt q0.1).2.2) ?_
  refine Eq.trans (ev_getI (pc := 2) k_9_2 rfl q0.1.1) ?_
  refine Eq.trans (ev_ishl (pc := 5) k_9_5 rfl) ?_
  refine Eq.trans (ev_istore_n (pc := 6) (lv' := [some (.ref a0), some (.int ((1 : Int32) <<< ((h.1 a0 0) &&& 31))), none]) k_9_6 rfl (Nat.le_of_ble_eq_true rfl) rfl) ?_
  refine Eq.trans (ev_aload_n (pc := 7) (x := a0) k_9_7 rfl rfl (zIO_lt q0.1).2.2) ?_
  refine Eq.trans (ev_ldc2 (pc := 8) (v := (-1)) k_9_8 rfl) ?_
  refine Eq.trans (ev_bipush (pc := 11) (v := 64) k_9_11 rfl (by decide)) ?_
  refine Eq.trans (ev_iload_n (pc := 13) k_9_13 rfl rfl) ?_
  refine Eq.trans (ev_isub (pc := 14) k_9_14 rfl) ?_
  refine Eq.trans (ev_lushr (pc := 15) k_9_15 rfl) ?_
  refine Eq.trans (ev_putL (pc := 16) k_9_16 rfl q0.1.1) ?_
  refine Eq.trans (ev_iconst (pc := 19) (v := 0) k_9_19 rfl (by decide)) ?_
  refine Eq.trans (ev_istore_n (pc := 20) (lv' := [some (.ref a0), some (.int ((1 : Int32) <<< ((h.1 a0 0) &&& 31))), some (.int 0)]) k_9_20 rfl (Nat.le_of_ble_eq_true rfl) rfl) ?_
  exact ev_mk kd_9_21 rfl

set_option maxRecDepth 100000 in
theorem E_Tn_settle_21 (sc : zSc) (d : Nat) (g : zSg) (h : zHp) (a0 : Nat) (q0 : zS6 g a0) (v1 : Int32) (v2 : Int32) : zE sc (d + 1) 9 21 [some (.ref a0), some (.int v1), some (.int v2)] [] g h = (if v2 < (h.1 a0 0) then (if zin v2 6 = true then (if (h.1 (a0 + 2) v2.toNatClampNeg) = 0 then zE sc (d + 1) 9 59 [some (.ref a0), some (.int v1), some (.int v2)] [.long 0, .int v2, .ref (a0 + 4)] g h else (if zin v2 6 = true then (zBj (zRun sc d 10 [.long (-1), .int (h.1 (a0 + 2) v2.toNatClampNeg)] g h) g fun x1 h1 => zE sc (d + 1) 9 59 [some (.ref a0), some (.int v1), some (.int v2)] [.long x1, .int v2, .ref (a0 + 4)] g h1) else none)) else none) else zE sc (d + 1) 9 91 [some (.ref a0), some (.int v1), some (.int 0)] [] g h) := by
  refine Eq.trans (ev_iload_n (pc := 21) k_9_21 rfl rfl) ?_
  refine Eq.trans (ev_aload_n (pc := 22) (x := a0) k_9_22 rfl rfl (zIO_lt q0.1).2.2) ?_
  refine Eq.trans (ev_getI (pc := 23) k_9_23 rfl q0.1.1) ?_
  refine Eq.trans (ev_icge (pc := 26) k_9_26.1 rfl k_9_26.2) (z_ite ?_ ?_)
  · refine Eq.trans (ev_aload_n (pc := 29) (x := a0) k_9_29 rfl rfl (zIO_lt q0.1).2.2) ?_
    refine Eq.trans (ev_getR (pc := 30) (b := a0 + 4) k_9_30 rfl q0.1.1 q0.2.2.2.2.1) ?_
    refine Eq.trans (ev_iload_n (pc := 33) k_9_33 rfl rfl) ?_
    refine Eq.trans (ev_aload_n (pc := 34) (x := a0) k_9_34 rfl rfl (zIO_lt q0.1).2.2) ?_
    refine Eq.trans (ev_getR (pc := 35) (b := a0 + 2) k_9_35 rfl q0.1.1 q0.2.2.1) ?_
    refine Eq.trans (ev_iload_n (pc := 38) k_9_38 rfl rfl) ?_
    refine Eq.trans (ev_iald_c (pc := 39) k_9_39 rfl q0.2.2.2.2.2.2.2.1) (z_it1 ?_)
    refine Eq.trans (ev_ifne (pc := 40) k_9_40.1 rfl k_9_40.2) (z_ite ?_ ?_)
    · refine Eq.trans (ev_lconst (pc := 43) (v := 0) k_9_43 rfl (by decide)) ?_
      refine Eq.trans (ev_goto (pc := 44) k_9_44.1 rfl k_9_44.2) ?_
      exact ev_mk kd_9_59 rfl
    · refine Eq.trans (ev_ldc2 (pc := 47) (v := (-1)) k_9_47 rfl) ?_
      refine Eq.trans (ev_aload_n (pc := 50) (x := a0) k_9_50 rfl rfl (zIO_lt q0.1).2.2) ?_
      refine Eq.trans (ev_getR (pc := 51) (b := a0 + 2) k_9_51 rfl q0.1.1 q0.2.2.1) ?_
      refine Eq.trans (ev_iload_n (pc := 54) k_9_54 rfl rfl) ?_
      refine Eq.trans (ev_iald_c (pc := 55) k_9_55 rfl q0.2.2.2.2.2.2.2.1) (z_it1 ?_)
      refine Eq.trans (ev_sj (pc := 56) (as := [.long (-1), .int (h.1 (a0 + 2) v2.toNatClampNeg)]) (rest := [.int v2, .ref (a0 + 4)]) k_9_56 rfl rfl rfl (Nat.le_of_ble_eq_true rfl) (Nat.le_of_ble_eq_true rfl)) (z_cbj fun x1 h1 => ?_)
      exact ev_mk kd_9_59 rfl
  · refine Eq.trans (ev_iconst (pc := 89) (v := 0) k_9_89 rfl (by decide)) ?_
    refine Eq.trans (ev_istore_n (pc := 90) (lv' := [some (.ref a0), some (.int v1), some (.int 0)]) k_9_90 rfl (Nat.le_of_ble_eq_true rfl) rfl) ?_
    exact ev_mk kd_9_91 rfl

set_option maxRecDepth 100000 in
theorem E_Tn_settle_59 (sc : zSc) (d : Nat) (g : zSg) (h : zHp) (a0 : Nat) (q0 : zS6 g a0) (v1 : Int32) (v2 : Int32) (s0 : Int64) (s1 : Int32) : zE sc (d + 1) 9 59 [some (.ref a0), some (.int v1), some (.int v2)] [.long s0, .int s1, .ref (a0 + 4)] g h = (if zin s1 6 = true then (if zin v2 6 = true then (zBj (zRun sc d 13 [.long ((zPL h (a0 + 4) s1.toNatClampNeg s0).2.1 (a0 + 4) v2.toNatClampNeg), .int v2] g (zPL h (a0 + 4) s1.toNatClampNeg s0)) g fun x1 h1 => zE sc (d + 1) 9 21 [some (.ref a0), some (.int v1), some (.int (v2 + 1))] [] g (zPL h1 a0 8 (((zPL h (a0 + 4) s1.toNatClampNeg s0).2.1 a0 8) &&& (x1 ^^^ ((-1) : Int64))))) else none) else none) := by
  refine Eq.trans (ev_last_c (pc := 59) k_9_59 rfl q0.2.2.2.2.2.2.2.2.2.1) (z_it1 ?_)
  refine Eq.trans (ev_aload_n (pc := 60) (x := a0) k_9_60 rfl rfl (zIO_lt q0.1).2.2) ?_
  refine Eq.trans (ev_dup (pc := 61) k_9_61 rfl rfl) ?_
  refine Eq.trans (ev_getL (pc := 62) k_9_62 rfl q0.1.1) ?_
  refine Eq.trans (ev_aload_n (pc := 65) (x := a0) k_9_65 rfl rfl (zIO_lt q0.1).2.2) ?_
  refine Eq.trans (ev_getR (pc := 66) (b := a0 + 4) k_9_66 rfl q0.1.1 q0.2.2.2.2.1) ?_
  refine Eq.trans (ev_iload_n (pc := 69) k_9_69 rfl rfl) ?_
  refine Eq.trans (ev_lald_c (pc := 70) k_9_70 rfl q0.2.2.2.2.2.2.2.2.2.1) (z_it1 ?_)
  refine Eq.trans (ev_iload_n (pc := 71) k_9_71 rfl rfl) ?_
  refine Eq.trans (ev_sj (pc := 72) (as := [.long ((zPL h (a0 + 4) s1.toNatClampNeg s0).2.1 (a0 + 4) v2.toNatClampNeg), .int v2]) (rest := [.long ((zPL h (a0 + 4) s1.toNatClampNeg s0).2.1 a0 8), .ref a0]) k_9_72 rfl rfl rfl (Nat.le_of_ble_eq_true rfl) (Nat.le_of_ble_eq_true rfl)) (z_cbj fun x1 h1 => ?_)
  refine Eq.trans (ev_ldc2 (pc := 75) (v := (-1)) k_9_75 rfl) ?_
  refine Eq.trans (ev_lxor (pc := 78) k_9_78 rfl) ?_
  refine Eq.trans (ev_land (pc := 79) k_9_79 rfl) ?_
  refine Eq.trans (ev_putL (pc := 80) k_9_80 rfl q0.1.1) ?_
  refine Eq.trans (ev_iinc (pc := 83) (v := 1) (lv' := [some (.ref a0), some (.int v1), some (.int (v2 + 1))]) k_9_83 rfl rfl (by decide) rfl) ?_
  refine Eq.trans (ev_goto (pc := 86) k_9_86.1 rfl k_9_86.2) ?_
  exact ev_mk kd_9_21 rfl

set_option maxRecDepth 100000 in
theorem E_Tn_settle_91 (sc : zSc) (d : Nat) (g : zSg) (h : zHp) (a0 : Nat) (q0 : zS6 g a0) (v1 : Int32) (v2 : Int32) : zE sc (d + 1) 9 91 [some (.ref a0), some (.int v1), some (.int v2)] [] g h = (if v2 < (99 : Int32) then (if zin v2 99 = true then zE sc (d + 1) 9 91 [some (.ref a0), some (.int v1), some (.int (v2 + 1))] [] g (zPL h (a0 + 5) v2.toNatClampNeg 0) else none) else zE sc (d + 1) 9 112 [some (.ref a0), some (.int v1), some (.int 0)] [] g h) := by
  refine Eq.trans (ev_iload_n (pc := 91) k_9_91 rfl rfl) ?_
  refine Eq.trans (ev_bipush (pc := 92) (v := 99) k_9_92 rfl (by decide)) ?_
  refine Eq.trans (ev_icge (pc := 94) k_9_94.1 rfl k_9_94.2) (z_ite ?_ ?_)
  · refine Eq.trans (ev_aload_n (pc := 97) (x := a0) k_9_97 rfl rfl (zIO_lt q0.1).2.2) ?_
    refine Eq.trans (ev_getR (pc := 98) (b := a0 + 5) k_9_98 rfl q0.1.1 q0.2.2.2.2.2.1) ?_
    refine Eq.trans (ev_iload_n (pc := 101) k_9_101 rfl rfl) ?_
    refine Eq.trans (ev_lconst (pc := 102) (v := 0) k_9_102 rfl (by decide)) ?_
    refine Eq.trans (ev_last_c (pc := 103) k_9_103 rfl q0.2.2.2.2.2.2.2.2.2.2) (z_it1 ?_)
    refine Eq.trans (ev_iinc (pc := 104) (v := 1) (lv' := [some (.ref a0), some (.int v1), some (.int (v2 + 1))]) k_9_104 rfl rfl (by decide) rfl) ?_
    refine Eq.trans (ev_goto (pc := 107) k_9_107.1 rfl k_9_107.2) ?_
    exact ev_mk kd_9_91 rfl
  · refine Eq.trans (ev_iconst (pc := 110) (v := 0) k_9_110 rfl (by decide)) ?_
    refine Eq.trans (ev_istore_n (pc := 111) (lv' := [some (.ref a0), some (.int v1), some (.int 0)]) k_9_111 rfl (Nat.le_of_ble_eq_true rfl) rfl) ?_
    exact ev_mk kd_9_112 rfl

set_option maxRecDepth 100000 in
theorem E_Tn_settle_112 (sc : zSc) (d : Nat) (g : zSg) (h : zHp) (a0 : Nat) (q0 : zS6 g a0) (v1 : Int32) (v2 : Int32) : zE sc (d + 1) 9 112 [some (.ref a0), some (.int v1), some (.int v2)] [] g h = (if v2 < v1 then (zBi (zRun sc d 14 [.long (h.2.1 a0 8), .int v2] g h) g fun x1 h1 => (if x1 = 0 then zE sc (d + 1) 9 112 [some (.ref a0), some (.int v1), some (.int (v2 + 1))] [] g h1 else (zBi (zRun sc d 15 [.ref a0, .int v2] g h1) g fun x2 h2 => (if zin x2 99 = true then (if zin x2 99 = true then zE sc (d + 1) 9 112 [some (.ref a0), some (.int v1), some (.int (v2 + 1))] [] g (zPL h2 (a0 + 5) x2.toNatClampNeg ((h2.2.1 (a0 + 5) x2.toNatClampNeg) ||| ((1 : Int64) <<< (v2.toInt64 &&& 63)))) else none) else none)))) else some (none, g, h)) := by
  refine Eq.trans (ev_iload_n (pc := 112) k_9_112 rfl rfl) ?_
  refine Eq.trans (ev_iload_n (pc := 113) k_9_113 rfl rfl) ?_
  refine Eq.trans (ev_icge (pc := 114) k_9_114.1 rfl k_9_114.2) (z_ite ?_ ?_)
  · refine Eq.trans (ev_aload_n (pc := 117) (x := a0) k_9_117 rfl rfl (zIO_lt q0.1).2.2) ?_
    refine Eq.trans (ev_getL (pc := 118) k_9_118 rfl q0.1.1) ?_
    refine Eq.trans (ev_iload_n (pc := 121) k_9_121 rfl rfl) ?_
    refine Eq.trans (ev_si (pc := 122) (as := [.long (h.2.1 a0 8), .int v2]) (rest := []) k_9_122 rfl rfl rfl (Nat.le_of_ble_eq_true rfl) (Nat.le_of_ble_eq_true rfl)) (z_cbi fun x1 h1 => ?_)
    refine Eq.trans (ev_ifeq (pc := 125) k_9_125.1 rfl k_9_125.2) (z_ite ?_ ?_)
    · refine Eq.trans (ev_iinc (pc := 144) (v := 1) (lv' := [some (.ref a0), some (.int v1), some (.int (v2 + 1))]) k_9_144 rfl rfl (by decide) rfl) ?_
      refine Eq.trans (ev_goto (pc := 147) k_9_147.1 rfl k_9_147.2) ?_
      exact ev_mk kd_9_112 rfl
    · refine Eq.trans (ev_aload_n (pc := 128) (x := a0) k_9_128 rfl rfl (zIO_lt q0.1).2.2) ?_
      refine Eq.trans (ev_getR (pc := 129) (b := a0 + 5) k_9_129 rfl q0.1.1 q0.2.2.2.2.2.1) ?_
      refine Eq.trans (ev_aload_n (pc := 132) (x := a0) k_9_132 rfl rfl (zIO_lt q0.1).2.2) ?_
      refine Eq.trans (ev_iload_n (pc := 133) k_9_133 rfl rfl) ?_
      refine Eq.trans (ev_vi (pc := 134) (as := [.int v2]) (rest := [.ref (a0 + 5)]) k_9_134 rfl q0.1 rfl rfl (Nat.le_of_ble_eq_true rfl) (Nat.le_of_ble_eq_true rfl)) (z_cbi fun x2 h2 => ?_)
      refine Eq.trans (ev_dup2 (pc := 137) k_9_137 rfl rfl rfl) ?_
      refine Eq.trans (ev_lald_c (pc := 138) k_9_138 rfl q0.2.2.2.2.2.2.2.2.2.2) (z_it1 ?_)
      refine Eq.trans (ev_lconst (pc := 139) (v := 1) k_9_139 rfl (by decide)) ?_
      refine Eq.trans (ev_iload_n (pc := 140) k_9_140 rfl rfl) ?_
      refine Eq.trans (ev_lshl (pc := 141) k_9_141 rfl) ?_
      refine Eq.trans (ev_lor (pc := 142) k_9_142 rfl) ?_
      refine Eq.trans (ev_last_c (pc := 143) k_9_143 rfl q0.2.2.2.2.2.2.2.2.2.2) (z_it1 ?_)
      refine Eq.trans (ev_iinc (pc := 144) (v := 1) (lv' := [some (.ref a0), some (.int v1), some (.int (v2 + 1))]) k_9_144 rfl rfl (by decide) rfl) ?_
      refine Eq.trans (ev_goto (pc := 147) k_9_147.1 rfl k_9_147.2) ?_
      exact ev_mk kd_9_112 rfl
  · exact ev_ret_void k_9_150 rfl rt_9

set_option maxRecDepth 100000 in
theorem E_Tn_hatOf (sc : zSc) (d : Nat) (g : zSg) (h : zHp) (a0 : Nat) (q0 : zS6 g a0) (v1 : Int32) : zRun sc (d + 1) 15 [.ref a0, .int v1] g h = (if 0 < (h.1 a0 2) then (if (99 : Int32) < (h.1 a0 2) then some (some (.int 0), g, h) else (zBi (zRun sc d 16 [.ref a0, .int v1] g h) g fun x1 h1 => (if (h1.1 a0 2) = 0 then none else some (some (.int (x1 - x1 / (h1.1 a0 2) * (h1.1 a0 2))), g, h1)))) else some (some (.int 0), g, h)) := by
  have he : zEnt 15 [.ref a0, .int v1] = [some (.ref a0), some (.int v1)] := by unfold zEnt; rw [ml_15]; rfl
  unfold zRun
  rw [he]
  refine Eq.trans (ev_aload_n (pc := 0) (x := a0) k_15_0 rfl rfl (zIO_lt q0.1).2.2) ?_
  refine Eq.trans (ev_getI (pc := 1) k_15_1 rfl q0.1.1) ?_
  refine Eq.trans (ev_ifle (pc := 4) k_15_4.1 rfl k_15_4.2) (z_ite ?_ ?_)
  · refine Eq.trans (ev_aload_n (pc := 7) (x := a0) k_15_7 rfl rfl (zIO_lt q0.1).2.2) ?_
    refine Eq.trans (ev_getI (pc := 8) k_15_8 rfl q0.1.1) ?_
    refine Eq.trans (ev_bipush (pc := 11) (v := 99) k_15_11 rfl (by decide)) ?_
    refine Eq.trans (ev_icgt (pc := 13) k_15_13.1 rfl k_15_13.2) (z_ite ?_ ?_)
    · refine Eq.trans (ev_mk (pc := 29) (lv' := [none, none]) kd_15_29 rfl) ?_
      refine Eq.trans (ev_iconst (pc := 29) (v := 0) k_15_29 rfl (by decide)) ?_
      exact ev_ret_int k_15_30 rfl rt_15
    · refine Eq.trans (ev_aload_n (pc := 16) (x := a0) k_15_16 rfl rfl (zIO_lt q0.1).2.2) ?_
      refine Eq.trans (ev_iload_n (pc := 17) k_15_17 rfl rfl) ?_
      refine Eq.trans (ev_vi (pc := 18) (as := [.int v1]) (rest := []) k_15_18 rfl q0.1 rfl rfl (Nat.le_of_ble_eq_true rfl) (Nat.le_of_ble_eq_true rfl)) (z_cbi fun x1 h1 => ?_)
      refine Eq.trans (ev_aload_n (pc := 21) (x := a0) k_15_21 rfl rfl (zIO_lt q0.1).2.2) ?_
      refine Eq.trans (ev_getI (pc := 22) k_15_22 rfl q0.1.1) ?_
      refine Eq.trans (ev_irem_c (pc := 25) k_15_25 rfl) (z_it2 ?_)
      refine Eq.trans (ev_goto (pc := 26) k_15_26.1 rfl k_15_26.2) ?_
      refine Eq.trans (ev_mk (pc := 30) (lv' := [none, none]) kd_15_30 rfl) ?_
      exact ev_ret_int k_15_30 rfl rt_15
  · refine Eq.trans (ev_mk (pc := 29) (lv' := [none, none]) kd_15_29 rfl) ?_
    refine Eq.trans (ev_iconst (pc := 29) (v := 0) k_15_29 rfl (by decide)) ?_
    exact ev_ret_int k_15_30 rfl rt_15

set_option maxRecDepth 100000 in
theorem E_Tn_weightOf (sc : zSc) (d : Nat) (g : zSg) (h : zHp) (a0 : Nat) (q0 : zS6 g a0) (v1 : Int32) : zRun sc (d + 1) 16 [.ref a0, .int v1] g h = zE sc (d + 1) 16 4 [some (.ref a0), some (.int v1), some (.int 0), some (.int 0)] [] g h := by
  have he : zEnt 16 [.ref a0, .int v1] = [some (.ref a0), some (.int v1), none, none] := by unfold zEnt; rw [ml_16]; rfl
  unfold zRun
  rw [he]
  refine Eq.trans (ev_iconst (pc := 0) (v := 0) k_16_0 rfl (by decide)) ?_
  refine Eq.trans (ev_istore_n (pc := 1) (lv' := [some (.ref a0), some (.int v1), some (.int 0), none]) k_16_1 rfl (Nat.le_of_ble_eq_true rfl) rfl) ?_
  refine Eq.trans (ev_iconst (pc := 2) (v := 0) k_16_2 rfl (by decide)) ?_
  refine Eq.trans (ev_istore_n (pc := 3) (lv' := [some (.ref a0), some (.int v1), some (.int 0), some (.int 0)]) k_16_3 rfl (Nat.le_of_ble_eq_true rfl) rfl) ?_
  exact ev_mk kd_16_4 rfl

set_option maxRecDepth 100000 in
theorem E_Tn_weightOf_4 (sc : zSc) (d : Nat) (g : zSg) (h : zHp) (a0 : Nat) (q0 : zS6 g a0) (v1 : Int32) (v2 : Int32) (v3 : Int32) : zE sc (d + 1) 16 4 [some (.ref a0), some (.int v1), some (.int v2), some (.int v3)] [] g h = (if v3 < (h.1 a0 0) then (zBi (zRun sc d 11 [.int v1, .int v3] g h) g fun x1 h1 => (if x1 = 0 then zE sc (d + 1) 16 4 [some (.ref a0), some (.int v1), some (.int v2), some (.int (v3 + 1))] [] g h1 else (if zin v3 6 = true then zE sc (d + 1) 16 4 [some (.ref a0), some (.int v1), some (.int (v2 + (h1.1 (a0 + 1) v3.toNatClampNeg))), some (.int (v3 + 1))] [] g h1 else none))) else some (some (.int v2), g, h)) := by
  refine Eq.trans (ev_iload_n (pc := 4) k_16_4 rfl rfl) ?_
  refine Eq.trans (ev_aload_n (pc := 5) (x := a0) k_16_5 rfl rfl (zIO_lt q0.1).2.2) ?_
  refine Eq.trans (ev_getI (pc := 6) k_16_6 rfl q0.1.1) ?_
  refine Eq.trans (ev_icge (pc := 9) k_16_9.1 rfl k_16_9.2) (z_ite ?_ ?_)
  · refine Eq.trans (ev_iload_n (pc := 12) k_16_12 rfl rfl) ?_
    refine Eq.trans (ev_iload_n (pc := 13) k_16_13 rfl rfl) ?_
    refine Eq.trans (ev_si (pc := 14) (as := [.int v1, .int v3]) (rest := []) k_16_14 rfl rfl rfl (Nat.le_of_ble_eq_true rfl) (Nat.le_of_ble_eq_true rfl)) (z_cbi fun x1 h1 => ?_)
    refine Eq.trans (ev_ifeq (pc := 17) k_16_17.1 rfl k_16_17.2) (z_ite ?_ ?_)
    · refine Eq.trans (ev_iinc (pc := 29) (v := 1) (lv' := [some (.ref a0), some (.int v1), some (.int v2), some (.int (v3 + 1))]) k_16_29 rfl rfl (by decide) rfl) ?_
      refine Eq.trans (ev_goto (pc := 32) k_16_32.1 rfl k_16_32.2) ?_
      exact ev_mk kd_16_4 rfl
    · refine Eq.trans (ev_iload_n (pc := 20) k_16_20 rfl rfl) ?_
      refine Eq.trans (ev_aload_n (pc := 21) (x := a0) k_16_21 rfl rfl (zIO_lt q0.1).2.2) ?_
      refine Eq.trans (ev_getR (pc := 22) (b := a0 + 1) k_16_22 rfl q0.1.1 q0.2.1) ?_
      refine Eq.trans (ev_iload_n (pc := 25) k_16_25 rfl rfl) ?_
      refine Eq.trans (ev_iald_c (pc := 26) k_16_26 rfl q0.2.2.2.2.2.2.1) (z_it1 ?_)
      refine Eq.trans (ev_iadd (pc := 27) k_16_27 rfl) ?_
      refine Eq.trans (ev_istore_n (pc := 28) (lv' := [some (.ref a0), some (.int v1), some (.int (v2 + (h1.1 (a0 + 1) v3.toNatClampNeg))), some (.int v3)]) k_16_28 rfl (Nat.le_of_ble_eq_true rfl) rfl) ?_
      refine Eq.trans (ev_iinc (pc := 29) (v := 1) (lv' := [some (.ref a0), some (.int v1), some (.int (v2 + (h1.1 (a0 + 1) v3.toNatClampNeg))), some (.int (v3 + 1))]) k_16_29 rfl rfl (by decide) rfl) ?_
      refine Eq.trans (ev_goto (pc := 32) k_16_32.1 rfl k_16_32.2) ?_
      exact ev_mk kd_16_4 rfl
  · refine Eq.trans (ev_iload_n (pc := 35) k_16_35 rfl rfl) ?_
    exact ev_ret_int k_16_36 rfl rt_16

set_option maxRecDepth 100000 in
theorem E_Tn_closure (sc : zSc) (d : Nat) (g : zSg) (h : zHp) (a0 : Nat) (q0 : zS6 g a0) (v1 : Int32) : zRun sc d 18 [.ref a0, .int v1] g h = zE sc d 18 4 [some (.ref a0), none, some (.int v1), some (.int 0)] [] g h := by
  have he : zEnt 18 [.ref a0, .int v1] = [some (.ref a0), some (.int v1), none, none] := by unfold zEnt; rw [ml_18]; rfl
  unfold zRun
  rw [he]
  refine Eq.trans (ev_iload_n (pc := 0) k_18_0 rfl rfl) ?_
  refine Eq.trans (ev_istore_n (pc := 1) (lv' := [some (.ref a0), some (.int v1), some (.int v1), none]) k_18_1 rfl (Nat.le_of_ble_eq_true rfl) rfl) ?_
  refine Eq.trans (ev_iconst (pc := 2) (v := 0) k_18_2 rfl (by decide)) ?_
  refine Eq.trans (ev_istore_n (pc := 3) (lv' := [some (.ref a0), some (.int v1), some (.int v1), some (.int 0)]) k_18_3 rfl (Nat.le_of_ble_eq_true rfl) rfl) ?_
  exact ev_mk kd_18_4 rfl

set_option maxRecDepth 100000 in
theorem E_Tn_closure_4 (sc : zSc) (d : Nat) (g : zSg) (h : zHp) (a0 : Nat) (q0 : zS6 g a0) (v2 : Int32) (v3 : Int32) : zE sc d 18 4 [some (.ref a0), none, some (.int v2), some (.int v3)] [] g h = (if v3 < (h.1 a0 0) then (if zin v3 6 = true then (if (h.1 (a0 + 2) v3.toNatClampNeg) = 0 then zE sc d 18 4 [some (.ref a0), none, some (.int v2), some (.int (v3 + 1))] [] g h else (if zin v3 6 = true then (if zin v3 6 = true then (if (v2 &&& (h.1 (a0 + 2) v3.toNatClampNeg)) = (h.1 (a0 + 2) v3.toNatClampNeg) then zE sc d 18 4 [some (.ref a0), none, some (.int (v2 ||| ((1 : Int32) <<< (v3 &&& 31)))), some (.int (v3 + 1))] [] g h else zE sc d 18 4 [some (.ref a0), none, some (.int v2), some (.int (v3 + 1))] [] g h) else none) else none)) else none) else some (some (.int v2), g, h)) := by
  refine Eq.trans (ev_iload_n (pc := 4) k_18_4 rfl rfl) ?_
  refine Eq.trans (ev_aload_n (pc := 5) (x := a0) k_18_5 rfl rfl (zIO_lt q0.1).2.2) ?_
  refine Eq.trans (ev_getI (pc := 6) k_18_6 rfl q0.1.1) ?_
  refine Eq.trans (ev_icge (pc := 9) k_18_9.1 rfl k_18_9.2) (z_ite ?_ ?_)
  · refine Eq.trans (ev_aload_n (pc := 12) (x := a0) k_18_12 rfl rfl (zIO_lt q0.1).2.2) ?_
    refine Eq.trans (ev_getR (pc := 13) (b := a0 + 2) k_18_13 rfl q0.1.1 q0.2.2.1) ?_
    refine Eq.trans (ev_iload_n (pc := 16) k_18_16 rfl rfl) ?_
    refine Eq.trans (ev_iald_c (pc := 17) k_18_17 rfl q0.2.2.2.2.2.2.2.1) (z_it1 ?_)
    refine Eq.trans (ev_ifeq (pc := 18) k_18_18.1 rfl k_18_18.2) (z_ite ?_ ?_)
    · refine Eq.trans (ev_iinc (pc := 44) (v := 1) (lv' := [some (.ref a0), none, some (.int v2), some (.int (v3 + 1))]) k_18_44 rfl rfl (by decide) rfl) ?_
      refine Eq.trans (ev_goto (pc := 47) k_18_47.1 rfl k_18_47.2) ?_
      exact ev_mk kd_18_4 rfl
    · refine Eq.trans (ev_iload_n (pc := 21) k_18_21 rfl rfl) ?_
      refine Eq.trans (ev_aload_n (pc := 22) (x := a0) k_18_22 rfl rfl (zIO_lt q0.1).2.2) ?_
      refine Eq.trans (ev_getR (pc := 23) (b := a0 + 2) k_18_23 rfl q0.1.1 q0.2.2.1) ?_
      refine Eq.trans (ev_iload_n (pc := 26) k_18_26 rfl rfl) ?_
      refine Eq.trans (ev_iald_c (pc := 27) k_18_27 rfl q0.2.2.2.2.2.2.2.1) (z_it1 ?_)
      refine Eq.trans (ev_iand (pc := 28) k_18_28 rfl) ?_
      refine Eq.trans (ev_aload_n (pc := 29) (x := a0) k_18_29 rfl rfl (zIO_lt q0.1).2.2) ?_
      refine Eq.trans (ev_getR (pc := 30) (b := a0 + 2) k_18_30 rfl q0.1.1 q0.2.2.1) ?_
      refine Eq.trans (ev_iload_n (pc := 33) k_18_33 rfl rfl) ?_
      refine Eq.trans (ev_iald_c (pc := 34) k_18_34 rfl q0.2.2.2.2.2.2.2.1) (z_it1 ?_)
      refine Eq.trans (ev_icne (pc := 35) k_18_35.1 rfl k_18_35.2) (z_ite ?_ ?_)
      · refine Eq.trans (ev_iload_n (pc := 38) k_18_38 rfl rfl) ?_
        refine Eq.trans (ev_iconst (pc := 39) (v := 1) k_18_39 rfl (by decide)) ?_
        refine Eq.trans (ev_iload_n (pc := 40) k_18_40 rfl rfl) ?_
        refine Eq.trans (ev_ishl (pc := 41) k_18_41 rfl) ?_
        refine Eq.trans (ev_ior (pc := 42) k_18_42 rfl) ?_
        refine Eq.trans (ev_istore_n (pc := 43) (lv' := [some (.ref a0), none, some (.int (v2 ||| ((1 : Int32) <<< (v3 &&& 31)))), some (.int v3)]) k_18_43 rfl (Nat.le_of_ble_eq_true rfl) rfl) ?_
        refine Eq.trans (ev_iinc (pc := 44) (v := 1) (lv' := [some (.ref a0), none, some (.int (v2 ||| ((1 : Int32) <<< (v3 &&& 31)))), some (.int (v3 + 1))]) k_18_44 rfl rfl (by decide) rfl) ?_
        refine Eq.trans (ev_goto (pc := 47) k_18_47.1 rfl k_18_47.2) ?_
        exact ev_mk kd_18_4 rfl
      · refine Eq.trans (ev_iinc (pc := 44) (v := 1) (lv' := [some (.ref a0), none, some (.int v2), some (.int (v3 + 1))]) k_18_44 rfl rfl (by decide) rfl) ?_
        refine Eq.trans (ev_goto (pc := 47) k_18_47.1 rfl k_18_47.2) ?_
        exact ev_mk kd_18_4 rfl
  · refine Eq.trans (ev_iload_n (pc := 50) k_18_50 rfl rfl) ?_
    exact ev_ret_int k_18_51 rfl rt_18

set_option maxRecDepth 100000 in
theorem E_Tn_wearers (sc : zSc) (d : Nat) (g : zSg) (h : zHp) (a0 : Nat) (q0 : zS6 g a0) (v1 : Int32) : zRun sc d 19 [.ref a0, .int v1] g h = (if v1 < 0 then some (some (.long 0), g, h) else (if v1 < (99 : Int32) then (if zin v1 99 = true then some (some (.long (h.2.1 (a0 + 5) v1.toNatClampNeg)), g, h) else none) else some (some (.long 0), g, h))) := by
  have he : zEnt 19 [.ref a0, .int v1] = [some (.ref a0), some (.int v1)] := by unfold zEnt; rw [ml_19]; rfl
  unfold zRun
  rw [he]
  refine Eq.trans (ev_iload_n (pc := 0) k_19_0 rfl rfl) ?_
  refine Eq.trans (ev_iflt (pc := 1) k_19_1.1 rfl k_19_1.2) (z_ite ?_ ?_)
  · refine Eq.trans (ev_mk (pc := 19) (lv' := [none, none]) kd_19_19 rfl) ?_
    refine Eq.trans (ev_lconst (pc := 19) (v := 0) k_19_19 rfl (by decide)) ?_
    exact ev_ret_long k_19_20 rfl rt_19
  · refine Eq.trans (ev_iload_n (pc := 4) k_19_4 rfl rfl) ?_
    refine Eq.trans (ev_bipush (pc := 5) (v := 99) k_19_5 rfl (by decide)) ?_
    refine Eq.trans (ev_icge (pc := 7) k_19_7.1 rfl k_19_7.2) (z_ite ?_ ?_)
    · refine Eq.trans (ev_aload_n (pc := 10) (x := a0) k_19_10 rfl rfl (zIO_lt q0.1).2.2) ?_
      refine Eq.trans (ev_getR (pc := 11) (b := a0 + 5) k_19_11 rfl q0.1.1 q0.2.2.2.2.2.1) ?_
      refine Eq.trans (ev_iload_n (pc := 14) k_19_14 rfl rfl) ?_
      refine Eq.trans (ev_lald_c (pc := 15) k_19_15 rfl q0.2.2.2.2.2.2.2.2.2.2) (z_it1 ?_)
      refine Eq.trans (ev_goto (pc := 16) k_19_16.1 rfl k_19_16.2) ?_
      refine Eq.trans (ev_mk (pc := 20) (lv' := [none, none]) kd_19_20 rfl) ?_
      exact ev_ret_long k_19_20 rfl rt_19
    · refine Eq.trans (ev_mk (pc := 19) (lv' := [none, none]) kd_19_19 rfl) ?_
      refine Eq.trans (ev_lconst (pc := 19) (v := 0) k_19_19 rfl (by decide)) ?_
      exact ev_ret_long k_19_20 rfl rt_19

set_option maxRecDepth 100000 in
theorem E_Tn_addFact (sc : zSc) (d : Nat) (g : zSg) (h : zHp) (a0 : Nat) (q0 : zS6 g a0) (v1 : Int32) (v2 : Int32) : zRun sc d 45 [.ref a0, .int v1, .int v2] g h = (if (h.1 a0 0) < (6 : Int32) then (if zin (h.1 a0 0) 6 = true then (if zin ((zPI h (a0 + 1) (h.1 a0 0).toNatClampNeg v1).1 a0 0) 6 = true then some (none, g, zPI (zPI (zPI h (a0 + 1) (h.1 a0 0).toNatClampNeg v1) (a0 + 2) ((zPI h (a0 + 1) (h.1 a0 0).toNatClampNeg v1).1 a0 0).toNatClampNeg v2) a0 0 (((zPI (zPI h (a0 + 1) (h.1 a0 0).toNatClampNeg v1) (a0 + 2) ((zPI h (a0 + 1) (h.1 a0 0).toNatClampNeg v1).1 a0 0).toNatClampNeg v2).1 a0 0) + (1 : Int32))) else none) else none) else some (none, g, h)) := by
  have he : zEnt 45 [.ref a0, .int v1, .int v2] = [some (.ref a0), some (.int v1), some (.int v2)] := by unfold zEnt; rw [ml_45]; rfl
  unfold zRun
  rw [he]
  refine Eq.trans (ev_aload_n (pc := 0) (x := a0) k_45_0 rfl rfl (zIO_lt q0.1).2.2) ?_
  refine Eq.trans (ev_getI (pc := 1) k_45_1 rfl q0.1.1) ?_
  refine Eq.trans (ev_bipush (pc := 4) (v := 6) k_45_4 rfl (by decide)) ?_
  refine Eq.trans (ev_icge (pc := 6) k_45_6.1 rfl k_45_6.2) (z_ite ?_ ?_)
  · refine Eq.trans (ev_aload_n (pc := 9) (x := a0) k_45_9 rfl rfl (zIO_lt q0.1).2.2) ?_
    refine Eq.trans (ev_getR (pc := 10) (b := a0 + 1) k_45_10 rfl q0.1.1 q0.2.1) ?_
    refine Eq.trans (ev_aload_n (pc := 13) (x := a0) k_45_13 rfl rfl (zIO_lt q0.1).2.2) ?_
    refine Eq.trans (ev_getI (pc := 14) k_45_14 rfl q0.1.1) ?_
    refine Eq.trans (ev_iload_n (pc := 17) k_45_17 rfl rfl) ?_
    refine Eq.trans (ev_iast_c (pc := 18) k_45_18 rfl q0.2.2.2.2.2.2.1) (z_it1 ?_)
    refine Eq.trans (ev_aload_n (pc := 19) (x := a0) k_45_19 rfl rfl (zIO_lt q0.1).2.2) ?_
    refine Eq.trans (ev_getR (pc := 20) (b := a0 + 2) k_45_20 rfl q0.1.1 q0.2.2.1) ?_
    refine Eq.trans (ev_aload_n (pc := 23) (x := a0) k_45_23 rfl rfl (zIO_lt q0.1).2.2) ?_
    refine Eq.trans (ev_getI (pc := 24) k_45_24 rfl q0.1.1) ?_
    refine Eq.trans (ev_iload_n (pc := 27) k_45_27 rfl rfl) ?_
    refine Eq.trans (ev_iast_c (pc := 28) k_45_28 rfl q0.2.2.2.2.2.2.2.1) (z_it1 ?_)
    refine Eq.trans (ev_aload_n (pc := 29) (x := a0) k_45_29 rfl rfl (zIO_lt q0.1).2.2) ?_
    refine Eq.trans (ev_dup (pc := 30) k_45_30 rfl rfl) ?_
    refine Eq.trans (ev_getI (pc := 31) k_45_31 rfl q0.1.1) ?_
    refine Eq.trans (ev_iconst (pc := 34) (v := 1) k_45_34 rfl (by decide)) ?_
    refine Eq.trans (ev_iadd (pc := 35) k_45_35 rfl) ?_
    refine Eq.trans (ev_putI (pc := 36) k_45_36 rfl q0.1.1) ?_
    refine Eq.trans (ev_mk (pc := 39) (lv' := [none, none, none]) kd_45_39 rfl) ?_
    exact ev_ret_void k_45_39 rfl rt_45
  · refine Eq.trans (ev_mk (pc := 39) (lv' := [none, none, none]) kd_45_39 rfl) ?_
    exact ev_ret_void k_45_39 rfl rt_45

set_option maxRecDepth 100000 in
theorem E_Tn_addPerson (sc : zSc) (d : Nat) (g : zSg) (h : zHp) (a0 : Nat) (q0 : zS6 g a0) (v1 : Int32) : zRun sc d 47 [.ref a0, .int v1] g h = (if (h.1 a0 1) < (5 : Int32) then (if zin (h.1 a0 1) 5 = true then some (none, g, zPI (zPI h (a0 + 3) (h.1 a0 1).toNatClampNeg v1) a0 1 (((zPI h (a0 + 3) (h.1 a0 1).toNatClampNeg v1).1 a0 1) + (1 : Int32))) else none) else some (none, g, h)) := by
  have he : zEnt 47 [.ref a0, .int v1] = [some (.ref a0), some (.int v1)] := by unfold zEnt; rw [ml_47]; rfl
  unfold zRun
  rw [he]
  refine Eq.trans (ev_aload_n (pc := 0) (x := a0) k_47_0 rfl rfl (zIO_lt q0.1).2.2) ?_
  refine Eq.trans (ev_getI (pc := 1) k_47_1 rfl q0.1.1) ?_
  refine Eq.trans (ev_iconst (pc := 4) (v := 5) k_47_4 rfl (by decide)) ?_
  refine Eq.trans (ev_icge (pc := 5) k_47_5.1 rfl k_47_5.2) (z_ite ?_ ?_)
  · refine Eq.trans (ev_aload_n (pc := 8) (x := a0) k_47_8 rfl rfl (zIO_lt q0.1).2.2) ?_
    refine Eq.trans (ev_getR (pc := 9) (b := a0 + 3) k_47_9 rfl q0.1.1 q0.2.2.2.1) ?_
    refine Eq.trans (ev_aload_n (pc := 12) (x := a0) k_47_12 rfl rfl (zIO_lt q0.1).2.2) ?_
    refine Eq.trans (ev_getI (pc := 13) k_47_13 rfl q0.1.1) ?_
    refine Eq.trans (ev_iload_n (pc := 16) k_47_16 rfl rfl) ?_
    refine Eq.trans (ev_iast_c (pc := 17) k_47_17 rfl q0.2.2.2.2.2.2.2.2.1) (z_it1 ?_)
    refine Eq.trans (ev_aload_n (pc := 18) (x := a0) k_47_18 rfl rfl (zIO_lt q0.1).2.2) ?_
    refine Eq.trans (ev_dup (pc := 19) k_47_19 rfl rfl) ?_
    refine Eq.trans (ev_getI (pc := 20) k_47_20 rfl q0.1.1) ?_
    refine Eq.trans (ev_iconst (pc := 23) (v := 1) k_47_23 rfl (by decide)) ?_
    refine Eq.trans (ev_iadd (pc := 24) k_47_24 rfl) ?_
    refine Eq.trans (ev_putI (pc := 25) k_47_25 rfl q0.1.1) ?_
    refine Eq.trans (ev_mk (pc := 28) (lv' := [none, none]) kd_47_28 rfl) ?_
    exact ev_ret_void k_47_28 rfl rt_47
  · refine Eq.trans (ev_mk (pc := 28) (lv' := [none, none]) kd_47_28 rfl) ?_
    exact ev_ret_void k_47_28 rfl rt_47

set_option maxRecDepth 100000 in
theorem E_Tn_heard (sc : zSc) (d : Nat) (g : zSg) (h : zHp) (a0 : Nat) (q0 : zS6 g a0) (w1 : Int64) (v3 : Int32) (v4 : Int32) : zRun sc (d + 1) 79 [.ref a0, .long w1, .int v3, .int v4] g h = (if v4 = 0 then (zBj (zRun sc d 13 [.long w1, .int v3] g h) g fun x1 h1 => (zBj (zRun sc d 80 [.ref a0, .long x1, .int v3] g h1) g fun x2 h2 => some (some (.long x2), g, h2))) else (zBj (zRun sc d 12 [.long w1, .int v3] g h) g fun x3 h3 => (zBj (zRun sc d 80 [.ref a0, .long x3, .int v3] g h3) g fun x4 h4 => some (some (.long x4), g, h4)))) := by
  have he : zEnt 79 [.ref a0, .long w1, .int v3, .int v4] = [some (.ref a0), some (.long w1), none, some (.int v3), some (.int v4)] := by unfold zEnt; rw [ml_79]; rfl
  unfold zRun
  rw [he]
  refine Eq.trans (ev_aload_n (pc := 0) (x := a0) k_79_0 rfl rfl (zIO_lt q0.1).2.2) ?_
  refine Eq.trans (ev_iload (pc := 1) k_79_1 rfl rfl) ?_
  refine Eq.trans (ev_ifeq (pc := 3) k_79_3.1 rfl k_79_3.2) (z_ite ?_ ?_)
  · refine Eq.trans (ev_lload_n (pc := 14) k_79_14 rfl rfl) ?_
    refine Eq.trans (ev_iload_n (pc := 15) k_79_15 rfl rfl) ?_
    refine Eq.trans (ev_sj (pc := 16) (as := [.long w1, .int v3]) (rest := [.ref a0]) k_79_16 rfl rfl rfl (Nat.le_of_ble_eq_true rfl) (Nat.le_of_ble_eq_true rfl)) (z_cbj fun x1 h1 => ?_)
    refine Eq.trans (ev_mk (pc := 19) (lv' := [none, none, none, some (.int v3), none]) kd_79_19 rfl) ?_
    refine Eq.trans (ev_iload_n (pc := 19) k_79_19 rfl rfl) ?_
    refine Eq.trans (ev_vj (pc := 20) (as := [.long x1, .int v3]) (rest := []) k_79_20 rfl q0.1 rfl rfl (Nat.le_of_ble_eq_true rfl) (Nat.le_of_ble_eq_true rfl)) (z_cbj fun x2 h2 => ?_)
    exact ev_ret_long k_79_23 rfl rt_79
  · refine Eq.trans (ev_lload_n (pc := 6) k_79_6 rfl rfl) ?_
    refine Eq.trans (ev_iload_n (pc := 7) k_79_7 rfl rfl) ?_
    refine Eq.trans (ev_sj (pc := 8) (as := [.long w1, .int v3]) (rest := [.ref a0]) k_79_8 rfl rfl rfl (Nat.le_of_ble_eq_true rfl) (Nat.le_of_ble_eq_true rfl)) (z_cbj fun x3 h3 => ?_)
    refine Eq.trans (ev_goto (pc := 11) k_79_11.1 rfl k_79_11.2) ?_
    refine Eq.trans (ev_mk (pc := 19) (lv' := [none, none, none, some (.int v3), none]) kd_79_19 rfl) ?_
    refine Eq.trans (ev_iload_n (pc := 19) k_79_19 rfl rfl) ?_
    refine Eq.trans (ev_vj (pc := 20) (as := [.long x3, .int v3]) (rest := []) k_79_20 rfl q0.1 rfl rfl (Nat.le_of_ble_eq_true rfl) (Nat.le_of_ble_eq_true rfl)) (z_cbj fun x4 h4 => ?_)
    exact ev_ret_long k_79_23 rfl rt_79

set_option maxRecDepth 100000 in
theorem E_Tn_learned (sc : zSc) (d : Nat) (g : zSg) (h : zHp) (a0 : Nat) (q0 : zS6 g a0) (w1 : Int64) (v3 : Int32) : zRun sc (d + 1) 80 [.ref a0, .long w1, .int v3] g h = (zBj (zRun sc d 81 [.long w1, .int v3] g h) g fun x1 h1 => zE sc (d + 1) 80 10 [some (.ref a0), none, none, none, some (.long x1), none, some (.int 0), none, none] [] g h1) := by
  have he : zEnt 80 [.ref a0, .long w1, .int v3] = [some (.ref a0), some (.long w1), none, some (.int v3), none, none, none, none, none] := by unfold zEnt; rw [ml_80]; rfl
  unfold zRun
  rw [he]
  refine Eq.trans (ev_lload_n (pc := 0) k_80_0 rfl rfl) ?_
  refine Eq.trans (ev_iload_n (pc := 1) k_80_1 rfl rfl) ?_
  refine Eq.trans (ev_sj (pc := 2) (as := [.long w1, .int v3]) (rest := []) k_80_2 rfl rfl rfl (Nat.le_of_ble_eq_true rfl) (Nat.le_of_ble_eq_true rfl)) (z_cbj fun x1 h1 => ?_)
  refine Eq.trans (ev_lstore (pc := 5) (lv' := [some (.ref a0), some (.long w1), none, some (.int v3), some (.long x1), none, none, none, none]) k_80_5 rfl (Nat.le_of_ble_eq_true rfl) rfl) ?_
  refine Eq.trans (ev_iconst (pc := 7) (v := 0) k_80_7 rfl (by decide)) ?_
  refine Eq.trans (ev_istore (pc := 8) (lv' := [some (.ref a0), some (.long w1), none, some (.int v3), some (.long x1), none, some (.int 0), none, none]) k_80_8 rfl (Nat.le_of_ble_eq_true rfl) rfl) ?_
  exact ev_mk kd_80_10 rfl

set_option maxRecDepth 100000 in
theorem E_Tn_learned_10 (sc : zSc) (d : Nat) (g : zSg) (h : zHp) (a0 : Nat) (q0 : zS6 g a0) (w4 : Int64) (v6 : Int32) : zE sc (d + 1) 80 10 [some (.ref a0), none, none, none, some (.long w4), none, some (.int v6), none, none] [] g h = (if v6 < (h.1 a0 0) then (if zin v6 6 = true then (zBj (zRun sc d 13 [.long (w4 &&& (h.2.1 (a0 + 4) v6.toNatClampNeg)), .int v6] g h) g fun x1 h1 => (zBj (zRun sc d 81 [.long x1, .int v6] g h1) g fun x2 h2 => zE sc (d + 1) 80 10 [some (.ref a0), none, none, none, some (.long ((w4 &&& (x1 ^^^ ((-1) : Int64))) ||| x2)), none, some (.int (v6 + 1)), none, none] [] g h2)) else none) else some (some (.long w4), g, h)) := by
  refine Eq.trans (ev_iload (pc := 10) k_80_10 rfl rfl) ?_
  refine Eq.trans (ev_aload_n (pc := 12) (x := a0) k_80_12 rfl rfl (zIO_lt q0.1).2.2) ?_
  refine Eq.trans (ev_getI (pc := 13) k_80_13 rfl q0.1.1) ?_
  refine Eq.trans (ev_icge (pc := 16) k_80_16.1 rfl k_80_16.2) (z_ite ?_ ?_)
  · refine Eq.trans (ev_lload (pc := 19) k_80_19 rfl rfl) ?_
    refine Eq.trans (ev_aload_n (pc := 21) (x := a0) k_80_21 rfl rfl (zIO_lt q0.1).2.2) ?_
    refine Eq.trans (ev_getR (pc := 22) (b := a0 + 4) k_80_22 rfl q0.1.1 q0.2.2.2.2.1) ?_
    refine Eq.trans (ev_iload (pc := 25) k_80_25 rfl rfl) ?_
    refine Eq.trans (ev_lald_c (pc := 27) k_80_27 rfl q0.2.2.2.2.2.2.2.2.2.1) (z_it1 ?_)
    refine Eq.trans (ev_land (pc := 28) k_80_28 rfl) ?_
    refine Eq.trans (ev_iload (pc := 29) k_80_29 rfl rfl) ?_
    refine Eq.trans (ev_sj (pc := 31) (as := [.long (w4 &&& (h.2.1 (a0 + 4) v6.toNatClampNeg)), .int v6]) (rest := []) k_80_31 rfl rfl rfl (Nat.le_of_ble_eq_true rfl) (Nat.le_of_ble_eq_true rfl)) (z_cbj fun x1 h1 => ?_)
    refine Eq.trans (ev_lstore (pc := 34) (lv' := [some (.ref a0), none, none, none, some (.long w4), none, some (.int v6), some (.long x1), none]) k_80_34 rfl (Nat.le_of_ble_eq_true rfl) rfl) ?_
    refine Eq.trans (ev_lload (pc := 36) k_80_36 rfl rfl) ?_
    refine Eq.trans (ev_lload (pc := 38) k_80_38 rfl rfl) ?_
    refine Eq.trans (ev_ldc2 (pc := 40) (v := (-1)) k_80_40 rfl) ?_
    refine Eq.trans (ev_lxor (pc := 43) k_80_43 rfl) ?_
    refine Eq.trans (ev_land (pc := 44) k_80_44 rfl) ?_
    refine Eq.trans (ev_lload (pc := 45) k_80_45 rfl rfl) ?_
    refine Eq.trans (ev_iload (pc := 47) k_80_47 rfl rfl) ?_
    refine Eq.trans (ev_sj (pc := 49) (as := [.long x1, .int v6]) (rest := [.long (w4 &&& (x1 ^^^ ((-1) : Int64)))]) k_80_49 rfl rfl rfl (Nat.le_of_ble_eq_true rfl) (Nat.le_of_ble_eq_true rfl)) (z_cbj fun x2 h2 => ?_)
    refine Eq.trans (ev_lor (pc := 52) k_80_52 rfl) ?_
    refine Eq.trans (ev_lstore (pc := 53) (lv' := [some (.ref a0), none, none, none, some (.long ((w4 &&& (x1 ^^^ ((-1) : Int64))) ||| x2)), none, some (.int v6), some (.long x1), none]) k_80_53 rfl (Nat.le_of_ble_eq_true rfl) rfl) ?_
    refine Eq.trans (ev_iinc (pc := 55) (v := 1) (lv' := [some (.ref a0), none, none, none, some (.long ((w4 &&& (x1 ^^^ ((-1) : Int64))) ||| x2)), none, some (.int (v6 + 1)), some (.long x1), none]) k_80_55 rfl rfl (by decide) rfl) ?_
    refine Eq.trans (ev_goto (pc := 58) k_80_58.1 rfl k_80_58.2) ?_
    exact ev_mk kd_80_10 rfl
  · refine Eq.trans (ev_lload (pc := 61) k_80_61 rfl rfl) ?_
    exact ev_ret_long k_80_63 rfl rt_80

set_option maxRecDepth 100000 in
theorem E_Tn_followers (sc : zSc) (d : Nat) (g : zSg) (h : zHp) (a0 : Nat) (q0 : zS6 g a0) : zRun sc d 93 [.ref a0] g h = zE sc d 93 4 [some (.ref a0), some (.int 0), some (.int 0)] [] g h := by
  have he : zEnt 93 [.ref a0] = [some (.ref a0), none, none] := by unfold zEnt; rw [ml_93]; rfl
  unfold zRun
  rw [he]
  refine Eq.trans (ev_iconst (pc := 0) (v := 0) k_93_0 rfl (by decide)) ?_
  refine Eq.trans (ev_istore_n (pc := 1) (lv' := [some (.ref a0), some (.int 0), none]) k_93_1 rfl (Nat.le_of_ble_eq_true rfl) rfl) ?_
  refine Eq.trans (ev_iconst (pc := 2) (v := 0) k_93_2 rfl (by decide)) ?_
  refine Eq.trans (ev_istore_n (pc := 3) (lv' := [some (.ref a0), some (.int 0), some (.int 0)]) k_93_3 rfl (Nat.le_of_ble_eq_true rfl) rfl) ?_
  exact ev_mk kd_93_4 rfl

set_option maxRecDepth 100000 in
theorem E_Tn_followers_4 (sc : zSc) (d : Nat) (g : zSg) (h : zHp) (a0 : Nat) (q0 : zS6 g a0) (v1 : Int32) (v2 : Int32) : zE sc d 93 4 [some (.ref a0), some (.int v1), some (.int v2)] [] g h = (if v2 < (h.1 a0 0) then (if zin v2 6 = true then (if (h.1 (a0 + 2) v2.toNatClampNeg) = 0 then zE sc d 93 4 [some (.ref a0), some (.int v1), some (.int (v2 + 1))] [] g h else zE sc d 93 4 [some (.ref a0), some (.int (v1 ||| ((1 : Int32) <<< (v2 &&& 31)))), some (.int (v2 + 1))] [] g h) else none) else some (some (.int v1), g, h)) := by
  refine Eq.trans (ev_iload_n (pc := 4) k_93_4 rfl rfl) ?_
  refine Eq.trans (ev_aload_n (pc := 5) (x := a0) k_93_5 rfl rfl (zIO_lt q0.1).2.2) ?_
  refine Eq.trans (ev_getI (pc := 6) k_93_6 rfl q0.1.1) ?_
  refine Eq.trans (ev_icge (pc := 9) k_93_9.1 rfl k_93_9.2) (z_ite ?_ ?_)
  · refine Eq.trans (ev_aload_n (pc := 12) (x := a0) k_93_12 rfl rfl (zIO_lt q0.1).2.2) ?_
    refine Eq.trans (ev_getR (pc := 13) (b := a0 + 2) k_93_13 rfl q0.1.1 q0.2.2.1) ?_
    refine Eq.trans (ev_iload_n (pc := 16) k_93_16 rfl rfl) ?_
    refine Eq.trans (ev_iald_c (pc := 17) k_93_17 rfl q0.2.2.2.2.2.2.2.1) (z_it1 ?_)
    refine Eq.trans (ev_ifeq (pc := 18) k_93_18.1 rfl k_93_18.2) (z_ite ?_ ?_)
    · refine Eq.trans (ev_iinc (pc := 27) (v := 1) (lv' := [some (.ref a0), some (.int v1), some (.int (v2 + 1))]) k_93_27 rfl rfl (by decide) rfl) ?_
      refine Eq.trans (ev_goto (pc := 30) k_93_30.1 rfl k_93_30.2) ?_
      exact ev_mk kd_93_4 rfl
    · refine Eq.trans (ev_iload_n (pc := 21) k_93_21 rfl rfl) ?_
      refine Eq.trans (ev_iconst (pc := 22) (v := 1) k_93_22 rfl (by decide)) ?_
      refine Eq.trans (ev_iload_n (pc := 23) k_93_23 rfl rfl) ?_
      refine Eq.trans (ev_ishl (pc := 24) k_93_24 rfl) ?_
      refine Eq.trans (ev_ior (pc := 25) k_93_25 rfl) ?_
      refine Eq.trans (ev_istore_n (pc := 26) (lv' := [some (.ref a0), some (.int (v1 ||| ((1 : Int32) <<< (v2 &&& 31)))), some (.int v2)]) k_93_26 rfl (Nat.le_of_ble_eq_true rfl) rfl) ?_
      refine Eq.trans (ev_iinc (pc := 27) (v := 1) (lv' := [some (.ref a0), some (.int (v1 ||| ((1 : Int32) <<< (v2 &&& 31)))), some (.int (v2 + 1))]) k_93_27 rfl rfl (by decide) rfl) ?_
      refine Eq.trans (ev_goto (pc := 30) k_93_30.1 rfl k_93_30.2) ?_
      exact ev_mk kd_93_4 rfl
  · refine Eq.trans (ev_iload_n (pc := 33) k_93_33 rfl rfl) ?_
    exact ev_ret_int k_93_34 rfl rt_93


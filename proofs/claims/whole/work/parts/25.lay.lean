/-! ===== the layout, object by object (by program) ===== -/
theorem zo_0 : zIO zGL 0 7 := zIO_of (by decide +kernel)
theorem zo_1 : zIO zGL 1 5 := zIO_of (by decide +kernel)
theorem za_2 : zIA zGL 2 0 400 := zIA_of (by decide +kernel)
theorem zo_3 : zIO zGL 3 6 := zIO_of (by decide +kernel)
theorem za_4 : zIA zGL 4 0 6 := zIA_of (by decide +kernel)
theorem za_5 : zIA zGL 5 0 6 := zIA_of (by decide +kernel)
theorem za_6 : zIA zGL 6 0 5 := zIA_of (by decide +kernel)
theorem za_7 : zIA zGL 7 2 6 := zIA_of (by decide +kernel)
theorem za_8 : zIA zGL 8 2 99 := zIA_of (by decide +kernel)
theorem zo_9 : zIO zGL 9 6 := zIO_of (by decide +kernel)
theorem za_10 : zIA zGL 10 0 6 := zIA_of (by decide +kernel)
theorem za_11 : zIA zGL 11 0 6 := zIA_of (by decide +kernel)
theorem za_12 : zIA zGL 12 0 5 := zIA_of (by decide +kernel)
theorem za_13 : zIA zGL 13 2 6 := zIA_of (by decide +kernel)
theorem za_14 : zIA zGL 14 2 99 := zIA_of (by decide +kernel)
theorem zo_15 : zIO zGL 15 3 := zIO_of (by decide +kernel)
theorem zo_16 : zIO zGL 16 2 := zIO_of (by decide +kernel)
theorem za_17 : zIA zGL 17 0 6 := zIA_of (by decide +kernel)
theorem za_18 : zIA zGL 18 0 6 := zIA_of (by decide +kernel)
theorem zo_19 : zIO zGL 19 1 := zIO_of (by decide +kernel)
theorem za_20 : zIA zGL 20 1 595 := zIA_of (by decide +kernel)
theorem zo_21 : zIO zGL 21 0 := zIO_of (by decide +kernel)
theorem za_22 : zIA zGL 22 0 30 := zIA_of (by decide +kernel)
theorem za_23 : zIA zGL 23 0 30 := zIA_of (by decide +kernel)
theorem za_24 : zIA zGL 24 0 30 := zIA_of (by decide +kernel)
theorem za_25 : zIA zGL 25 0 5 := zIA_of (by decide +kernel)
theorem zo_26 : zIO zGL 26 4 := zIO_of (by decide +kernel)
theorem za_27 : zIA zGL 27 0 5 := zIA_of (by decide +kernel)
theorem za_28 : zIA zGL 28 0 5 := zIA_of (by decide +kernel)
theorem za_29 : zIA zGL 29 0 5 := zIA_of (by decide +kernel)
theorem za_30 : zIA zGL 30 2 25 := zIA_of (by decide +kernel)
theorem za_31 : zIA zGL 31 0 300 := zIA_of (by decide +kernel)
theorem za_32 : zIA zGL 32 3 2 := zIA_of (by decide +kernel)
theorem zo_33 : zIO zGL 33 4 := zIO_of (by decide +kernel)
theorem za_34 : zIA zGL 34 0 5 := zIA_of (by decide +kernel)
theorem za_35 : zIA zGL 35 0 5 := zIA_of (by decide +kernel)
theorem za_36 : zIA zGL 36 0 5 := zIA_of (by decide +kernel)
theorem za_37 : zIA zGL 37 2 25 := zIA_of (by decide +kernel)
theorem za_38 : zIA zGL 38 0 300 := zIA_of (by decide +kernel)
theorem zo_39 : zIO zGL 39 4 := zIO_of (by decide +kernel)
theorem za_40 : zIA zGL 40 0 5 := zIA_of (by decide +kernel)
theorem za_41 : zIA zGL 41 0 5 := zIA_of (by decide +kernel)
theorem za_42 : zIA zGL 42 0 5 := zIA_of (by decide +kernel)
theorem za_43 : zIA zGL 43 2 25 := zIA_of (by decide +kernel)
theorem za_44 : zIA zGL 44 0 300 := zIA_of (by decide +kernel)
theorem za_45 : zIA zGL 45 1 2 := zIA_of (by decide +kernel)
theorem zo_46 : zIO zGL 46 8 := zIO_of (by decide +kernel)
theorem za_47 : zIA zGL 47 0 6 := zIA_of (by decide +kernel)
theorem za_48 : zIA zGL 48 0 6 := zIA_of (by decide +kernel)
theorem za_49 : zIA zGL 49 0 5 := zIA_of (by decide +kernel)
theorem za_50 : zIA zGL 50 0 64 := zIA_of (by decide +kernel)
theorem za_51 : zIA zGL 51 0 5 := zIA_of (by decide +kernel)
theorem za_52 : zIA zGL 52 0 5 := zIA_of (by decide +kernel)
theorem za_53 : zIA zGL 53 2 25 := zIA_of (by decide +kernel)
theorem za_54 : zIA zGL 54 0 5 := zIA_of (by decide +kernel)
theorem za_55 : zIA zGL 55 0 300 := zIA_of (by decide +kernel)
theorem za_56 : zIA zGL 56 0 400 := zIA_of (by decide +kernel)
theorem za_57 : zIA zGL 57 0 6 := zIA_of (by decide +kernel)
theorem za_58 : zIA zGL 58 0 6 := zIA_of (by decide +kernel)
theorem za_59 : zIA zGL 59 0 5 := zIA_of (by decide +kernel)
theorem za_60 : zIA zGL 60 0 25 := zIA_of (by decide +kernel)
theorem za_61 : zIA zGL 61 0 7 := zIA_of (by decide +kernel)
theorem za_62 : zIA zGL 62 0 7 := zIA_of (by decide +kernel)
theorem za_63 : zIA zGL 63 2 7 := zIA_of (by decide +kernel)
theorem za_64 : zIA zGL 64 2 7 := zIA_of (by decide +kernel)
theorem za_65 : zIA zGL 65 0 7 := zIA_of (by decide +kernel)
theorem za_66 : zIA zGL 66 0 30 := zIA_of (by decide +kernel)
theorem za_67 : zIA zGL 67 0 30 := zIA_of (by decide +kernel)
theorem za_68 : zIA zGL 68 0 30 := zIA_of (by decide +kernel)
theorem za_69 : zIA zGL 69 0 5 := zIA_of (by decide +kernel)
theorem za_70 : zIA zGL 70 0 640 := zIA_of (by decide +kernel)
theorem za_71 : zIA zGL 71 2 50 := zIA_of (by decide +kernel)
theorem za_72 : zIA zGL 72 1 2 := zIA_of (by decide +kernel)
theorem zg_1_0 : zG zGL 1 0 = some 2 ∧ 2 < 1000 := by decide +kernel
theorem zg_0_0 : zG zGL 0 0 = some 1 ∧ 1 < 1000 := by decide +kernel
theorem zg_3_3 : zG zGL 3 3 = some 4 ∧ 4 < 1000 := by decide +kernel
theorem zg_3_4 : zG zGL 3 4 = some 5 ∧ 5 < 1000 := by decide +kernel
theorem zg_3_5 : zG zGL 3 5 = some 6 ∧ 6 < 1000 := by decide +kernel
theorem zg_3_6 : zG zGL 3 6 = some 7 ∧ 7 < 1000 := by decide +kernel
theorem zg_3_7 : zG zGL 3 7 = some 8 ∧ 8 < 1000 := by decide +kernel
theorem zg_9_3 : zG zGL 9 3 = some 10 ∧ 10 < 1000 := by decide +kernel
theorem zg_9_4 : zG zGL 9 4 = some 11 ∧ 11 < 1000 := by decide +kernel
theorem zg_9_5 : zG zGL 9 5 = some 12 ∧ 12 < 1000 := by decide +kernel
theorem zg_9_6 : zG zGL 9 6 = some 13 ∧ 13 < 1000 := by decide +kernel
theorem zg_9_7 : zG zGL 9 7 = some 14 ∧ 14 < 1000 := by decide +kernel
theorem zg_15_0 : zG zGL 15 0 = some 1 ∧ 1 < 1000 := by decide +kernel
theorem zg_0_1 : zG zGL 0 1 = some 15 ∧ 15 < 1000 := by decide +kernel
theorem zg_16_0 : zG zGL 16 0 = some 17 ∧ 17 < 1000 := by decide +kernel
theorem zg_16_1 : zG zGL 16 1 = some 18 ∧ 18 < 1000 := by decide +kernel
theorem zg_0_2 : zG zGL 0 2 = some 16 ∧ 16 < 1000 := by decide +kernel
theorem zg_19_0 : zG zGL 19 0 = some 20 ∧ 20 < 1000 := by decide +kernel
theorem zg_0_3 : zG zGL 0 3 = some 19 ∧ 19 < 1000 := by decide +kernel
theorem zg_21_0 : zG zGL 21 0 = some 22 ∧ 22 < 1000 := by decide +kernel
theorem zg_21_1 : zG zGL 21 1 = some 23 ∧ 23 < 1000 := by decide +kernel
theorem zg_21_2 : zG zGL 21 2 = some 24 ∧ 24 < 1000 := by decide +kernel
theorem zg_21_3 : zG zGL 21 3 = some 25 ∧ 25 < 1000 := by decide +kernel
theorem zg_0_4 : zG zGL 0 4 = some 21 ∧ 21 < 1000 := by decide +kernel
theorem zg_26_0 : zG zGL 26 0 = some 27 ∧ 27 < 1000 := by decide +kernel
theorem zg_26_1 : zG zGL 26 1 = some 28 ∧ 28 < 1000 := by decide +kernel
theorem zg_26_2 : zG zGL 26 2 = some 29 ∧ 29 < 1000 := by decide +kernel
theorem zg_26_3 : zG zGL 26 3 = some 30 ∧ 30 < 1000 := by decide +kernel
theorem zg_26_4 : zG zGL 26 4 = some 31 ∧ 31 < 1000 := by decide +kernel
theorem zg_0_5 : zG zGL 0 5 = some 26 ∧ 26 < 1000 := by decide +kernel
theorem zg_0_6 : zG zGL 0 6 = some 32 ∧ 32 < 1000 := by decide +kernel
theorem zg_33_0 : zG zGL 33 0 = some 34 ∧ 34 < 1000 := by decide +kernel
theorem zg_33_1 : zG zGL 33 1 = some 35 ∧ 35 < 1000 := by decide +kernel
theorem zg_33_2 : zG zGL 33 2 = some 36 ∧ 36 < 1000 := by decide +kernel
theorem zg_33_3 : zG zGL 33 3 = some 37 ∧ 37 < 1000 := by decide +kernel
theorem zg_33_4 : zG zGL 33 4 = some 38 ∧ 38 < 1000 := by decide +kernel
theorem zg_39_0 : zG zGL 39 0 = some 40 ∧ 40 < 1000 := by decide +kernel
theorem zg_39_1 : zG zGL 39 1 = some 41 ∧ 41 < 1000 := by decide +kernel
theorem zg_39_2 : zG zGL 39 2 = some 42 ∧ 42 < 1000 := by decide +kernel
theorem zg_39_3 : zG zGL 39 3 = some 43 ∧ 43 < 1000 := by decide +kernel
theorem zg_39_4 : zG zGL 39 4 = some 44 ∧ 44 < 1000 := by decide +kernel
theorem zg_0_7 : zG zGL 0 7 = some 45 ∧ 45 < 1000 := by decide +kernel
theorem zg_46_1 : zG zGL 46 1 = some 47 ∧ 47 < 1000 := by decide +kernel
theorem zg_46_2 : zG zGL 46 2 = some 48 ∧ 48 < 1000 := by decide +kernel
theorem zg_46_4 : zG zGL 46 4 = some 49 ∧ 49 < 1000 := by decide +kernel
theorem zg_46_6 : zG zGL 46 6 = some 50 ∧ 50 < 1000 := by decide +kernel
theorem zg_46_8 : zG zGL 46 8 = some 51 ∧ 51 < 1000 := by decide +kernel
theorem zg_46_9 : zG zGL 46 9 = some 52 ∧ 52 < 1000 := by decide +kernel
theorem zg_46_10 : zG zGL 46 10 = some 53 ∧ 53 < 1000 := by decide +kernel
theorem zg_46_11 : zG zGL 46 11 = some 54 ∧ 54 < 1000 := by decide +kernel
theorem zg_46_13 : zG zGL 46 13 = some 55 ∧ 55 < 1000 := by decide +kernel
theorem zg_46_15 : zG zGL 46 15 = some 56 ∧ 56 < 1000 := by decide +kernel
theorem zg_46_24 : zG zGL 46 24 = some 57 ∧ 57 < 1000 := by decide +kernel
theorem zg_46_25 : zG zGL 46 25 = some 58 ∧ 58 < 1000 := by decide +kernel
theorem zg_46_27 : zG zGL 46 27 = some 59 ∧ 59 < 1000 := by decide +kernel
theorem zg_46_29 : zG zGL 46 29 = some 60 ∧ 60 < 1000 := by decide +kernel
theorem zg_46_30 : zG zGL 46 30 = some 61 ∧ 61 < 1000 := by decide +kernel
theorem zg_46_31 : zG zGL 46 31 = some 62 ∧ 62 < 1000 := by decide +kernel
theorem zg_46_32 : zG zGL 46 32 = some 63 ∧ 63 < 1000 := by decide +kernel
theorem zg_46_33 : zG zGL 46 33 = some 64 ∧ 64 < 1000 := by decide +kernel
theorem zg_46_34 : zG zGL 46 34 = some 65 ∧ 65 < 1000 := by decide +kernel
theorem zg_46_36 : zG zGL 46 36 = some 66 ∧ 66 < 1000 := by decide +kernel
theorem zg_46_37 : zG zGL 46 37 = some 67 ∧ 67 < 1000 := by decide +kernel
theorem zg_46_38 : zG zGL 46 38 = some 68 ∧ 68 < 1000 := by decide +kernel
theorem zg_46_39 : zG zGL 46 39 = some 69 ∧ 69 < 1000 := by decide +kernel
theorem zg_46_40 : zG zGL 46 40 = some 70 ∧ 70 < 1000 := by decide +kernel
theorem zg_46_41 : zG zGL 46 41 = some 71 ∧ 71 < 1000 := by decide +kernel
theorem zg_46_42 : zG zGL 46 42 = some 72 ∧ 72 < 1000 := by decide +kernel
theorem z_n5 {a : Nat} (h : 1000 ≤ a ∧ a < 1005) : a ≠ 1400 := by omega
theorem z_n6 {a : Nat} (h : 1100 ≤ a ∧ a < 1105) : a ≠ 1400 := by omega
theorem z_b5 {a : Nat} (h : 1000 ≤ a ∧ a < 1005) : 1100 ≤ a + 100 ∧ a + 100 < 1105 := by omega

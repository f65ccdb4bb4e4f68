theorem d_PM_wipe_0 : decode b_PM_wipe 0 = .ok (.aload_n 0, 1) := by decide +kernel
theorem d_PM_wipe_1 : decode b_PM_wipe 1 = .ok (.iconst 0, 1) := by decide +kernel
theorem d_PM_wipe_2 : decode b_PM_wipe 2 = .ok (.putfield 59, 3) := by decide +kernel
theorem d_PM_wipe_5 : decode b_PM_wipe 5 = .ok (.aload_n 0, 1) := by decide +kernel
theorem d_PM_wipe_6 : decode b_PM_wipe 6 = .ok (.getfield 74, 3) := by decide +kernel
theorem d_PM_wipe_9 : decode b_PM_wipe 9 = .ok (.istore_n 1, 1) := by decide +kernel
theorem d_PM_wipe_10 : decode b_PM_wipe 10 = .ok (.aload_n 0, 1) := by decide +kernel
theorem d_PM_wipe_11 : decode b_PM_wipe 11 = .ok (.iconst 0, 1) := by decide +kernel
theorem d_PM_wipe_12 : decode b_PM_wipe 12 = .ok (.putfield 74, 3) := by decide +kernel
theorem d_PM_wipe_15 : decode b_PM_wipe 15 = .ok (.iload_n 1, 1) := by decide +kernel
theorem d_PM_wipe_16 : decode b_PM_wipe 16 = .ok (.ireturn, 1) := by decide +kernel
theorem d_PM_write_0 : decode b_PM_write 0 = .ok (.aload_n 0, 1) := by decide +kernel
theorem d_PM_write_1 : decode b_PM_write 1 = .ok (.iconst 0, 1) := by decide +kernel
theorem d_PM_write_2 : decode b_PM_write 2 = .ok (.putfield 59, 3) := by decide +kernel
theorem d_PM_write_5 : decode b_PM_write 5 = .ok (.iload_n 1, 1) := by decide +kernel
theorem d_PM_write_6 : decode b_PM_write 6 = .ok (.i2l, 1) := by decide +kernel
theorem d_PM_write_7 : decode b_PM_write 7 = .ok (.lconst 0, 1) := by decide +kernel
theorem d_PM_write_8 : decode b_PM_write 8 = .ok (.ldc2_w 72, 3) := by decide +kernel
theorem d_PM_write_11 : decode b_PM_write 11 = .ok (.invokestatic 66, 3) := by decide +kernel
theorem d_PM_write_14 : decode b_PM_write 14 = .ok (.ifCond .ne 6, 3) := by decide +kernel
theorem d_PM_write_17 : decode b_PM_write 17 = .ok (.bipush (-2), 2) := by decide +kernel
theorem d_PM_write_19 : decode b_PM_write 19 = .ok (.ireturn, 1) := by decide +kernel
theorem d_PM_write_20 : decode b_PM_write 20 = .ok (.aload_n 0, 1) := by decide +kernel
theorem d_PM_write_21 : decode b_PM_write 21 = .ok (.getfield 74, 3) := by decide +kernel
theorem d_PM_write_24 : decode b_PM_write 24 = .ok (.bipush 48, 2) := by decide +kernel
theorem d_PM_write_26 : decode b_PM_write 26 = .ok (.if_icmp .ne 6, 3) := by decide +kernel
theorem d_PM_write_29 : decode b_PM_write 29 = .ok (.bipush (-4), 2) := by decide +kernel
theorem d_PM_write_31 : decode b_PM_write 31 = .ok (.ireturn, 1) := by decide +kernel
theorem d_PM_write_32 : decode b_PM_write 32 = .ok (.aload_n 0, 1) := by decide +kernel
theorem d_PM_write_33 : decode b_PM_write 33 = .ok (.getfield 7, 3) := by decide +kernel
theorem d_PM_write_36 : decode b_PM_write 36 = .ok (.aload_n 0, 1) := by decide +kernel
theorem d_PM_write_37 : decode b_PM_write 37 = .ok (.getfield 74, 3) := by decide +kernel
theorem d_PM_write_40 : decode b_PM_write 40 = .ok (.iload_n 1, 1) := by decide +kernel
theorem d_PM_write_41 : decode b_PM_write 41 = .ok (.iastore, 1) := by decide +kernel
theorem d_PM_write_42 : decode b_PM_write 42 = .ok (.aload_n 0, 1) := by decide +kernel
theorem d_PM_write_43 : decode b_PM_write 43 = .ok (.dup, 1) := by decide +kernel
theorem d_PM_write_44 : decode b_PM_write 44 = .ok (.getfield 74, 3) := by decide +kernel
theorem d_PM_write_47 : decode b_PM_write 47 = .ok (.iconst 1, 1) := by decide +kernel
theorem d_PM_write_48 : decode b_PM_write 48 = .ok (.iadd, 1) := by decide +kernel
theorem d_PM_write_49 : decode b_PM_write 49 = .ok (.putfield 74, 3) := by decide +kernel
theorem d_PM_write_52 : decode b_PM_write 52 = .ok (.aload_n 0, 1) := by decide +kernel
theorem d_PM_write_53 : decode b_PM_write 53 = .ok (.getfield 74, 3) := by decide +kernel
theorem d_PM_write_56 : decode b_PM_write 56 = .ok (.ireturn, 1) := by decide +kernel
theorem d_PM_years_0 : decode b_PM_years 0 = .ok (.aload_n 0, 1) := by decide +kernel
theorem d_PM_years_1 : decode b_PM_years 1 = .ok (.iconst 0, 1) := by decide +kernel
theorem d_PM_years_2 : decode b_PM_years 2 = .ok (.putfield 59, 3) := by decide +kernel
theorem d_PM_years_5 : decode b_PM_years 5 = .ok (.iload_n 1, 1) := by decide +kernel
theorem d_PM_years_6 : decode b_PM_years 6 = .ok (.i2l, 1) := by decide +kernel
theorem d_PM_years_7 : decode b_PM_years 7 = .ok (.lconst 1, 1) := by decide +kernel
theorem d_PM_years_8 : decode b_PM_years 8 = .ok (.ldc2_w 184, 3) := by decide +kernel
theorem d_PM_years_11 : decode b_PM_years 11 = .ok (.invokestatic 66, 3) := by decide +kernel
theorem d_PM_years_14 : decode b_PM_years 14 = .ok (.ifCond .ne 6, 3) := by decide +kernel
theorem d_PM_years_17 : decode b_PM_years 17 = .ok (.bipush (-2), 2) := by decide +kernel
theorem d_PM_years_19 : decode b_PM_years 19 = .ok (.ireturn, 1) := by decide +kernel
theorem d_PM_years_20 : decode b_PM_years 20 = .ok (.aload_n 0, 1) := by decide +kernel
theorem d_PM_years_21 : decode b_PM_years 21 = .ok (.invokevirtual 181, 3) := by decide +kernel
theorem d_PM_years_24 : decode b_PM_years 24 = .ok (.iconst 0, 1) := by decide +kernel
theorem d_PM_years_25 : decode b_PM_years 25 = .ok (.istore_n 2, 1) := by decide +kernel
theorem d_PM_years_26 : decode b_PM_years 26 = .ok (.iconst 0, 1) := by decide +kernel
theorem d_PM_years_27 : decode b_PM_years 27 = .ok (.istore_n 3, 1) := by decide +kernel
theorem d_PM_years_28 : decode b_PM_years 28 = .ok (.iload_n 3, 1) := by decide +kernel
theorem d_PM_years_29 : decode b_PM_years 29 = .ok (.iload_n 1, 1) := by decide +kernel
theorem d_PM_years_30 : decode b_PM_years 30 = .ok (.if_icmp .ge 83, 3) := by decide +kernel
theorem d_PM_years_33 : decode b_PM_years 33 = .ok (.aload_n 0, 1) := by decide +kernel
theorem d_PM_years_34 : decode b_PM_years 34 = .ok (.aload_n 0, 1) := by decide +kernel
theorem d_PM_years_35 : decode b_PM_years 35 = .ok (.getfield 224, 3) := by decide +kernel
theorem d_PM_years_38 : decode b_PM_years 38 = .ok (.ldc2_w 228, 3) := by decide +kernel
theorem d_PM_years_41 : decode b_PM_years 41 = .ok (.lmul, 1) := by decide +kernel
theorem d_PM_years_42 : decode b_PM_years 42 = .ok (.ldc2_w 230, 3) := by decide +kernel
theorem d_PM_years_45 : decode b_PM_years 45 = .ok (.ladd, 1) := by decide +kernel
theorem d_PM_years_46 : decode b_PM_years 46 = .ok (.putfield 224, 3) := by decide +kernel
theorem d_PM_years_49 : decode b_PM_years 49 = .ok (.aload_n 0, 1) := by decide +kernel
theorem d_PM_years_50 : decode b_PM_years 50 = .ok (.getfield 224, 3) := by decide +kernel
theorem d_PM_years_53 : decode b_PM_years 53 = .ok (.bipush 33, 2) := by decide +kernel
theorem d_PM_years_55 : decode b_PM_years 55 = .ok (.lushr, 1) := by decide +kernel
theorem d_PM_years_56 : decode b_PM_years 56 = .ok (.ldc2_w 232, 3) := by decide +kernel
theorem d_PM_years_59 : decode b_PM_years 59 = .ok (.lrem, 1) := by decide +kernel
theorem d_PM_years_60 : decode b_PM_years 60 = .ok (.l2i, 1) := by decide +kernel
theorem d_PM_years_61 : decode b_PM_years 61 = .ok (.istore 4, 2) := by decide +kernel
theorem d_PM_years_63 : decode b_PM_years 63 = .ok (.aload_n 0, 1) := by decide +kernel
theorem d_PM_years_64 : decode b_PM_years 64 = .ok (.iload 4, 2) := by decide +kernel
theorem d_PM_years_66 : decode b_PM_years 66 = .ok (.iconst 4, 1) := by decide +kernel
theorem d_PM_years_67 : decode b_PM_years 67 = .ok (.if_icmp .ge 11, 3) := by decide +kernel
theorem d_PM_years_70 : decode b_PM_years 70 = .ok (.bipush 10, 2) := by decide +kernel
theorem d_PM_years_72 : decode b_PM_years 72 = .ok (.iload 4, 2) := by decide +kernel
theorem d_PM_years_74 : decode b_PM_years 74 = .ok (.iadd, 1) := by decide +kernel
theorem d_PM_years_75 : decode b_PM_years 75 = .ok (.goto 19, 3) := by decide +kernel
theorem d_PM_years_78 : decode b_PM_years 78 = .ok (.iload 4, 2) := by decide +kernel
theorem d_PM_years_80 : decode b_PM_years 80 = .ok (.bipush 8, 2) := by decide +kernel
theorem d_PM_years_82 : decode b_PM_years 82 = .ok (.if_icmp .ge 11, 3) := by decide +kernel
theorem d_PM_years_85 : decode b_PM_years 85 = .ok (.bipush 16, 2) := by decide +kernel
theorem d_PM_years_87 : decode b_PM_years 87 = .ok (.iload 4, 2) := by decide +kernel
theorem d_PM_years_89 : decode b_PM_years 89 = .ok (.iadd, 1) := by decide +kernel
theorem d_PM_years_90 : decode b_PM_years 90 = .ok (.goto 4, 3) := by decide +kernel
theorem d_PM_years_93 : decode b_PM_years 93 = .ok (.iconst 0, 1) := by decide +kernel
theorem d_PM_years_94 : decode b_PM_years 94 = .ok (.invokevirtual 188, 3) := by decide +kernel
theorem d_PM_years_97 : decode b_PM_years 97 = .ok (.pop, 1) := by decide +kernel
theorem d_PM_years_98 : decode b_PM_years 98 = .ok (.iload_n 2, 1) := by decide +kernel
theorem d_PM_years_99 : decode b_PM_years 99 = .ok (.aload_n 0, 1) := by decide +kernel
theorem d_PM_years_100 : decode b_PM_years 100 = .ok (.getfield 28, 3) := by decide +kernel
theorem d_PM_years_103 : decode b_PM_years 103 = .ok (.iconst 4, 1) := by decide +kernel
theorem d_PM_years_104 : decode b_PM_years 104 = .ok (.iaload, 1) := by decide +kernel
theorem d_PM_years_105 : decode b_PM_years 105 = .ok (.iadd, 1) := by decide +kernel
theorem d_PM_years_106 : decode b_PM_years 106 = .ok (.istore_n 2, 1) := by decide +kernel
theorem d_PM_years_107 : decode b_PM_years 107 = .ok (.iinc 3 1, 3) := by decide +kernel
theorem d_PM_years_110 : decode b_PM_years 110 = .ok (.goto (-82), 3) := by decide +kernel
theorem d_PM_years_113 : decode b_PM_years 113 = .ok (.iload_n 2, 1) := by decide +kernel
theorem d_PM_years_114 : decode b_PM_years 114 = .ok (.ireturn, 1) := by decide +kernel
theorem d_Int_bitCount_0 : decode b_Int_bitCount 0 = .ok (.iload_n 0, 1) := by decide +kernel
theorem d_Int_bitCount_1 : decode b_Int_bitCount 1 = .ok (.iload_n 0, 1) := by decide +kernel
theorem d_Int_bitCount_2 : decode b_Int_bitCount 2 = .ok (.iconst 1, 1) := by decide +kernel
theorem d_Int_bitCount_3 : decode b_Int_bitCount 3 = .ok (.iushr, 1) := by decide +kernel
theorem d_Int_bitCount_4 : decode b_Int_bitCount 4 = .ok (.ldc_w 265, 3) := by decide +kernel
theorem d_Int_bitCount_7 : decode b_Int_bitCount 7 = .ok (.iand, 1) := by decide +kernel
theorem d_Int_bitCount_8 : decode b_Int_bitCount 8 = .ok (.isub, 1) := by decide +kernel
theorem d_Int_bitCount_9 : decode b_Int_bitCount 9 = .ok (.istore_n 0, 1) := by decide +kernel
theorem d_Int_bitCount_10 : decode b_Int_bitCount 10 = .ok (.iload_n 0, 1) := by decide +kernel
theorem d_Int_bitCount_11 : decode b_Int_bitCount 11 = .ok (.ldc_w 266, 3) := by decide +kernel
theorem d_Int_bitCount_14 : decode b_Int_bitCount 14 = .ok (.iand, 1) := by decide +kernel
theorem d_Int_bitCount_15 : decode b_Int_bitCount 15 = .ok (.iload_n 0, 1) := by decide +kernel
theorem d_Int_bitCount_16 : decode b_Int_bitCount 16 = .ok (.iconst 2, 1) := by decide +kernel
theorem d_Int_bitCount_17 : decode b_Int_bitCount 17 = .ok (.iushr, 1) := by decide +kernel
theorem d_Int_bitCount_18 : decode b_Int_bitCount 18 = .ok (.ldc_w 266, 3) := by decide +kernel
theorem d_Int_bitCount_21 : decode b_Int_bitCount 21 = .ok (.iand, 1) := by decide +kernel
theorem d_Int_bitCount_22 : decode b_Int_bitCount 22 = .ok (.iadd, 1) := by decide +kernel
theorem d_Int_bitCount_23 : decode b_Int_bitCount 23 = .ok (.istore_n 0, 1) := by decide +kernel
theorem d_Int_bitCount_24 : decode b_Int_bitCount 24 = .ok (.iload_n 0, 1) := by decide +kernel
theorem d_Int_bitCount_25 : decode b_Int_bitCount 25 = .ok (.iload_n 0, 1) := by decide +kernel
theorem d_Int_bitCount_26 : decode b_Int_bitCount 26 = .ok (.iconst 4, 1) := by decide +kernel
theorem d_Int_bitCount_27 : decode b_Int_bitCount 27 = .ok (.iushr, 1) := by decide +kernel
theorem d_Int_bitCount_28 : decode b_Int_bitCount 28 = .ok (.iadd, 1) := by decide +kernel
theorem d_Int_bitCount_29 : decode b_Int_bitCount 29 = .ok (.ldc_w 267, 3) := by decide +kernel
theorem d_Int_bitCount_32 : decode b_Int_bitCount 32 = .ok (.iand, 1) := by decide +kernel
theorem d_Int_bitCount_33 : decode b_Int_bitCount 33 = .ok (.istore_n 0, 1) := by decide +kernel
theorem d_Int_bitCount_34 : decode b_Int_bitCount 34 = .ok (.iload_n 0, 1) := by decide +kernel
theorem d_Int_bitCount_35 : decode b_Int_bitCount 35 = .ok (.iload_n 0, 1) := by decide +kernel
theorem d_Int_bitCount_36 : decode b_Int_bitCount 36 = .ok (.bipush 8, 2) := by decide +kernel
theorem d_Int_bitCount_38 : decode b_Int_bitCount 38 = .ok (.iushr, 1) := by decide +kernel
theorem d_Int_bitCount_39 : decode b_Int_bitCount 39 = .ok (.iadd, 1) := by decide +kernel
theorem d_Int_bitCount_40 : decode b_Int_bitCount 40 = .ok (.istore_n 0, 1) := by decide +kernel
theorem d_Int_bitCount_41 : decode b_Int_bitCount 41 = .ok (.iload_n 0, 1) := by decide +kernel
theorem d_Int_bitCount_42 : decode b_Int_bitCount 42 = .ok (.iload_n 0, 1) := by decide +kernel
theorem d_Int_bitCount_43 : decode b_Int_bitCount 43 = .ok (.bipush 16, 2) := by decide +kernel
theorem d_Int_bitCount_45 : decode b_Int_bitCount 45 = .ok (.iushr, 1) := by decide +kernel
theorem d_Int_bitCount_46 : decode b_Int_bitCount 46 = .ok (.iadd, 1) := by decide +kernel
theorem d_Int_bitCount_47 : decode b_Int_bitCount 47 = .ok (.istore_n 0, 1) := by decide +kernel
theorem d_Int_bitCount_48 : decode b_Int_bitCount 48 = .ok (.iload_n 0, 1) := by decide +kernel
theorem d_Int_bitCount_49 : decode b_Int_bitCount 49 = .ok (.bipush 63, 2) := by decide +kernel
theorem d_Int_bitCount_51 : decode b_Int_bitCount 51 = .ok (.iand, 1) := by decide +kernel
theorem d_Int_bitCount_52 : decode b_Int_bitCount 52 = .ok (.ireturn, 1) := by decide +kernel
theorem d_Math_max_0 : decode b_Math_max 0 = .ok (.iload_n 0, 1) := by decide +kernel
theorem d_Math_max_1 : decode b_Math_max 1 = .ok (.iload_n 1, 1) := by decide +kernel
theorem d_Math_max_2 : decode b_Math_max 2 = .ok (.if_icmp .lt 7, 3) := by decide +kernel
theorem d_Math_max_5 : decode b_Math_max 5 = .ok (.iload_n 0, 1) := by decide +kernel
theorem d_Math_max_6 : decode b_Math_max 6 = .ok (.goto 4, 3) := by decide +kernel
theorem d_Math_max_9 : decode b_Math_max 9 = .ok (.iload_n 1, 1) := by decide +kernel
theorem d_Math_max_10 : decode b_Math_max 10 = .ok (.ireturn, 1) := by decide +kernel
theorem d_Math_min_0 : decode b_Math_min 0 = .ok (.iload_n 0, 1) := by decide +kernel
theorem d_Math_min_1 : decode b_Math_min 1 = .ok (.iload_n 1, 1) := by decide +kernel
theorem d_Math_min_2 : decode b_Math_min 2 = .ok (.if_icmp .gt 7, 3) := by decide +kernel
theorem d_Math_min_5 : decode b_Math_min 5 = .ok (.iload_n 0, 1) := by decide +kernel
theorem d_Math_min_6 : decode b_Math_min 6 = .ok (.goto 4, 3) := by decide +kernel
theorem d_Math_min_9 : decode b_Math_min 9 = .ok (.iload_n 1, 1) := by decide +kernel
theorem d_Math_min_10 : decode b_Math_min 10 = .ok (.ireturn, 1) := by decide +kernel
theorem d_Arr_fill_0 : decode b_Arr_fill 0 = .ok (.iconst 0, 1) := by decide +kernel
theorem d_Arr_fill_1 : decode b_Arr_fill 1 = .ok (.istore_n 2, 1) := by decide +kernel
theorem d_Arr_fill_2 : decode b_Arr_fill 2 = .ok (.aload_n 0, 1) := by decide +kernel
theorem d_Arr_fill_3 : decode b_Arr_fill 3 = .ok (.arraylength, 1) := by decide +kernel
theorem d_Arr_fill_4 : decode b_Arr_fill 4 = .ok (.istore_n 3, 1) := by decide +kernel
theorem d_Arr_fill_5 : decode b_Arr_fill 5 = .ok (.iload_n 2, 1) := by decide +kernel
theorem d_Arr_fill_6 : decode b_Arr_fill 6 = .ok (.iload_n 3, 1) := by decide +kernel
theorem d_Arr_fill_7 : decode b_Arr_fill 7 = .ok (.if_icmp .ge 13, 3) := by decide +kernel
theorem d_Arr_fill_10 : decode b_Arr_fill 10 = .ok (.aload_n 0, 1) := by decide +kernel
theorem d_Arr_fill_11 : decode b_Arr_fill 11 = .ok (.iload_n 2, 1) := by decide +kernel
theorem d_Arr_fill_12 : decode b_Arr_fill 12 = .ok (.iload_n 1, 1) := by decide +kernel
theorem d_Arr_fill_13 : decode b_Arr_fill 13 = .ok (.iastore, 1) := by decide +kernel
theorem d_Arr_fill_14 : decode b_Arr_fill 14 = .ok (.iinc 2 1, 3) := by decide +kernel
theorem d_Arr_fill_17 : decode b_Arr_fill 17 = .ok (.goto (-12), 3) := by decide +kernel
theorem d_Arr_fill_20 : decode b_Arr_fill 20 = .ok (.return_, 1) := by decide +kernel

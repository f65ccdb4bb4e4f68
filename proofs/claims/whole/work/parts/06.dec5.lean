theorem d_PM_finger_0 : decode b_PM_finger 0 = .ok (.aload_n 0, 1) := by decide +kernel
theorem d_PM_finger_1 : decode b_PM_finger 1 = .ok (.iconst 0, 1) := by decide +kernel
theorem d_PM_finger_2 : decode b_PM_finger 2 = .ok (.putfield 59, 3) := by decide +kernel
theorem d_PM_finger_5 : decode b_PM_finger 5 = .ok (.iload_n 1, 1) := by decide +kernel
theorem d_PM_finger_6 : decode b_PM_finger 6 = .ok (.invokestatic 127, 3) := by decide +kernel
theorem d_PM_finger_9 : decode b_PM_finger 9 = .ok (.ifCond .eq 5, 3) := by decide +kernel
theorem d_PM_finger_12 : decode b_PM_finger 12 = .ok (.iconst (-1), 1) := by decide +kernel
theorem d_PM_finger_13 : decode b_PM_finger 13 = .ok (.ireturn, 1) := by decide +kernel
theorem d_PM_finger_14 : decode b_PM_finger 14 = .ok (.iload_n 2, 1) := by decide +kernel
theorem d_PM_finger_15 : decode b_PM_finger 15 = .ok (.i2l, 1) := by decide +kernel
theorem d_PM_finger_16 : decode b_PM_finger 16 = .ok (.lconst 0, 1) := by decide +kernel
theorem d_PM_finger_17 : decode b_PM_finger 17 = .ok (.ldc2_w 131, 3) := by decide +kernel
theorem d_PM_finger_20 : decode b_PM_finger 20 = .ok (.invokestatic 66, 3) := by decide +kernel
theorem d_PM_finger_23 : decode b_PM_finger 23 = .ok (.ifCond .eq 14, 3) := by decide +kernel
theorem d_PM_finger_26 : decode b_PM_finger 26 = .ok (.aload_n 0, 1) := by decide +kernel
theorem d_PM_finger_27 : decode b_PM_finger 27 = .ok (.getfield 13, 3) := by decide +kernel
theorem d_PM_finger_30 : decode b_PM_finger 30 = .ok (.iconst 3, 1) := by decide +kernel
theorem d_PM_finger_31 : decode b_PM_finger 31 = .ok (.iload_n 1, 1) := by decide +kernel
theorem d_PM_finger_32 : decode b_PM_finger 32 = .ok (.imul, 1) := by decide +kernel
theorem d_PM_finger_33 : decode b_PM_finger 33 = .ok (.iload_n 2, 1) := by decide +kernel
theorem d_PM_finger_34 : decode b_PM_finger 34 = .ok (.iadd, 1) := by decide +kernel
theorem d_PM_finger_35 : decode b_PM_finger 35 = .ok (.iaload, 1) := by decide +kernel
theorem d_PM_finger_36 : decode b_PM_finger 36 = .ok (.ireturn, 1) := by decide +kernel
theorem d_PM_finger_37 : decode b_PM_finger 37 = .ok (.iload_n 2, 1) := by decide +kernel
theorem d_PM_finger_38 : decode b_PM_finger 38 = .ok (.iconst 3, 1) := by decide +kernel
theorem d_PM_finger_39 : decode b_PM_finger 39 = .ok (.if_icmp .ne 14, 3) := by decide +kernel
theorem d_PM_finger_42 : decode b_PM_finger 42 = .ok (.aload_n 0, 1) := by decide +kernel
theorem d_PM_finger_43 : decode b_PM_finger 43 = .ok (.getfield 25, 3) := by decide +kernel
theorem d_PM_finger_46 : decode b_PM_finger 46 = .ok (.iconst 0, 1) := by decide +kernel
theorem d_PM_finger_47 : decode b_PM_finger 47 = .ok (.iload_n 1, 1) := by decide +kernel
theorem d_PM_finger_48 : decode b_PM_finger 48 = .ok (.iadd, 1) := by decide +kernel
theorem d_PM_finger_49 : decode b_PM_finger 49 = .ok (.iaload, 1) := by decide +kernel
theorem d_PM_finger_50 : decode b_PM_finger 50 = .ok (.goto 30, 3) := by decide +kernel
theorem d_PM_finger_53 : decode b_PM_finger 53 = .ok (.iload_n 2, 1) := by decide +kernel
theorem d_PM_finger_54 : decode b_PM_finger 54 = .ok (.iconst 4, 1) := by decide +kernel
theorem d_PM_finger_55 : decode b_PM_finger 55 = .ok (.if_icmp .ne 23, 3) := by decide +kernel
theorem d_PM_finger_58 : decode b_PM_finger 58 = .ok (.aload_n 0, 1) := by decide +kernel
theorem d_PM_finger_59 : decode b_PM_finger 59 = .ok (.getfield 13, 3) := by decide +kernel
theorem d_PM_finger_62 : decode b_PM_finger 62 = .ok (.iconst 3, 1) := by decide +kernel
theorem d_PM_finger_63 : decode b_PM_finger 63 = .ok (.iload_n 1, 1) := by decide +kernel
theorem d_PM_finger_64 : decode b_PM_finger 64 = .ok (.imul, 1) := by decide +kernel
theorem d_PM_finger_65 : decode b_PM_finger 65 = .ok (.aload_n 0, 1) := by decide +kernel
theorem d_PM_finger_66 : decode b_PM_finger 66 = .ok (.getfield 25, 3) := by decide +kernel
theorem d_PM_finger_69 : decode b_PM_finger 69 = .ok (.iconst 0, 1) := by decide +kernel
theorem d_PM_finger_70 : decode b_PM_finger 70 = .ok (.iload_n 1, 1) := by decide +kernel
theorem d_PM_finger_71 : decode b_PM_finger 71 = .ok (.iadd, 1) := by decide +kernel
theorem d_PM_finger_72 : decode b_PM_finger 72 = .ok (.iaload, 1) := by decide +kernel
theorem d_PM_finger_73 : decode b_PM_finger 73 = .ok (.iadd, 1) := by decide +kernel
theorem d_PM_finger_74 : decode b_PM_finger 74 = .ok (.iaload, 1) := by decide +kernel
theorem d_PM_finger_75 : decode b_PM_finger 75 = .ok (.goto 5, 3) := by decide +kernel
theorem d_PM_finger_78 : decode b_PM_finger 78 = .ok (.bipush (-2), 2) := by decide +kernel
theorem d_PM_finger_80 : decode b_PM_finger 80 = .ok (.ireturn, 1) := by decide +kernel
theorem d_PM_fraction_0 : decode b_PM_fraction 0 = .ok (.iload_n 0, 1) := by decide +kernel
theorem d_PM_fraction_1 : decode b_PM_fraction 1 = .ok (.iload_n 1, 1) := by decide +kernel
theorem d_PM_fraction_2 : decode b_PM_fraction 2 = .ok (.invokestatic 191, 3) := by decide +kernel
theorem d_PM_fraction_5 : decode b_PM_fraction 5 = .ok (.istore_n 3, 1) := by decide +kernel
theorem d_PM_fraction_6 : decode b_PM_fraction 6 = .ok (.iload_n 2, 1) := by decide +kernel
theorem d_PM_fraction_7 : decode b_PM_fraction 7 = .ok (.ifCond .eq 9, 3) := by decide +kernel
theorem d_PM_fraction_10 : decode b_PM_fraction 10 = .ok (.iload_n 0, 1) := by decide +kernel
theorem d_PM_fraction_11 : decode b_PM_fraction 11 = .ok (.iload_n 3, 1) := by decide +kernel
theorem d_PM_fraction_12 : decode b_PM_fraction 12 = .ok (.idiv, 1) := by decide +kernel
theorem d_PM_fraction_13 : decode b_PM_fraction 13 = .ok (.goto 6, 3) := by decide +kernel
theorem d_PM_fraction_16 : decode b_PM_fraction 16 = .ok (.iload_n 1, 1) := by decide +kernel
theorem d_PM_fraction_17 : decode b_PM_fraction 17 = .ok (.iload_n 3, 1) := by decide +kernel
theorem d_PM_fraction_18 : decode b_PM_fraction 18 = .ok (.idiv, 1) := by decide +kernel
theorem d_PM_fraction_19 : decode b_PM_fraction 19 = .ok (.ireturn, 1) := by decide +kernel
theorem d_PM_gainOf_0 : decode b_PM_gainOf 0 = .ok (.iload_n 2, 1) := by decide +kernel
theorem d_PM_gainOf_1 : decode b_PM_gainOf 1 = .ok (.iload_n 3, 1) := by decide +kernel
theorem d_PM_gainOf_2 : decode b_PM_gainOf 2 = .ok (.if_icmp .le 24, 3) := by decide +kernel
theorem d_PM_gainOf_5 : decode b_PM_gainOf 5 = .ok (.aload_n 0, 1) := by decide +kernel
theorem d_PM_gainOf_6 : decode b_PM_gainOf 6 = .ok (.getfield 16, 3) := by decide +kernel
theorem d_PM_gainOf_9 : decode b_PM_gainOf 9 = .ok (.bipush 6, 2) := by decide +kernel
theorem d_PM_gainOf_11 : decode b_PM_gainOf 11 = .ok (.iload_n 1, 1) := by decide +kernel
theorem d_PM_gainOf_12 : decode b_PM_gainOf 12 = .ok (.imul, 1) := by decide +kernel
theorem d_PM_gainOf_13 : decode b_PM_gainOf 13 = .ok (.iaload, 1) := by decide +kernel
theorem d_PM_gainOf_14 : decode b_PM_gainOf 14 = .ok (.iconst 2, 1) := by decide +kernel
theorem d_PM_gainOf_15 : decode b_PM_gainOf 15 = .ok (.if_icmp .ne 7, 3) := by decide +kernel
theorem d_PM_gainOf_18 : decode b_PM_gainOf 18 = .ok (.iconst 5, 1) := by decide +kernel
theorem d_PM_gainOf_19 : decode b_PM_gainOf 19 = .ok (.goto 8, 3) := by decide +kernel
theorem d_PM_gainOf_22 : decode b_PM_gainOf 22 = .ok (.iconst 4, 1) := by decide +kernel
theorem d_PM_gainOf_23 : decode b_PM_gainOf 23 = .ok (.goto 4, 3) := by decide +kernel
theorem d_PM_gainOf_26 : decode b_PM_gainOf 26 = .ok (.iconst 0, 1) := by decide +kernel
theorem d_PM_gainOf_27 : decode b_PM_gainOf 27 = .ok (.iload_n 2, 1) := by decide +kernel
theorem d_PM_gainOf_28 : decode b_PM_gainOf 28 = .ok (.isub, 1) := by decide +kernel
theorem d_PM_gainOf_29 : decode b_PM_gainOf 29 = .ok (.ireturn, 1) := by decide +kernel
theorem d_PM_givesUp_0 : decode b_PM_givesUp 0 = .ok (.aload_n 0, 1) := by decide +kernel
theorem d_PM_givesUp_1 : decode b_PM_givesUp 1 = .ok (.iconst 0, 1) := by decide +kernel
theorem d_PM_givesUp_2 : decode b_PM_givesUp 2 = .ok (.putfield 59, 3) := by decide +kernel
theorem d_PM_givesUp_5 : decode b_PM_givesUp 5 = .ok (.aload_n 0, 1) := by decide +kernel
theorem d_PM_givesUp_6 : decode b_PM_givesUp 6 = .ok (.iload_n 1, 1) := by decide +kernel
theorem d_PM_givesUp_7 : decode b_PM_givesUp 7 = .ok (.invokevirtual 133, 3) := by decide +kernel
theorem d_PM_givesUp_10 : decode b_PM_givesUp 10 = .ok (.ifCond .eq 5, 3) := by decide +kernel
theorem d_PM_givesUp_13 : decode b_PM_givesUp 13 = .ok (.iconst (-1), 1) := by decide +kernel
theorem d_PM_givesUp_14 : decode b_PM_givesUp 14 = .ok (.ireturn, 1) := by decide +kernel
theorem d_PM_givesUp_15 : decode b_PM_givesUp 15 = .ok (.aload_n 0, 1) := by decide +kernel
theorem d_PM_givesUp_16 : decode b_PM_givesUp 16 = .ok (.getfield 25, 3) := by decide +kernel
theorem d_PM_givesUp_19 : decode b_PM_givesUp 19 = .ok (.bipush 10, 2) := by decide +kernel
theorem d_PM_givesUp_21 : decode b_PM_givesUp 21 = .ok (.iload_n 1, 1) := by decide +kernel
theorem d_PM_givesUp_22 : decode b_PM_givesUp 22 = .ok (.iadd, 1) := by decide +kernel
theorem d_PM_givesUp_23 : decode b_PM_givesUp 23 = .ok (.iaload, 1) := by decide +kernel
theorem d_PM_givesUp_24 : decode b_PM_givesUp 24 = .ok (.bipush (-9), 2) := by decide +kernel
theorem d_PM_givesUp_26 : decode b_PM_givesUp 26 = .ok (.if_icmp .ne 6, 3) := by decide +kernel
theorem d_PM_givesUp_29 : decode b_PM_givesUp 29 = .ok (.bipush (-3), 2) := by decide +kernel
theorem d_PM_givesUp_31 : decode b_PM_givesUp 31 = .ok (.ireturn, 1) := by decide +kernel
theorem d_PM_givesUp_32 : decode b_PM_givesUp 32 = .ok (.aload_n 0, 1) := by decide +kernel
theorem d_PM_givesUp_33 : decode b_PM_givesUp 33 = .ok (.invokevirtual 181, 3) := by decide +kernel
theorem d_PM_givesUp_36 : decode b_PM_givesUp 36 = .ok (.iconst 1, 1) := by decide +kernel
theorem d_PM_givesUp_37 : decode b_PM_givesUp 37 = .ok (.istore_n 2, 1) := by decide +kernel
theorem d_PM_givesUp_38 : decode b_PM_givesUp 38 = .ok (.iload_n 2, 1) := by decide +kernel
theorem d_PM_givesUp_39 : decode b_PM_givesUp 39 = .ok (.bipush 20, 2) := by decide +kernel
theorem d_PM_givesUp_41 : decode b_PM_givesUp 41 = .ok (.if_icmp .gt 33, 3) := by decide +kernel
theorem d_PM_givesUp_44 : decode b_PM_givesUp 44 = .ok (.aload_n 0, 1) := by decide +kernel
theorem d_PM_givesUp_45 : decode b_PM_givesUp 45 = .ok (.aload_n 0, 1) := by decide +kernel
theorem d_PM_givesUp_46 : decode b_PM_givesUp 46 = .ok (.getfield 28, 3) := by decide +kernel
theorem d_PM_givesUp_49 : decode b_PM_givesUp 49 = .ok (.invokevirtual 145, 3) := by decide +kernel
theorem d_PM_givesUp_52 : decode b_PM_givesUp 52 = .ok (.aload_n 0, 1) := by decide +kernel
theorem d_PM_givesUp_53 : decode b_PM_givesUp 53 = .ok (.getfield 28, 3) := by decide +kernel
theorem d_PM_givesUp_56 : decode b_PM_givesUp 56 = .ok (.bipush 10, 2) := by decide +kernel
theorem d_PM_givesUp_58 : decode b_PM_givesUp 58 = .ok (.iload_n 1, 1) := by decide +kernel
theorem d_PM_givesUp_59 : decode b_PM_givesUp 59 = .ok (.iadd, 1) := by decide +kernel
theorem d_PM_givesUp_60 : decode b_PM_givesUp 60 = .ok (.iaload, 1) := by decide +kernel
theorem d_PM_givesUp_61 : decode b_PM_givesUp 61 = .ok (.bipush (-9), 2) := by decide +kernel
theorem d_PM_givesUp_63 : decode b_PM_givesUp 63 = .ok (.if_icmp .ne 5, 3) := by decide +kernel
theorem d_PM_givesUp_66 : decode b_PM_givesUp 66 = .ok (.iload_n 2, 1) := by decide +kernel
theorem d_PM_givesUp_67 : decode b_PM_givesUp 67 = .ok (.ireturn, 1) := by decide +kernel
theorem d_PM_givesUp_68 : decode b_PM_givesUp 68 = .ok (.iinc 2 1, 3) := by decide +kernel
theorem d_PM_givesUp_71 : decode b_PM_givesUp 71 = .ok (.goto (-33), 3) := by decide +kernel
theorem d_PM_givesUp_74 : decode b_PM_givesUp 74 = .ok (.bipush (-9), 2) := by decide +kernel
theorem d_PM_givesUp_76 : decode b_PM_givesUp 76 = .ok (.ireturn, 1) := by decide +kernel
theorem d_PM_goAway_0 : decode b_PM_goAway 0 = .ok (.iconst 0, 1) := by decide +kernel
theorem d_PM_goAway_1 : decode b_PM_goAway 1 = .ok (.istore_n 2, 1) := by decide +kernel
theorem d_PM_goAway_2 : decode b_PM_goAway 2 = .ok (.iconst 0, 1) := by decide +kernel
theorem d_PM_goAway_3 : decode b_PM_goAway 3 = .ok (.istore_n 3, 1) := by decide +kernel
theorem d_PM_goAway_4 : decode b_PM_goAway 4 = .ok (.iload_n 3, 1) := by decide +kernel
theorem d_PM_goAway_5 : decode b_PM_goAway 5 = .ok (.aload_n 0, 1) := by decide +kernel
theorem d_PM_goAway_6 : decode b_PM_goAway 6 = .ok (.iconst 4, 1) := by decide +kernel
theorem d_PM_goAway_7 : decode b_PM_goAway 7 = .ok (.iaload, 1) := by decide +kernel
theorem d_PM_goAway_8 : decode b_PM_goAway 8 = .ok (.if_icmp .ge 31, 3) := by decide +kernel
theorem d_PM_goAway_11 : decode b_PM_goAway 11 = .ok (.aload_n 0, 1) := by decide +kernel
theorem d_PM_goAway_12 : decode b_PM_goAway 12 = .ok (.iconst 5, 1) := by decide +kernel
theorem d_PM_goAway_13 : decode b_PM_goAway 13 = .ok (.iload_n 3, 1) := by decide +kernel
theorem d_PM_goAway_14 : decode b_PM_goAway 14 = .ok (.iadd, 1) := by decide +kernel
theorem d_PM_goAway_15 : decode b_PM_goAway 15 = .ok (.iaload, 1) := by decide +kernel
theorem d_PM_goAway_16 : decode b_PM_goAway 16 = .ok (.iload_n 1, 1) := by decide +kernel
theorem d_PM_goAway_17 : decode b_PM_goAway 17 = .ok (.if_icmp .eq 16, 3) := by decide +kernel
theorem d_PM_goAway_20 : decode b_PM_goAway 20 = .ok (.aload_n 0, 1) := by decide +kernel
theorem d_PM_goAway_21 : decode b_PM_goAway 21 = .ok (.iconst 5, 1) := by decide +kernel
theorem d_PM_goAway_22 : decode b_PM_goAway 22 = .ok (.iload_n 2, 1) := by decide +kernel
theorem d_PM_goAway_23 : decode b_PM_goAway 23 = .ok (.iadd, 1) := by decide +kernel
theorem d_PM_goAway_24 : decode b_PM_goAway 24 = .ok (.aload_n 0, 1) := by decide +kernel
theorem d_PM_goAway_25 : decode b_PM_goAway 25 = .ok (.iconst 5, 1) := by decide +kernel
theorem d_PM_goAway_26 : decode b_PM_goAway 26 = .ok (.iload_n 3, 1) := by decide +kernel
theorem d_PM_goAway_27 : decode b_PM_goAway 27 = .ok (.iadd, 1) := by decide +kernel
theorem d_PM_goAway_28 : decode b_PM_goAway 28 = .ok (.iaload, 1) := by decide +kernel
theorem d_PM_goAway_29 : decode b_PM_goAway 29 = .ok (.iastore, 1) := by decide +kernel
theorem d_PM_goAway_30 : decode b_PM_goAway 30 = .ok (.iinc 2 1, 3) := by decide +kernel
theorem d_PM_goAway_33 : decode b_PM_goAway 33 = .ok (.iinc 3 1, 3) := by decide +kernel
theorem d_PM_goAway_36 : decode b_PM_goAway 36 = .ok (.goto (-32), 3) := by decide +kernel
theorem d_PM_goAway_39 : decode b_PM_goAway 39 = .ok (.aload_n 0, 1) := by decide +kernel
theorem d_PM_goAway_40 : decode b_PM_goAway 40 = .ok (.iconst 4, 1) := by decide +kernel
theorem d_PM_goAway_41 : decode b_PM_goAway 41 = .ok (.iload_n 2, 1) := by decide +kernel
theorem d_PM_goAway_42 : decode b_PM_goAway 42 = .ok (.iastore, 1) := by decide +kernel
theorem d_PM_goAway_43 : decode b_PM_goAway 43 = .ok (.aload_n 0, 1) := by decide +kernel
theorem d_PM_goAway_44 : decode b_PM_goAway 44 = .ok (.bipush 10, 2) := by decide +kernel
theorem d_PM_goAway_46 : decode b_PM_goAway 46 = .ok (.iload_n 1, 1) := by decide +kernel
theorem d_PM_goAway_47 : decode b_PM_goAway 47 = .ok (.iadd, 1) := by decide +kernel
theorem d_PM_goAway_48 : decode b_PM_goAway 48 = .ok (.bipush (-9), 2) := by decide +kernel
theorem d_PM_goAway_50 : decode b_PM_goAway 50 = .ok (.iastore, 1) := by decide +kernel
theorem d_PM_goAway_51 : decode b_PM_goAway 51 = .ok (.return_, 1) := by decide +kernel
theorem d_PM_goNight_0 : decode b_PM_goNight 0 = .ok (.aload_n 0, 1) := by decide +kernel
theorem d_PM_goNight_1 : decode b_PM_goNight 1 = .ok (.aload_n 1, 1) := by decide +kernel
theorem d_PM_goNight_2 : decode b_PM_goNight 2 = .ok (.invokevirtual 112, 3) := by decide +kernel
theorem d_PM_goNight_5 : decode b_PM_goNight 5 = .ok (.aload_n 0, 1) := by decide +kernel
theorem d_PM_goNight_6 : decode b_PM_goNight 6 = .ok (.bipush 15, 2) := by decide +kernel
theorem d_PM_goNight_8 : decode b_PM_goNight 8 = .ok (.invokevirtual 120, 3) := by decide +kernel
theorem d_PM_goNight_11 : decode b_PM_goNight 11 = .ok (.istore_n 2, 1) := by decide +kernel
theorem d_PM_goNight_12 : decode b_PM_goNight 12 = .ok (.aload_n 1, 1) := by decide +kernel
theorem d_PM_goNight_13 : decode b_PM_goNight 13 = .ok (.invokestatic 116, 3) := by decide +kernel
theorem d_PM_goNight_16 : decode b_PM_goNight 16 = .ok (.istore_n 3, 1) := by decide +kernel
theorem d_PM_goNight_17 : decode b_PM_goNight 17 = .ok (.iconst 0, 1) := by decide +kernel
theorem d_PM_goNight_18 : decode b_PM_goNight 18 = .ok (.istore 4, 2) := by decide +kernel
theorem d_PM_goNight_20 : decode b_PM_goNight 20 = .ok (.iload 4, 2) := by decide +kernel
theorem d_PM_goNight_22 : decode b_PM_goNight 22 = .ok (.aload_n 0, 1) := by decide +kernel
theorem d_PM_goNight_23 : decode b_PM_goNight 23 = .ok (.getfield 63, 3) := by decide +kernel
theorem d_PM_goNight_26 : decode b_PM_goNight 26 = .ok (.if_icmp .ge 92, 3) := by decide +kernel
theorem d_PM_goNight_29 : decode b_PM_goNight 29 = .ok (.iload_n 3, 1) := by decide +kernel
theorem d_PM_goNight_30 : decode b_PM_goNight 30 = .ok (.iload 4, 2) := by decide +kernel
theorem d_PM_goNight_32 : decode b_PM_goNight 32 = .ok (.invokestatic 105, 3) := by decide +kernel
theorem d_PM_goNight_35 : decode b_PM_goNight 35 = .ok (.ifCond .eq 77, 3) := by decide +kernel
theorem d_PM_goNight_38 : decode b_PM_goNight 38 = .ok (.aload_n 1, 1) := by decide +kernel
theorem d_PM_goNight_39 : decode b_PM_goNight 39 = .ok (.bipush 10, 2) := by decide +kernel
theorem d_PM_goNight_41 : decode b_PM_goNight 41 = .ok (.iload 4, 2) := by decide +kernel
theorem d_PM_goNight_43 : decode b_PM_goNight 43 = .ok (.iadd, 1) := by decide +kernel
theorem d_PM_goNight_44 : decode b_PM_goNight 44 = .ok (.dup2, 1) := by decide +kernel
theorem d_PM_goNight_45 : decode b_PM_goNight 45 = .ok (.iaload, 1) := by decide +kernel
theorem d_PM_goNight_46 : decode b_PM_goNight 46 = .ok (.iconst 1, 1) := by decide +kernel
theorem d_PM_goNight_47 : decode b_PM_goNight 47 = .ok (.iadd, 1) := by decide +kernel
theorem d_PM_goNight_48 : decode b_PM_goNight 48 = .ok (.iastore, 1) := by decide +kernel
theorem d_PM_goNight_49 : decode b_PM_goNight 49 = .ok (.aload_n 0, 1) := by decide +kernel
theorem d_PM_goNight_50 : decode b_PM_goNight 50 = .ok (.getfield 16, 3) := by decide +kernel
theorem d_PM_goNight_53 : decode b_PM_goNight 53 = .ok (.bipush 6, 2) := by decide +kernel
theorem d_PM_goNight_55 : decode b_PM_goNight 55 = .ok (.iload 4, 2) := by decide +kernel
theorem d_PM_goNight_57 : decode b_PM_goNight 57 = .ok (.imul, 1) := by decide +kernel
theorem d_PM_goNight_58 : decode b_PM_goNight 58 = .ok (.iaload, 1) := by decide +kernel
theorem d_PM_goNight_59 : decode b_PM_goNight 59 = .ok (.iconst 3, 1) := by decide +kernel
theorem d_PM_goNight_60 : decode b_PM_goNight 60 = .ok (.if_icmp .ne 16, 3) := by decide +kernel
theorem d_PM_goNight_63 : decode b_PM_goNight 63 = .ok (.iload_n 2, 1) := by decide +kernel
theorem d_PM_goNight_64 : decode b_PM_goNight 64 = .ok (.iload 4, 2) := by decide +kernel
theorem d_PM_goNight_66 : decode b_PM_goNight 66 = .ok (.invokestatic 105, 3) := by decide +kernel
theorem d_PM_goNight_69 : decode b_PM_goNight 69 = .ok (.ifCond .eq 7, 3) := by decide +kernel
theorem d_PM_goNight_72 : decode b_PM_goNight 72 = .ok (.iconst 1, 1) := by decide +kernel
theorem d_PM_goNight_73 : decode b_PM_goNight 73 = .ok (.goto 4, 3) := by decide +kernel
theorem d_PM_goNight_76 : decode b_PM_goNight 76 = .ok (.iconst 0, 1) := by decide +kernel
theorem d_PM_goNight_77 : decode b_PM_goNight 77 = .ok (.istore 5, 2) := by decide +kernel
theorem d_PM_goNight_79 : decode b_PM_goNight 79 = .ok (.aload_n 1, 1) := by decide +kernel
theorem d_PM_goNight_80 : decode b_PM_goNight 80 = .ok (.bipush 10, 2) := by decide +kernel
theorem d_PM_goNight_82 : decode b_PM_goNight 82 = .ok (.iload 4, 2) := by decide +kernel
theorem d_PM_goNight_84 : decode b_PM_goNight 84 = .ok (.iadd, 1) := by decide +kernel
theorem d_PM_goNight_85 : decode b_PM_goNight 85 = .ok (.iaload, 1) := by decide +kernel
theorem d_PM_goNight_86 : decode b_PM_goNight 86 = .ok (.aload_n 0, 1) := by decide +kernel
theorem d_PM_goNight_87 : decode b_PM_goNight 87 = .ok (.getfield 16, 3) := by decide +kernel
theorem d_PM_goNight_90 : decode b_PM_goNight 90 = .ok (.bipush 6, 2) := by decide +kernel
theorem d_PM_goNight_92 : decode b_PM_goNight 92 = .ok (.iload 4, 2) := by decide +kernel
theorem d_PM_goNight_94 : decode b_PM_goNight 94 = .ok (.imul, 1) := by decide +kernel
theorem d_PM_goNight_95 : decode b_PM_goNight 95 = .ok (.iconst 1, 1) := by decide +kernel
theorem d_PM_goNight_96 : decode b_PM_goNight 96 = .ok (.iadd, 1) := by decide +kernel
theorem d_PM_goNight_97 : decode b_PM_goNight 97 = .ok (.iaload, 1) := by decide +kernel
theorem d_PM_goNight_98 : decode b_PM_goNight 98 = .ok (.if_icmp .lt 14, 3) := by decide +kernel
theorem d_PM_goNight_101 : decode b_PM_goNight 101 = .ok (.iload 5, 2) := by decide +kernel
theorem d_PM_goNight_103 : decode b_PM_goNight 103 = .ok (.ifCond .ne 9, 3) := by decide +kernel
theorem d_PM_goNight_106 : decode b_PM_goNight 106 = .ok (.aload_n 1, 1) := by decide +kernel
theorem d_PM_goNight_107 : decode b_PM_goNight 107 = .ok (.iload 4, 2) := by decide +kernel
theorem d_PM_goNight_109 : decode b_PM_goNight 109 = .ok (.invokestatic 138, 3) := by decide +kernel
theorem d_PM_goNight_112 : decode b_PM_goNight 112 = .ok (.iinc 4 1, 3) := by decide +kernel
theorem d_PM_goNight_115 : decode b_PM_goNight 115 = .ok (.goto (-95), 3) := by decide +kernel
theorem d_PM_goNight_118 : decode b_PM_goNight 118 = .ok (.iconst 0, 1) := by decide +kernel
theorem d_PM_goNight_119 : decode b_PM_goNight 119 = .ok (.istore 4, 2) := by decide +kernel
theorem d_PM_goNight_121 : decode b_PM_goNight 121 = .ok (.iload 4, 2) := by decide +kernel
theorem d_PM_goNight_123 : decode b_PM_goNight 123 = .ok (.aload_n 0, 1) := by decide +kernel
theorem d_PM_goNight_124 : decode b_PM_goNight 124 = .ok (.getfield 63, 3) := by decide +kernel
theorem d_PM_goNight_127 : decode b_PM_goNight 127 = .ok (.if_icmp .ge 51, 3) := by decide +kernel
theorem d_PM_goNight_130 : decode b_PM_goNight 130 = .ok (.iload_n 2, 1) := by decide +kernel
theorem d_PM_goNight_131 : decode b_PM_goNight 131 = .ok (.iload 4, 2) := by decide +kernel
theorem d_PM_goNight_133 : decode b_PM_goNight 133 = .ok (.invokestatic 105, 3) := by decide +kernel
theorem d_PM_goNight_136 : decode b_PM_goNight 136 = .ok (.ifCond .eq 36, 3) := by decide +kernel
theorem d_PM_goNight_139 : decode b_PM_goNight 139 = .ok (.iload_n 3, 1) := by decide +kernel
theorem d_PM_goNight_140 : decode b_PM_goNight 140 = .ok (.iload 4, 2) := by decide +kernel
theorem d_PM_goNight_142 : decode b_PM_goNight 142 = .ok (.invokestatic 105, 3) := by decide +kernel
theorem d_PM_goNight_145 : decode b_PM_goNight 145 = .ok (.ifCond .ne 27, 3) := by decide +kernel
theorem d_PM_goNight_148 : decode b_PM_goNight 148 = .ok (.aload_n 1, 1) := by decide +kernel
theorem d_PM_goNight_149 : decode b_PM_goNight 149 = .ok (.iconst 5, 1) := by decide +kernel
theorem d_PM_goNight_150 : decode b_PM_goNight 150 = .ok (.aload_n 1, 1) := by decide +kernel
theorem d_PM_goNight_151 : decode b_PM_goNight 151 = .ok (.iconst 4, 1) := by decide +kernel
theorem d_PM_goNight_152 : decode b_PM_goNight 152 = .ok (.iaload, 1) := by decide +kernel
theorem d_PM_goNight_153 : decode b_PM_goNight 153 = .ok (.iadd, 1) := by decide +kernel
theorem d_PM_goNight_154 : decode b_PM_goNight 154 = .ok (.iload 4, 2) := by decide +kernel
theorem d_PM_goNight_156 : decode b_PM_goNight 156 = .ok (.iastore, 1) := by decide +kernel
theorem d_PM_goNight_157 : decode b_PM_goNight 157 = .ok (.aload_n 1, 1) := by decide +kernel
theorem d_PM_goNight_158 : decode b_PM_goNight 158 = .ok (.iconst 4, 1) := by decide +kernel
theorem d_PM_goNight_159 : decode b_PM_goNight 159 = .ok (.dup2, 1) := by decide +kernel
theorem d_PM_goNight_160 : decode b_PM_goNight 160 = .ok (.iaload, 1) := by decide +kernel
theorem d_PM_goNight_161 : decode b_PM_goNight 161 = .ok (.iconst 1, 1) := by decide +kernel
theorem d_PM_goNight_162 : decode b_PM_goNight 162 = .ok (.iadd, 1) := by decide +kernel
theorem d_PM_goNight_163 : decode b_PM_goNight 163 = .ok (.iastore, 1) := by decide +kernel
theorem d_PM_goNight_164 : decode b_PM_goNight 164 = .ok (.aload_n 1, 1) := by decide +kernel
theorem d_PM_goNight_165 : decode b_PM_goNight 165 = .ok (.bipush 10, 2) := by decide +kernel
theorem d_PM_goNight_167 : decode b_PM_goNight 167 = .ok (.iload 4, 2) := by decide +kernel
theorem d_PM_goNight_169 : decode b_PM_goNight 169 = .ok (.iadd, 1) := by decide +kernel
theorem d_PM_goNight_170 : decode b_PM_goNight 170 = .ok (.iconst 0, 1) := by decide +kernel
theorem d_PM_goNight_171 : decode b_PM_goNight 171 = .ok (.iastore, 1) := by decide +kernel
theorem d_PM_goNight_172 : decode b_PM_goNight 172 = .ok (.iinc 4 1, 3) := by decide +kernel
theorem d_PM_goNight_175 : decode b_PM_goNight 175 = .ok (.goto (-54), 3) := by decide +kernel
theorem d_PM_goNight_178 : decode b_PM_goNight 178 = .ok (.aload_n 1, 1) := by decide +kernel
theorem d_PM_goNight_179 : decode b_PM_goNight 179 = .ok (.bipush 15, 2) := by decide +kernel
theorem d_PM_goNight_181 : decode b_PM_goNight 181 = .ok (.dup2, 1) := by decide +kernel
theorem d_PM_goNight_182 : decode b_PM_goNight 182 = .ok (.iaload, 1) := by decide +kernel
theorem d_PM_goNight_183 : decode b_PM_goNight 183 = .ok (.iconst 1, 1) := by decide +kernel
theorem d_PM_goNight_184 : decode b_PM_goNight 184 = .ok (.iadd, 1) := by decide +kernel
theorem d_PM_goNight_185 : decode b_PM_goNight 185 = .ok (.iastore, 1) := by decide +kernel
theorem d_PM_goNight_186 : decode b_PM_goNight 186 = .ok (.return_, 1) := by decide +kernel
theorem d_PM_hall_0 : decode b_PM_hall 0 = .ok (.aload_n 0, 1) := by decide +kernel
theorem d_PM_hall_1 : decode b_PM_hall 1 = .ok (.iconst 0, 1) := by decide +kernel
theorem d_PM_hall_2 : decode b_PM_hall 2 = .ok (.putfield 59, 3) := by decide +kernel
theorem d_PM_hall_5 : decode b_PM_hall 5 = .ok (.aload_n 0, 1) := by decide +kernel
theorem d_PM_hall_6 : decode b_PM_hall 6 = .ok (.invokevirtual 94, 3) := by decide +kernel
theorem d_PM_hall_9 : decode b_PM_hall 9 = .ok (.bipush (-9), 2) := by decide +kernel
theorem d_PM_hall_11 : decode b_PM_hall 11 = .ok (.if_icmp .eq 6, 3) := by decide +kernel
theorem d_PM_hall_14 : decode b_PM_hall 14 = .ok (.bipush (-3), 2) := by decide +kernel
theorem d_PM_hall_16 : decode b_PM_hall 16 = .ok (.ireturn, 1) := by decide +kernel
theorem d_PM_hall_17 : decode b_PM_hall 17 = .ok (.aload_n 0, 1) := by decide +kernel
theorem d_PM_hall_18 : decode b_PM_hall 18 = .ok (.aload_n 0, 1) := by decide +kernel
theorem d_PM_hall_19 : decode b_PM_hall 19 = .ok (.getfield 84, 3) := by decide +kernel
theorem d_PM_hall_22 : decode b_PM_hall 22 = .ok (.putfield 63, 3) := by decide +kernel
theorem d_PM_hall_25 : decode b_PM_hall 25 = .ok (.iconst 0, 1) := by decide +kernel
theorem d_PM_hall_26 : decode b_PM_hall 26 = .ok (.istore_n 1, 1) := by decide +kernel
theorem d_PM_hall_27 : decode b_PM_hall 27 = .ok (.iload_n 1, 1) := by decide +kernel
theorem d_PM_hall_28 : decode b_PM_hall 28 = .ok (.bipush 12, 2) := by decide +kernel
theorem d_PM_hall_30 : decode b_PM_hall 30 = .ok (.if_icmp .ge 21, 3) := by decide +kernel
theorem d_PM_hall_33 : decode b_PM_hall 33 = .ok (.aload_n 0, 1) := by decide +kernel
theorem d_PM_hall_34 : decode b_PM_hall 34 = .ok (.getfield 13, 3) := by decide +kernel
theorem d_PM_hall_37 : decode b_PM_hall 37 = .ok (.iload_n 1, 1) := by decide +kernel
theorem d_PM_hall_38 : decode b_PM_hall 38 = .ok (.aload_n 0, 1) := by decide +kernel
theorem d_PM_hall_39 : decode b_PM_hall 39 = .ok (.getfield 19, 3) := by decide +kernel
theorem d_PM_hall_42 : decode b_PM_hall 42 = .ok (.iload_n 1, 1) := by decide +kernel
theorem d_PM_hall_43 : decode b_PM_hall 43 = .ok (.iaload, 1) := by decide +kernel
theorem d_PM_hall_44 : decode b_PM_hall 44 = .ok (.iastore, 1) := by decide +kernel
theorem d_PM_hall_45 : decode b_PM_hall 45 = .ok (.iinc 1 1, 3) := by decide +kernel
theorem d_PM_hall_48 : decode b_PM_hall 48 = .ok (.goto (-21), 3) := by decide +kernel
theorem d_PM_hall_51 : decode b_PM_hall 51 = .ok (.iconst 0, 1) := by decide +kernel
theorem d_PM_hall_52 : decode b_PM_hall 52 = .ok (.istore_n 1, 1) := by decide +kernel
theorem d_PM_hall_53 : decode b_PM_hall 53 = .ok (.iload_n 1, 1) := by decide +kernel
theorem d_PM_hall_54 : decode b_PM_hall 54 = .ok (.bipush 6, 2) := by decide +kernel
theorem d_PM_hall_56 : decode b_PM_hall 56 = .ok (.aload_n 0, 1) := by decide +kernel
theorem d_PM_hall_57 : decode b_PM_hall 57 = .ok (.getfield 63, 3) := by decide +kernel
theorem d_PM_hall_60 : decode b_PM_hall 60 = .ok (.imul, 1) := by decide +kernel
theorem d_PM_hall_61 : decode b_PM_hall 61 = .ok (.if_icmp .ge 21, 3) := by decide +kernel
theorem d_PM_hall_64 : decode b_PM_hall 64 = .ok (.aload_n 0, 1) := by decide +kernel
theorem d_PM_hall_65 : decode b_PM_hall 65 = .ok (.getfield 16, 3) := by decide +kernel
theorem d_PM_hall_68 : decode b_PM_hall 68 = .ok (.iload_n 1, 1) := by decide +kernel
theorem d_PM_hall_69 : decode b_PM_hall 69 = .ok (.aload_n 0, 1) := by decide +kernel
theorem d_PM_hall_70 : decode b_PM_hall 70 = .ok (.getfield 22, 3) := by decide +kernel
theorem d_PM_hall_73 : decode b_PM_hall 73 = .ok (.iload_n 1, 1) := by decide +kernel
theorem d_PM_hall_74 : decode b_PM_hall 74 = .ok (.iaload, 1) := by decide +kernel
theorem d_PM_hall_75 : decode b_PM_hall 75 = .ok (.iastore, 1) := by decide +kernel
theorem d_PM_hall_76 : decode b_PM_hall 76 = .ok (.iinc 1 1, 3) := by decide +kernel
theorem d_PM_hall_79 : decode b_PM_hall 79 = .ok (.goto (-26), 3) := by decide +kernel
theorem d_PM_hall_82 : decode b_PM_hall 82 = .ok (.iconst 0, 1) := by decide +kernel
theorem d_PM_hall_83 : decode b_PM_hall 83 = .ok (.istore_n 1, 1) := by decide +kernel
theorem d_PM_hall_84 : decode b_PM_hall 84 = .ok (.iload_n 1, 1) := by decide +kernel
theorem d_PM_hall_85 : decode b_PM_hall 85 = .ok (.bipush 16, 2) := by decide +kernel
theorem d_PM_hall_87 : decode b_PM_hall 87 = .ok (.if_icmp .ge 35, 3) := by decide +kernel
theorem d_PM_hall_90 : decode b_PM_hall 90 = .ok (.aload_n 0, 1) := by decide +kernel
theorem d_PM_hall_91 : decode b_PM_hall 91 = .ok (.getfield 25, 3) := by decide +kernel
theorem d_PM_hall_94 : decode b_PM_hall 94 = .ok (.iload_n 1, 1) := by decide +kernel
theorem d_PM_hall_95 : decode b_PM_hall 95 = .ok (.iload_n 1, 1) := by decide +kernel
theorem d_PM_hall_96 : decode b_PM_hall 96 = .ok (.i2l, 1) := by decide +kernel
theorem d_PM_hall_97 : decode b_PM_hall 97 = .ok (.ldc2_w 98, 3) := by decide +kernel
theorem d_PM_hall_100 : decode b_PM_hall 100 = .ok (.ldc2_w 100, 3) := by decide +kernel
theorem d_PM_hall_103 : decode b_PM_hall 103 = .ok (.invokestatic 66, 3) := by decide +kernel
theorem d_PM_hall_106 : decode b_PM_hall 106 = .ok (.ifCond .eq 8, 3) := by decide +kernel
theorem d_PM_hall_109 : decode b_PM_hall 109 = .ok (.bipush (-9), 2) := by decide +kernel
theorem d_PM_hall_111 : decode b_PM_hall 111 = .ok (.goto 4, 3) := by decide +kernel
theorem d_PM_hall_114 : decode b_PM_hall 114 = .ok (.iconst 0, 1) := by decide +kernel
theorem d_PM_hall_115 : decode b_PM_hall 115 = .ok (.iastore, 1) := by decide +kernel
theorem d_PM_hall_116 : decode b_PM_hall 116 = .ok (.iinc 1 1, 3) := by decide +kernel
theorem d_PM_hall_119 : decode b_PM_hall 119 = .ok (.goto (-35), 3) := by decide +kernel
theorem d_PM_hall_122 : decode b_PM_hall 122 = .ok (.aload_n 0, 1) := by decide +kernel
theorem d_PM_hall_123 : decode b_PM_hall 123 = .ok (.iconst 0, 1) := by decide +kernel
theorem d_PM_hall_124 : decode b_PM_hall 124 = .ok (.putfield 102, 3) := by decide +kernel
theorem d_PM_hall_127 : decode b_PM_hall 127 = .ok (.aload_n 0, 1) := by decide +kernel
theorem d_PM_hall_128 : decode b_PM_hall 128 = .ok (.getfield 37, 3) := by decide +kernel
theorem d_PM_hall_131 : decode b_PM_hall 131 = .ok (.iconst 0, 1) := by decide +kernel
theorem d_PM_hall_132 : decode b_PM_hall 132 = .ok (.iconst 0, 1) := by decide +kernel
theorem d_PM_hall_133 : decode b_PM_hall 133 = .ok (.bastore, 1) := by decide +kernel
theorem d_PM_hall_134 : decode b_PM_hall 134 = .ok (.aload_n 0, 1) := by decide +kernel
theorem d_PM_hall_135 : decode b_PM_hall 135 = .ok (.getfield 37, 3) := by decide +kernel
theorem d_PM_hall_138 : decode b_PM_hall 138 = .ok (.iconst 1, 1) := by decide +kernel
theorem d_PM_hall_139 : decode b_PM_hall 139 = .ok (.iconst 0, 1) := by decide +kernel
theorem d_PM_hall_140 : decode b_PM_hall 140 = .ok (.bastore, 1) := by decide +kernel
theorem d_PM_hall_141 : decode b_PM_hall 141 = .ok (.aload_n 0, 1) := by decide +kernel
theorem d_PM_hall_142 : decode b_PM_hall 142 = .ok (.getfield 63, 3) := by decide +kernel
theorem d_PM_hall_145 : decode b_PM_hall 145 = .ok (.ireturn, 1) := by decide +kernel
theorem d_PM_has_0 : decode b_PM_has 0 = .ok (.iload_n 0, 1) := by decide +kernel
theorem d_PM_has_1 : decode b_PM_has 1 = .ok (.iload_n 1, 1) := by decide +kernel
theorem d_PM_has_2 : decode b_PM_has 2 = .ok (.ishr, 1) := by decide +kernel
theorem d_PM_has_3 : decode b_PM_has 3 = .ok (.iconst 1, 1) := by decide +kernel
theorem d_PM_has_4 : decode b_PM_has 4 = .ok (.iand, 1) := by decide +kernel
theorem d_PM_has_5 : decode b_PM_has 5 = .ok (.iconst 1, 1) := by decide +kernel
theorem d_PM_has_6 : decode b_PM_has 6 = .ok (.if_icmp .ne 7, 3) := by decide +kernel
theorem d_PM_has_9 : decode b_PM_has 9 = .ok (.iconst 1, 1) := by decide +kernel
theorem d_PM_has_10 : decode b_PM_has 10 = .ok (.goto 4, 3) := by decide +kernel
theorem d_PM_has_13 : decode b_PM_has 13 = .ok (.iconst 0, 1) := by decide +kernel
theorem d_PM_has_14 : decode b_PM_has 14 = .ok (.ireturn, 1) := by decide +kernel
theorem d_PM_in_0 : decode b_PM_in 0 = .ok (.lload_n 0, 1) := by decide +kernel
theorem d_PM_in_1 : decode b_PM_in 1 = .ok (.lload_n 2, 1) := by decide +kernel
theorem d_PM_in_2 : decode b_PM_in 2 = .ok (.lcmp, 1) := by decide +kernel
theorem d_PM_in_3 : decode b_PM_in 3 = .ok (.ifCond .lt 14, 3) := by decide +kernel
theorem d_PM_in_6 : decode b_PM_in 6 = .ok (.lload_n 0, 1) := by decide +kernel
theorem d_PM_in_7 : decode b_PM_in 7 = .ok (.lload 4, 2) := by decide +kernel
theorem d_PM_in_9 : decode b_PM_in 9 = .ok (.lcmp, 1) := by decide +kernel
theorem d_PM_in_10 : decode b_PM_in 10 = .ok (.ifCond .gt 7, 3) := by decide +kernel
theorem d_PM_in_13 : decode b_PM_in 13 = .ok (.iconst 1, 1) := by decide +kernel
theorem d_PM_in_14 : decode b_PM_in 14 = .ok (.goto 4, 3) := by decide +kernel
theorem d_PM_in_17 : decode b_PM_in 17 = .ok (.iconst 0, 1) := by decide +kernel
theorem d_PM_in_18 : decode b_PM_in 18 = .ok (.ireturn, 1) := by decide +kernel
theorem d_PM_isCalled_0 : decode b_PM_isCalled 0 = .ok (.iconst 0, 1) := by decide +kernel
theorem d_PM_isCalled_1 : decode b_PM_isCalled 1 = .ok (.istore_n 3, 1) := by decide +kernel
theorem d_PM_isCalled_2 : decode b_PM_isCalled 2 = .ok (.iconst 0, 1) := by decide +kernel
theorem d_PM_isCalled_3 : decode b_PM_isCalled 3 = .ok (.istore 4, 2) := by decide +kernel
theorem d_PM_isCalled_5 : decode b_PM_isCalled 5 = .ok (.iconst 0, 1) := by decide +kernel
theorem d_PM_isCalled_6 : decode b_PM_isCalled 6 = .ok (.istore 5, 2) := by decide +kernel
theorem d_PM_isCalled_8 : decode b_PM_isCalled 8 = .ok (.iload 5, 2) := by decide +kernel
theorem d_PM_isCalled_10 : decode b_PM_isCalled 10 = .ok (.iconst 4, 1) := by decide +kernel
theorem d_PM_isCalled_11 : decode b_PM_isCalled 11 = .ok (.if_icmp .ge 86, 3) := by decide +kernel
theorem d_PM_isCalled_14 : decode b_PM_isCalled 14 = .ok (.aload_n 0, 1) := by decide +kernel
theorem d_PM_isCalled_15 : decode b_PM_isCalled 15 = .ok (.getfield 16, 3) := by decide +kernel
theorem d_PM_isCalled_18 : decode b_PM_isCalled 18 = .ok (.bipush 6, 2) := by decide +kernel
theorem d_PM_isCalled_20 : decode b_PM_isCalled 20 = .ok (.iload_n 1, 1) := by decide +kernel
theorem d_PM_isCalled_21 : decode b_PM_isCalled 21 = .ok (.imul, 1) := by decide +kernel
theorem d_PM_isCalled_22 : decode b_PM_isCalled 22 = .ok (.iconst 2, 1) := by decide +kernel
theorem d_PM_isCalled_23 : decode b_PM_isCalled 23 = .ok (.iadd, 1) := by decide +kernel
theorem d_PM_isCalled_24 : decode b_PM_isCalled 24 = .ok (.iload 5, 2) := by decide +kernel
theorem d_PM_isCalled_26 : decode b_PM_isCalled 26 = .ok (.iadd, 1) := by decide +kernel
theorem d_PM_isCalled_27 : decode b_PM_isCalled 27 = .ok (.iaload, 1) := by decide +kernel
theorem d_PM_isCalled_28 : decode b_PM_isCalled 28 = .ok (.istore 6, 2) := by decide +kernel
theorem d_PM_isCalled_30 : decode b_PM_isCalled 30 = .ok (.iload_n 3, 1) := by decide +kernel
theorem d_PM_isCalled_31 : decode b_PM_isCalled 31 = .ok (.iload_n 2, 1) := by decide +kernel
theorem d_PM_isCalled_32 : decode b_PM_isCalled 32 = .ok (.iload 5, 2) := by decide +kernel
theorem d_PM_isCalled_34 : decode b_PM_isCalled 34 = .ok (.invokestatic 105, 3) := by decide +kernel
theorem d_PM_isCalled_37 : decode b_PM_isCalled 37 = .ok (.ifCond .eq 28, 3) := by decide +kernel
theorem d_PM_isCalled_40 : decode b_PM_isCalled 40 = .ok (.iload 6, 2) := by decide +kernel
theorem d_PM_isCalled_42 : decode b_PM_isCalled 42 = .ok (.iconst 3, 1) := by decide +kernel
theorem d_PM_isCalled_43 : decode b_PM_isCalled 43 = .ok (.if_icmp .eq 15, 3) := by decide +kernel
theorem d_PM_isCalled_46 : decode b_PM_isCalled 46 = .ok (.iload 6, 2) := by decide +kernel
theorem d_PM_isCalled_48 : decode b_PM_isCalled 48 = .ok (.aload_n 0, 1) := by decide +kernel
theorem d_PM_isCalled_49 : decode b_PM_isCalled 49 = .ok (.getfield 56, 3) := by decide +kernel
theorem d_PM_isCalled_52 : decode b_PM_isCalled 52 = .ok (.iload 5, 2) := by decide +kernel
theorem d_PM_isCalled_54 : decode b_PM_isCalled 54 = .ok (.iaload, 1) := by decide +kernel
theorem d_PM_isCalled_55 : decode b_PM_isCalled 55 = .ok (.if_icmp .ne 10, 3) := by decide +kernel
theorem d_PM_isCalled_58 : decode b_PM_isCalled 58 = .ok (.iconst 1, 1) := by decide +kernel
theorem d_PM_isCalled_59 : decode b_PM_isCalled 59 = .ok (.iload 5, 2) := by decide +kernel
theorem d_PM_isCalled_61 : decode b_PM_isCalled 61 = .ok (.ishl, 1) := by decide +kernel
theorem d_PM_isCalled_62 : decode b_PM_isCalled 62 = .ok (.goto 4, 3) := by decide +kernel
theorem d_PM_isCalled_65 : decode b_PM_isCalled 65 = .ok (.iconst 0, 1) := by decide +kernel
theorem d_PM_isCalled_66 : decode b_PM_isCalled 66 = .ok (.ior, 1) := by decide +kernel
theorem d_PM_isCalled_67 : decode b_PM_isCalled 67 = .ok (.istore_n 3, 1) := by decide +kernel
theorem d_PM_isCalled_68 : decode b_PM_isCalled 68 = .ok (.iload 4, 2) := by decide +kernel
theorem d_PM_isCalled_70 : decode b_PM_isCalled 70 = .ok (.ifCond .ne 14, 3) := by decide +kernel
theorem d_PM_isCalled_73 : decode b_PM_isCalled 73 = .ok (.aload_n 0, 1) := by decide +kernel
theorem d_PM_isCalled_74 : decode b_PM_isCalled 74 = .ok (.getfield 56, 3) := by decide +kernel
theorem d_PM_isCalled_77 : decode b_PM_isCalled 77 = .ok (.iload 5, 2) := by decide +kernel
theorem d_PM_isCalled_79 : decode b_PM_isCalled 79 = .ok (.iaload, 1) := by decide +kernel
theorem d_PM_isCalled_80 : decode b_PM_isCalled 80 = .ok (.iconst 2, 1) := by decide +kernel
theorem d_PM_isCalled_81 : decode b_PM_isCalled 81 = .ok (.if_icmp .ne 7, 3) := by decide +kernel
theorem d_PM_isCalled_84 : decode b_PM_isCalled 84 = .ok (.iconst 1, 1) := by decide +kernel
theorem d_PM_isCalled_85 : decode b_PM_isCalled 85 = .ok (.goto 4, 3) := by decide +kernel
theorem d_PM_isCalled_88 : decode b_PM_isCalled 88 = .ok (.iconst 0, 1) := by decide +kernel
theorem d_PM_isCalled_89 : decode b_PM_isCalled 89 = .ok (.istore 4, 2) := by decide +kernel
theorem d_PM_isCalled_91 : decode b_PM_isCalled 91 = .ok (.iinc 5 1, 3) := by decide +kernel
theorem d_PM_isCalled_94 : decode b_PM_isCalled 94 = .ok (.goto (-86), 3) := by decide +kernel
theorem d_PM_isCalled_97 : decode b_PM_isCalled 97 = .ok (.aload_n 0, 1) := by decide +kernel
theorem d_PM_isCalled_98 : decode b_PM_isCalled 98 = .ok (.getfield 16, 3) := by decide +kernel
theorem d_PM_isCalled_101 : decode b_PM_isCalled 101 = .ok (.bipush 6, 2) := by decide +kernel
theorem d_PM_isCalled_103 : decode b_PM_isCalled 103 = .ok (.iload_n 1, 1) := by decide +kernel
theorem d_PM_isCalled_104 : decode b_PM_isCalled 104 = .ok (.imul, 1) := by decide +kernel
theorem d_PM_isCalled_105 : decode b_PM_isCalled 105 = .ok (.iaload, 1) := by decide +kernel
theorem d_PM_isCalled_106 : decode b_PM_isCalled 106 = .ok (.iconst 1, 1) := by decide +kernel
theorem d_PM_isCalled_107 : decode b_PM_isCalled 107 = .ok (.if_icmp .ne 16, 3) := by decide +kernel
theorem d_PM_isCalled_110 : decode b_PM_isCalled 110 = .ok (.iload_n 3, 1) := by decide +kernel
theorem d_PM_isCalled_111 : decode b_PM_isCalled 111 = .ok (.iconst 3, 1) := by decide +kernel
theorem d_PM_isCalled_112 : decode b_PM_isCalled 112 = .ok (.iand, 1) := by decide +kernel
theorem d_PM_isCalled_113 : decode b_PM_isCalled 113 = .ok (.iconst 3, 1) := by decide +kernel
theorem d_PM_isCalled_114 : decode b_PM_isCalled 114 = .ok (.if_icmp .ne 7, 3) := by decide +kernel
theorem d_PM_isCalled_117 : decode b_PM_isCalled 117 = .ok (.iconst 1, 1) := by decide +kernel
theorem d_PM_isCalled_118 : decode b_PM_isCalled 118 = .ok (.goto 4, 3) := by decide +kernel
theorem d_PM_isCalled_121 : decode b_PM_isCalled 121 = .ok (.iconst 0, 1) := by decide +kernel
theorem d_PM_isCalled_122 : decode b_PM_isCalled 122 = .ok (.ireturn, 1) := by decide +kernel
theorem d_PM_isCalled_123 : decode b_PM_isCalled 123 = .ok (.iload_n 3, 1) := by decide +kernel
theorem d_PM_isCalled_124 : decode b_PM_isCalled 124 = .ok (.bipush 15, 2) := by decide +kernel
theorem d_PM_isCalled_126 : decode b_PM_isCalled 126 = .ok (.if_icmp .ne 25, 3) := by decide +kernel
theorem d_PM_isCalled_129 : decode b_PM_isCalled 129 = .ok (.aload_n 0, 1) := by decide +kernel
theorem d_PM_isCalled_130 : decode b_PM_isCalled 130 = .ok (.getfield 16, 3) := by decide +kernel
theorem d_PM_isCalled_133 : decode b_PM_isCalled 133 = .ok (.bipush 6, 2) := by decide +kernel
theorem d_PM_isCalled_135 : decode b_PM_isCalled 135 = .ok (.iload_n 1, 1) := by decide +kernel
theorem d_PM_isCalled_136 : decode b_PM_isCalled 136 = .ok (.imul, 1) := by decide +kernel
theorem d_PM_isCalled_137 : decode b_PM_isCalled 137 = .ok (.iaload, 1) := by decide +kernel
theorem d_PM_isCalled_138 : decode b_PM_isCalled 138 = .ok (.iconst 2, 1) := by decide +kernel
theorem d_PM_isCalled_139 : decode b_PM_isCalled 139 = .ok (.if_icmp .ne 8, 3) := by decide +kernel
theorem d_PM_isCalled_142 : decode b_PM_isCalled 142 = .ok (.iload 4, 2) := by decide +kernel
theorem d_PM_isCalled_144 : decode b_PM_isCalled 144 = .ok (.ifCond .eq 7, 3) := by decide +kernel
theorem d_PM_isCalled_147 : decode b_PM_isCalled 147 = .ok (.iconst 1, 1) := by decide +kernel
theorem d_PM_isCalled_148 : decode b_PM_isCalled 148 = .ok (.goto 4, 3) := by decide +kernel
theorem d_PM_isCalled_151 : decode b_PM_isCalled 151 = .ok (.iconst 0, 1) := by decide +kernel
theorem d_PM_isCalled_152 : decode b_PM_isCalled 152 = .ok (.ireturn, 1) := by decide +kernel
theorem d_PM_judge_0 : decode b_PM_judge 0 = .ok (.aload_n 0, 1) := by decide +kernel
theorem d_PM_judge_1 : decode b_PM_judge 1 = .ok (.iconst 0, 1) := by decide +kernel
theorem d_PM_judge_2 : decode b_PM_judge 2 = .ok (.putfield 59, 3) := by decide +kernel
theorem d_PM_judge_5 : decode b_PM_judge 5 = .ok (.iload_n 1, 1) := by decide +kernel
theorem d_PM_judge_6 : decode b_PM_judge 6 = .ok (.i2l, 1) := by decide +kernel
theorem d_PM_judge_7 : decode b_PM_judge 7 = .ok (.lconst 1, 1) := by decide +kernel
theorem d_PM_judge_8 : decode b_PM_judge 8 = .ok (.ldc2_w 186, 3) := by decide +kernel
theorem d_PM_judge_11 : decode b_PM_judge 11 = .ok (.invokestatic 66, 3) := by decide +kernel
theorem d_PM_judge_14 : decode b_PM_judge 14 = .ok (.ifCond .eq 21, 3) := by decide +kernel
theorem d_PM_judge_17 : decode b_PM_judge 17 = .ok (.iload_n 2, 1) := by decide +kernel
theorem d_PM_judge_18 : decode b_PM_judge 18 = .ok (.i2l, 1) := by decide +kernel
theorem d_PM_judge_19 : decode b_PM_judge 19 = .ok (.lconst 0, 1) := by decide +kernel
theorem d_PM_judge_20 : decode b_PM_judge 20 = .ok (.bipush 100, 2) := by decide +kernel
theorem d_PM_judge_22 : decode b_PM_judge 22 = .ok (.iload_n 1, 1) := by decide +kernel
theorem d_PM_judge_23 : decode b_PM_judge 23 = .ok (.invokestatic 150, 3) := by decide +kernel
theorem d_PM_judge_26 : decode b_PM_judge 26 = .ok (.iconst 1, 1) := by decide +kernel
theorem d_PM_judge_27 : decode b_PM_judge 27 = .ok (.isub, 1) := by decide +kernel
theorem d_PM_judge_28 : decode b_PM_judge 28 = .ok (.i2l, 1) := by decide +kernel
theorem d_PM_judge_29 : decode b_PM_judge 29 = .ok (.invokestatic 66, 3) := by decide +kernel
theorem d_PM_judge_32 : decode b_PM_judge 32 = .ok (.ifCond .ne 6, 3) := by decide +kernel
theorem d_PM_judge_35 : decode b_PM_judge 35 = .ok (.bipush (-2), 2) := by decide +kernel
theorem d_PM_judge_37 : decode b_PM_judge 37 = .ok (.ireturn, 1) := by decide +kernel
theorem d_PM_judge_38 : decode b_PM_judge 38 = .ok (.aload_n 0, 1) := by decide +kernel
theorem d_PM_judge_39 : decode b_PM_judge 39 = .ok (.invokevirtual 181, 3) := by decide +kernel
theorem d_PM_judge_42 : decode b_PM_judge 42 = .ok (.iconst 0, 1) := by decide +kernel
theorem d_PM_judge_43 : decode b_PM_judge 43 = .ok (.istore_n 3, 1) := by decide +kernel
theorem d_PM_judge_44 : decode b_PM_judge 44 = .ok (.iload_n 3, 1) := by decide +kernel
theorem d_PM_judge_45 : decode b_PM_judge 45 = .ok (.iload_n 1, 1) := by decide +kernel
theorem d_PM_judge_46 : decode b_PM_judge 46 = .ok (.if_icmp .ge 33, 3) := by decide +kernel
theorem d_PM_judge_49 : decode b_PM_judge 49 = .ok (.aload_n 0, 1) := by decide +kernel
theorem d_PM_judge_50 : decode b_PM_judge 50 = .ok (.iload_n 2, 1) := by decide +kernel
theorem d_PM_judge_51 : decode b_PM_judge 51 = .ok (.bipush 100, 2) := by decide +kernel
theorem d_PM_judge_53 : decode b_PM_judge 53 = .ok (.iload_n 1, 1) := by decide +kernel
theorem d_PM_judge_54 : decode b_PM_judge 54 = .ok (.iconst 1, 1) := by decide +kernel
theorem d_PM_judge_55 : decode b_PM_judge 55 = .ok (.isub, 1) := by decide +kernel
theorem d_PM_judge_56 : decode b_PM_judge 56 = .ok (.iload_n 3, 1) := by decide +kernel
theorem d_PM_judge_57 : decode b_PM_judge 57 = .ok (.isub, 1) := by decide +kernel
theorem d_PM_judge_58 : decode b_PM_judge 58 = .ok (.invokestatic 150, 3) := by decide +kernel
theorem d_PM_judge_61 : decode b_PM_judge 61 = .ok (.idiv, 1) := by decide +kernel
theorem d_PM_judge_62 : decode b_PM_judge 62 = .ok (.bipush 100, 2) := by decide +kernel
theorem d_PM_judge_64 : decode b_PM_judge 64 = .ok (.irem, 1) := by decide +kernel
theorem d_PM_judge_65 : decode b_PM_judge 65 = .ok (.invokevirtual 188, 3) := by decide +kernel
theorem d_PM_judge_68 : decode b_PM_judge 68 = .ok (.ifCond .ne 5, 3) := by decide +kernel
theorem d_PM_judge_71 : decode b_PM_judge 71 = .ok (.iload_n 3, 1) := by decide +kernel
theorem d_PM_judge_72 : decode b_PM_judge 72 = .ok (.ireturn, 1) := by decide +kernel
theorem d_PM_judge_73 : decode b_PM_judge 73 = .ok (.iinc 3 1, 3) := by decide +kernel
theorem d_PM_judge_76 : decode b_PM_judge 76 = .ok (.goto (-32), 3) := by decide +kernel
theorem d_PM_judge_79 : decode b_PM_judge 79 = .ok (.bipush (-9), 2) := by decide +kernel
theorem d_PM_judge_81 : decode b_PM_judge 81 = .ok (.ireturn, 1) := by decide +kernel
theorem d_PM_keep_0 : decode b_PM_keep 0 = .ok (.aload_n 0, 1) := by decide +kernel
theorem d_PM_keep_1 : decode b_PM_keep 1 = .ok (.iconst 0, 1) := by decide +kernel
theorem d_PM_keep_2 : decode b_PM_keep 2 = .ok (.putfield 59, 3) := by decide +kernel
theorem d_PM_keep_5 : decode b_PM_keep 5 = .ok (.iload_n 1, 1) := by decide +kernel
theorem d_PM_keep_6 : decode b_PM_keep 6 = .ok (.i2l, 1) := by decide +kernel
theorem d_PM_keep_7 : decode b_PM_keep 7 = .ok (.lconst 0, 1) := by decide +kernel
theorem d_PM_keep_8 : decode b_PM_keep 8 = .ok (.lconst 1, 1) := by decide +kernel
theorem d_PM_keep_9 : decode b_PM_keep 9 = .ok (.invokestatic 66, 3) := by decide +kernel
theorem d_PM_keep_12 : decode b_PM_keep 12 = .ok (.ifCond .ne 5, 3) := by decide +kernel
theorem d_PM_keep_15 : decode b_PM_keep 15 = .ok (.iconst (-1), 1) := by decide +kernel
theorem d_PM_keep_16 : decode b_PM_keep 16 = .ok (.ireturn, 1) := by decide +kernel
theorem d_PM_keep_17 : decode b_PM_keep 17 = .ok (.aload_n 0, 1) := by decide +kernel
theorem d_PM_keep_18 : decode b_PM_keep 18 = .ok (.getfield 37, 3) := by decide +kernel
theorem d_PM_keep_21 : decode b_PM_keep 21 = .ok (.iload_n 1, 1) := by decide +kernel
theorem d_PM_keep_22 : decode b_PM_keep 22 = .ok (.iconst 1, 1) := by decide +kernel
theorem d_PM_keep_23 : decode b_PM_keep 23 = .ok (.bastore, 1) := by decide +kernel
theorem d_PM_keep_24 : decode b_PM_keep 24 = .ok (.iconst 0, 1) := by decide +kernel
theorem d_PM_keep_25 : decode b_PM_keep 25 = .ok (.istore_n 2, 1) := by decide +kernel
theorem d_PM_keep_26 : decode b_PM_keep 26 = .ok (.iload_n 2, 1) := by decide +kernel
theorem d_PM_keep_27 : decode b_PM_keep 27 = .ok (.bipush 16, 2) := by decide +kernel
theorem d_PM_keep_29 : decode b_PM_keep 29 = .ok (.if_icmp .ge 26, 3) := by decide +kernel
theorem d_PM_keep_32 : decode b_PM_keep 32 = .ok (.aload_n 0, 1) := by decide +kernel
theorem d_PM_keep_33 : decode b_PM_keep 33 = .ok (.getfield 34, 3) := by decide +kernel
theorem d_PM_keep_36 : decode b_PM_keep 36 = .ok (.bipush 16, 2) := by decide +kernel
theorem d_PM_keep_38 : decode b_PM_keep 38 = .ok (.iload_n 1, 1) := by decide +kernel
theorem d_PM_keep_39 : decode b_PM_keep 39 = .ok (.imul, 1) := by decide +kernel
theorem d_PM_keep_40 : decode b_PM_keep 40 = .ok (.iload_n 2, 1) := by decide +kernel
theorem d_PM_keep_41 : decode b_PM_keep 41 = .ok (.iadd, 1) := by decide +kernel
theorem d_PM_keep_42 : decode b_PM_keep 42 = .ok (.aload_n 0, 1) := by decide +kernel
theorem d_PM_keep_43 : decode b_PM_keep 43 = .ok (.getfield 25, 3) := by decide +kernel
theorem d_PM_keep_46 : decode b_PM_keep 46 = .ok (.iload_n 2, 1) := by decide +kernel
theorem d_PM_keep_47 : decode b_PM_keep 47 = .ok (.iaload, 1) := by decide +kernel
theorem d_PM_keep_48 : decode b_PM_keep 48 = .ok (.iastore, 1) := by decide +kernel
theorem d_PM_keep_49 : decode b_PM_keep 49 = .ok (.iinc 2 1, 3) := by decide +kernel
theorem d_PM_keep_52 : decode b_PM_keep 52 = .ok (.goto (-26), 3) := by decide +kernel
theorem d_PM_keep_55 : decode b_PM_keep 55 = .ok (.aload_n 0, 1) := by decide +kernel
theorem d_PM_keep_56 : decode b_PM_keep 56 = .ok (.getfield 25, 3) := by decide +kernel
theorem d_PM_keep_59 : decode b_PM_keep 59 = .ok (.bipush 15, 2) := by decide +kernel
theorem d_PM_keep_61 : decode b_PM_keep 61 = .ok (.iaload, 1) := by decide +kernel
theorem d_PM_keep_62 : decode b_PM_keep 62 = .ok (.ireturn, 1) := by decide +kernel
theorem d_PM_layCleaning_0 : decode b_PM_layCleaning 0 = .ok (.iload_n 1, 1) := by decide +kernel
theorem d_PM_layCleaning_1 : decode b_PM_layCleaning 1 = .ok (.i2l, 1) := by decide +kernel
theorem d_PM_layCleaning_2 : decode b_PM_layCleaning 2 = .ok (.lconst 0, 1) := by decide +kernel
theorem d_PM_layCleaning_3 : decode b_PM_layCleaning 3 = .ok (.ldc2_w 148, 3) := by decide +kernel
theorem d_PM_layCleaning_6 : decode b_PM_layCleaning 6 = .ok (.invokestatic 66, 3) := by decide +kernel
theorem d_PM_layCleaning_9 : decode b_PM_layCleaning 9 = .ok (.ifCond .ne 5, 3) := by decide +kernel
theorem d_PM_layCleaning_12 : decode b_PM_layCleaning 12 = .ok (.iconst 0, 1) := by decide +kernel
theorem d_PM_layCleaning_13 : decode b_PM_layCleaning 13 = .ok (.ireturn, 1) := by decide +kernel
theorem d_PM_layCleaning_14 : decode b_PM_layCleaning 14 = .ok (.iconst 1, 1) := by decide +kernel
theorem d_PM_layCleaning_15 : decode b_PM_layCleaning 15 = .ok (.istore_n 2, 1) := by decide +kernel
theorem d_PM_layCleaning_16 : decode b_PM_layCleaning 16 = .ok (.iconst 0, 1) := by decide +kernel
theorem d_PM_layCleaning_17 : decode b_PM_layCleaning 17 = .ok (.istore_n 3, 1) := by decide +kernel
theorem d_PM_layCleaning_18 : decode b_PM_layCleaning 18 = .ok (.iload_n 3, 1) := by decide +kernel
theorem d_PM_layCleaning_19 : decode b_PM_layCleaning 19 = .ok (.iconst 4, 1) := by decide +kernel
theorem d_PM_layCleaning_20 : decode b_PM_layCleaning 20 = .ok (.if_icmp .ge 83, 3) := by decide +kernel
theorem d_PM_layCleaning_23 : decode b_PM_layCleaning 23 = .ok (.iload_n 1, 1) := by decide +kernel
theorem d_PM_layCleaning_24 : decode b_PM_layCleaning 24 = .ok (.bipush 10, 2) := by decide +kernel
theorem d_PM_layCleaning_26 : decode b_PM_layCleaning 26 = .ok (.iconst 3, 1) := by decide +kernel
theorem d_PM_layCleaning_27 : decode b_PM_layCleaning 27 = .ok (.iload_n 3, 1) := by decide +kernel
theorem d_PM_layCleaning_28 : decode b_PM_layCleaning 28 = .ok (.isub, 1) := by decide +kernel
theorem d_PM_layCleaning_29 : decode b_PM_layCleaning 29 = .ok (.invokestatic 150, 3) := by decide +kernel
theorem d_PM_layCleaning_32 : decode b_PM_layCleaning 32 = .ok (.idiv, 1) := by decide +kernel
theorem d_PM_layCleaning_33 : decode b_PM_layCleaning 33 = .ok (.bipush 10, 2) := by decide +kernel
theorem d_PM_layCleaning_35 : decode b_PM_layCleaning 35 = .ok (.irem, 1) := by decide +kernel
theorem d_PM_layCleaning_36 : decode b_PM_layCleaning 36 = .ok (.istore 4, 2) := by decide +kernel
theorem d_PM_layCleaning_38 : decode b_PM_layCleaning 38 = .ok (.iload_n 2, 1) := by decide +kernel
theorem d_PM_layCleaning_39 : decode b_PM_layCleaning 39 = .ok (.ifCond .eq 22, 3) := by decide +kernel
theorem d_PM_layCleaning_42 : decode b_PM_layCleaning 42 = .ok (.iload 4, 2) := by decide +kernel
theorem d_PM_layCleaning_44 : decode b_PM_layCleaning 44 = .ok (.aload_n 0, 1) := by decide +kernel
theorem d_PM_layCleaning_45 : decode b_PM_layCleaning 45 = .ok (.getfield 25, 3) := by decide +kernel
theorem d_PM_layCleaning_48 : decode b_PM_layCleaning 48 = .ok (.iconst 0, 1) := by decide +kernel
theorem d_PM_layCleaning_49 : decode b_PM_layCleaning 49 = .ok (.iload_n 3, 1) := by decide +kernel
theorem d_PM_layCleaning_50 : decode b_PM_layCleaning 50 = .ok (.iadd, 1) := by decide +kernel
theorem d_PM_layCleaning_51 : decode b_PM_layCleaning 51 = .ok (.iaload, 1) := by decide +kernel
theorem d_PM_layCleaning_52 : decode b_PM_layCleaning 52 = .ok (.iadd, 1) := by decide +kernel
theorem d_PM_layCleaning_53 : decode b_PM_layCleaning 53 = .ok (.iconst 3, 1) := by decide +kernel
theorem d_PM_layCleaning_54 : decode b_PM_layCleaning 54 = .ok (.if_icmp .ge 7, 3) := by decide +kernel
theorem d_PM_layCleaning_57 : decode b_PM_layCleaning 57 = .ok (.iconst 1, 1) := by decide +kernel
theorem d_PM_layCleaning_58 : decode b_PM_layCleaning 58 = .ok (.goto 4, 3) := by decide +kernel
theorem d_PM_layCleaning_61 : decode b_PM_layCleaning 61 = .ok (.iconst 0, 1) := by decide +kernel
theorem d_PM_layCleaning_62 : decode b_PM_layCleaning 62 = .ok (.istore_n 2, 1) := by decide +kernel
theorem d_PM_layCleaning_63 : decode b_PM_layCleaning 63 = .ok (.aload_n 0, 1) := by decide +kernel
theorem d_PM_layCleaning_64 : decode b_PM_layCleaning 64 = .ok (.getfield 56, 3) := by decide +kernel
theorem d_PM_layCleaning_67 : decode b_PM_layCleaning 67 = .ok (.iload_n 3, 1) := by decide +kernel
theorem d_PM_layCleaning_68 : decode b_PM_layCleaning 68 = .ok (.iload_n 2, 1) := by decide +kernel
theorem d_PM_layCleaning_69 : decode b_PM_layCleaning 69 = .ok (.ifCond .eq 26, 3) := by decide +kernel
theorem d_PM_layCleaning_72 : decode b_PM_layCleaning 72 = .ok (.aload_n 0, 1) := by decide +kernel
theorem d_PM_layCleaning_73 : decode b_PM_layCleaning 73 = .ok (.getfield 13, 3) := by decide +kernel
theorem d_PM_layCleaning_76 : decode b_PM_layCleaning 76 = .ok (.iconst 3, 1) := by decide +kernel
theorem d_PM_layCleaning_77 : decode b_PM_layCleaning 77 = .ok (.iload_n 3, 1) := by decide +kernel
theorem d_PM_layCleaning_78 : decode b_PM_layCleaning 78 = .ok (.imul, 1) := by decide +kernel
theorem d_PM_layCleaning_79 : decode b_PM_layCleaning 79 = .ok (.aload_n 0, 1) := by decide +kernel
theorem d_PM_layCleaning_80 : decode b_PM_layCleaning 80 = .ok (.getfield 25, 3) := by decide +kernel
theorem d_PM_layCleaning_83 : decode b_PM_layCleaning 83 = .ok (.iconst 0, 1) := by decide +kernel
theorem d_PM_layCleaning_84 : decode b_PM_layCleaning 84 = .ok (.iload_n 3, 1) := by decide +kernel
theorem d_PM_layCleaning_85 : decode b_PM_layCleaning 85 = .ok (.iadd, 1) := by decide +kernel
theorem d_PM_layCleaning_86 : decode b_PM_layCleaning 86 = .ok (.iaload, 1) := by decide +kernel
theorem d_PM_layCleaning_87 : decode b_PM_layCleaning 87 = .ok (.iadd, 1) := by decide +kernel
theorem d_PM_layCleaning_88 : decode b_PM_layCleaning 88 = .ok (.iload 4, 2) := by decide +kernel
theorem d_PM_layCleaning_90 : decode b_PM_layCleaning 90 = .ok (.iadd, 1) := by decide +kernel
theorem d_PM_layCleaning_91 : decode b_PM_layCleaning 91 = .ok (.iaload, 1) := by decide +kernel
theorem d_PM_layCleaning_92 : decode b_PM_layCleaning 92 = .ok (.goto 4, 3) := by decide +kernel
theorem d_PM_layCleaning_95 : decode b_PM_layCleaning 95 = .ok (.iconst 0, 1) := by decide +kernel
theorem d_PM_layCleaning_96 : decode b_PM_layCleaning 96 = .ok (.iastore, 1) := by decide +kernel
theorem d_PM_layCleaning_97 : decode b_PM_layCleaning 97 = .ok (.iinc 3 1, 3) := by decide +kernel
theorem d_PM_layCleaning_100 : decode b_PM_layCleaning 100 = .ok (.goto (-82), 3) := by decide +kernel
theorem d_PM_layCleaning_103 : decode b_PM_layCleaning 103 = .ok (.iload_n 2, 1) := by decide +kernel
theorem d_PM_layCleaning_104 : decode b_PM_layCleaning 104 = .ok (.ireturn, 1) := by decide +kernel
theorem d_PM_layShown_0 : decode b_PM_layShown 0 = .ok (.iconst 0, 1) := by decide +kernel
theorem d_PM_layShown_1 : decode b_PM_layShown 1 = .ok (.istore_n 2, 1) := by decide +kernel
theorem d_PM_layShown_2 : decode b_PM_layShown 2 = .ok (.iload_n 2, 1) := by decide +kernel
theorem d_PM_layShown_3 : decode b_PM_layShown 3 = .ok (.iconst 4, 1) := by decide +kernel
theorem d_PM_layShown_4 : decode b_PM_layShown 4 = .ok (.if_icmp .ge 29, 3) := by decide +kernel
theorem d_PM_layShown_7 : decode b_PM_layShown 7 = .ok (.aload_n 0, 1) := by decide +kernel
theorem d_PM_layShown_8 : decode b_PM_layShown 8 = .ok (.getfield 56, 3) := by decide +kernel
theorem d_PM_layShown_11 : decode b_PM_layShown 11 = .ok (.iload_n 2, 1) := by decide +kernel
theorem d_PM_layShown_12 : decode b_PM_layShown 12 = .ok (.aload_n 0, 1) := by decide +kernel
theorem d_PM_layShown_13 : decode b_PM_layShown 13 = .ok (.getfield 13, 3) := by decide +kernel
theorem d_PM_layShown_16 : decode b_PM_layShown 16 = .ok (.iconst 3, 1) := by decide +kernel
theorem d_PM_layShown_17 : decode b_PM_layShown 17 = .ok (.iload_n 2, 1) := by decide +kernel
theorem d_PM_layShown_18 : decode b_PM_layShown 18 = .ok (.imul, 1) := by decide +kernel
theorem d_PM_layShown_19 : decode b_PM_layShown 19 = .ok (.aload_n 1, 1) := by decide +kernel
theorem d_PM_layShown_20 : decode b_PM_layShown 20 = .ok (.iconst 0, 1) := by decide +kernel
theorem d_PM_layShown_21 : decode b_PM_layShown 21 = .ok (.iload_n 2, 1) := by decide +kernel
theorem d_PM_layShown_22 : decode b_PM_layShown 22 = .ok (.iadd, 1) := by decide +kernel
theorem d_PM_layShown_23 : decode b_PM_layShown 23 = .ok (.iaload, 1) := by decide +kernel
theorem d_PM_layShown_24 : decode b_PM_layShown 24 = .ok (.iadd, 1) := by decide +kernel
theorem d_PM_layShown_25 : decode b_PM_layShown 25 = .ok (.iaload, 1) := by decide +kernel
theorem d_PM_layShown_26 : decode b_PM_layShown 26 = .ok (.iastore, 1) := by decide +kernel
theorem d_PM_layShown_27 : decode b_PM_layShown 27 = .ok (.iinc 2 1, 3) := by decide +kernel
theorem d_PM_layShown_30 : decode b_PM_layShown 30 = .ok (.goto (-28), 3) := by decide +kernel
theorem d_PM_layShown_33 : decode b_PM_layShown 33 = .ok (.return_, 1) := by decide +kernel
theorem d_PM_layersOf_0 : decode b_PM_layersOf 0 = .ok (.iload_n 0, 1) := by decide +kernel
theorem d_PM_layersOf_1 : decode b_PM_layersOf 1 = .ok (.bipush 27, 2) := by decide +kernel
theorem d_PM_layersOf_3 : decode b_PM_layersOf 3 = .ok (.idiv, 1) := by decide +kernel
theorem d_PM_layersOf_4 : decode b_PM_layersOf 4 = .ok (.iload_n 0, 1) := by decide +kernel
theorem d_PM_layersOf_5 : decode b_PM_layersOf 5 = .ok (.bipush 9, 2) := by decide +kernel
theorem d_PM_layersOf_7 : decode b_PM_layersOf 7 = .ok (.idiv, 1) := by decide +kernel
theorem d_PM_layersOf_8 : decode b_PM_layersOf 8 = .ok (.iconst 3, 1) := by decide +kernel
theorem d_PM_layersOf_9 : decode b_PM_layersOf 9 = .ok (.irem, 1) := by decide +kernel
theorem d_PM_layersOf_10 : decode b_PM_layersOf 10 = .ok (.iadd, 1) := by decide +kernel
theorem d_PM_layersOf_11 : decode b_PM_layersOf 11 = .ok (.iload_n 0, 1) := by decide +kernel
theorem d_PM_layersOf_12 : decode b_PM_layersOf 12 = .ok (.iconst 3, 1) := by decide +kernel
theorem d_PM_layersOf_13 : decode b_PM_layersOf 13 = .ok (.idiv, 1) := by decide +kernel
theorem d_PM_layersOf_14 : decode b_PM_layersOf 14 = .ok (.iconst 3, 1) := by decide +kernel
theorem d_PM_layersOf_15 : decode b_PM_layersOf 15 = .ok (.irem, 1) := by decide +kernel
theorem d_PM_layersOf_16 : decode b_PM_layersOf 16 = .ok (.iadd, 1) := by decide +kernel
theorem d_PM_layersOf_17 : decode b_PM_layersOf 17 = .ok (.iload_n 0, 1) := by decide +kernel
theorem d_PM_layersOf_18 : decode b_PM_layersOf 18 = .ok (.iconst 3, 1) := by decide +kernel
theorem d_PM_layersOf_19 : decode b_PM_layersOf 19 = .ok (.irem, 1) := by decide +kernel
theorem d_PM_layersOf_20 : decode b_PM_layersOf 20 = .ok (.iadd, 1) := by decide +kernel
theorem d_PM_layersOf_21 : decode b_PM_layersOf 21 = .ok (.ireturn, 1) := by decide +kernel
theorem d_PM_longest_0 : decode b_PM_longest 0 = .ok (.aload_n 0, 1) := by decide +kernel
theorem d_PM_longest_1 : decode b_PM_longest 1 = .ok (.iconst 0, 1) := by decide +kernel
theorem d_PM_longest_2 : decode b_PM_longest 2 = .ok (.putfield 59, 3) := by decide +kernel
theorem d_PM_longest_5 : decode b_PM_longest 5 = .ok (.iload_n 1, 1) := by decide +kernel
theorem d_PM_longest_6 : decode b_PM_longest 6 = .ok (.i2l, 1) := by decide +kernel
theorem d_PM_longest_7 : decode b_PM_longest 7 = .ok (.lconst 0, 1) := by decide +kernel
theorem d_PM_longest_8 : decode b_PM_longest 8 = .ok (.ldc2_w 184, 3) := by decide +kernel
theorem d_PM_longest_11 : decode b_PM_longest 11 = .ok (.invokestatic 66, 3) := by decide +kernel
theorem d_PM_longest_14 : decode b_PM_longest 14 = .ok (.ifCond .ne 6, 3) := by decide +kernel
theorem d_PM_longest_17 : decode b_PM_longest 17 = .ok (.bipush (-2), 2) := by decide +kernel
theorem d_PM_longest_19 : decode b_PM_longest 19 = .ok (.ireturn, 1) := by decide +kernel
theorem d_PM_longest_20 : decode b_PM_longest 20 = .ok (.aload_n 0, 1) := by decide +kernel
theorem d_PM_longest_21 : decode b_PM_longest 21 = .ok (.invokevirtual 181, 3) := by decide +kernel
theorem d_PM_longest_24 : decode b_PM_longest 24 = .ok (.aload_n 0, 1) := by decide +kernel
theorem d_PM_longest_25 : decode b_PM_longest 25 = .ok (.getfield 28, 3) := by decide +kernel
theorem d_PM_longest_28 : decode b_PM_longest 28 = .ok (.iconst 4, 1) := by decide +kernel
theorem d_PM_longest_29 : decode b_PM_longest 29 = .ok (.iaload, 1) := by decide +kernel
theorem d_PM_longest_30 : decode b_PM_longest 30 = .ok (.istore_n 2, 1) := by decide +kernel
theorem d_PM_longest_31 : decode b_PM_longest 31 = .ok (.iconst 0, 1) := by decide +kernel
theorem d_PM_longest_32 : decode b_PM_longest 32 = .ok (.istore_n 3, 1) := by decide +kernel
theorem d_PM_longest_33 : decode b_PM_longest 33 = .ok (.iload_n 3, 1) := by decide +kernel
theorem d_PM_longest_34 : decode b_PM_longest 34 = .ok (.iload_n 1, 1) := by decide +kernel
theorem d_PM_longest_35 : decode b_PM_longest 35 = .ok (.if_icmp .ge 38, 3) := by decide +kernel
theorem d_PM_longest_38 : decode b_PM_longest 38 = .ok (.aload_n 0, 1) := by decide +kernel
theorem d_PM_longest_39 : decode b_PM_longest 39 = .ok (.aload_n 0, 1) := by decide +kernel
theorem d_PM_longest_40 : decode b_PM_longest 40 = .ok (.getfield 28, 3) := by decide +kernel
theorem d_PM_longest_43 : decode b_PM_longest 43 = .ok (.invokevirtual 145, 3) := by decide +kernel
theorem d_PM_longest_46 : decode b_PM_longest 46 = .ok (.aload_n 0, 1) := by decide +kernel
theorem d_PM_longest_47 : decode b_PM_longest 47 = .ok (.getfield 28, 3) := by decide +kernel
theorem d_PM_longest_50 : decode b_PM_longest 50 = .ok (.iconst 4, 1) := by decide +kernel
theorem d_PM_longest_51 : decode b_PM_longest 51 = .ok (.iaload, 1) := by decide +kernel
theorem d_PM_longest_52 : decode b_PM_longest 52 = .ok (.iload_n 2, 1) := by decide +kernel
theorem d_PM_longest_53 : decode b_PM_longest 53 = .ok (.if_icmp .le 12, 3) := by decide +kernel
theorem d_PM_longest_56 : decode b_PM_longest 56 = .ok (.aload_n 0, 1) := by decide +kernel
theorem d_PM_longest_57 : decode b_PM_longest 57 = .ok (.getfield 28, 3) := by decide +kernel
theorem d_PM_longest_60 : decode b_PM_longest 60 = .ok (.iconst 4, 1) := by decide +kernel
theorem d_PM_longest_61 : decode b_PM_longest 61 = .ok (.iaload, 1) := by decide +kernel
theorem d_PM_longest_62 : decode b_PM_longest 62 = .ok (.goto 4, 3) := by decide +kernel
theorem d_PM_longest_65 : decode b_PM_longest 65 = .ok (.iload_n 2, 1) := by decide +kernel
theorem d_PM_longest_66 : decode b_PM_longest 66 = .ok (.istore_n 2, 1) := by decide +kernel
theorem d_PM_longest_67 : decode b_PM_longest 67 = .ok (.iinc 3 1, 3) := by decide +kernel
theorem d_PM_longest_70 : decode b_PM_longest 70 = .ok (.goto (-37), 3) := by decide +kernel
theorem d_PM_longest_73 : decode b_PM_longest 73 = .ok (.iload_n 2, 1) := by decide +kernel
theorem d_PM_longest_74 : decode b_PM_longest 74 = .ok (.ireturn, 1) := by decide +kernel

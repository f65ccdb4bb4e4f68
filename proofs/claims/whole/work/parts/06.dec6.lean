theorem d_PM_many_0 : decode b_PM_many 0 = .ok (.iconst 0, 1) := by decide +kernel
theorem d_PM_many_1 : decode b_PM_many 1 = .ok (.istore_n 1, 1) := by decide +kernel
theorem d_PM_many_2 : decode b_PM_many 2 = .ok (.iconst 0, 1) := by decide +kernel
theorem d_PM_many_3 : decode b_PM_many 3 = .ok (.istore_n 2, 1) := by decide +kernel
theorem d_PM_many_4 : decode b_PM_many 4 = .ok (.iload_n 2, 1) := by decide +kernel
theorem d_PM_many_5 : decode b_PM_many 5 = .ok (.iconst 5, 1) := by decide +kernel
theorem d_PM_many_6 : decode b_PM_many 6 = .ok (.if_icmp .ge 17, 3) := by decide +kernel
theorem d_PM_many_9 : decode b_PM_many 9 = .ok (.iload_n 1, 1) := by decide +kernel
theorem d_PM_many_10 : decode b_PM_many 10 = .ok (.iload_n 0, 1) := by decide +kernel
theorem d_PM_many_11 : decode b_PM_many 11 = .ok (.iload_n 2, 1) := by decide +kernel
theorem d_PM_many_12 : decode b_PM_many 12 = .ok (.ishr, 1) := by decide +kernel
theorem d_PM_many_13 : decode b_PM_many 13 = .ok (.iconst 1, 1) := by decide +kernel
theorem d_PM_many_14 : decode b_PM_many 14 = .ok (.iand, 1) := by decide +kernel
theorem d_PM_many_15 : decode b_PM_many 15 = .ok (.iadd, 1) := by decide +kernel
theorem d_PM_many_16 : decode b_PM_many 16 = .ok (.istore_n 1, 1) := by decide +kernel
theorem d_PM_many_17 : decode b_PM_many 17 = .ok (.iinc 2 1, 3) := by decide +kernel
theorem d_PM_many_20 : decode b_PM_many 20 = .ok (.goto (-16), 3) := by decide +kernel
theorem d_PM_many_23 : decode b_PM_many 23 = .ok (.iload_n 1, 1) := by decide +kernel
theorem d_PM_many_24 : decode b_PM_many 24 = .ok (.ireturn, 1) := by decide +kernel
theorem d_PM_night_0 : decode b_PM_night 0 = .ok (.aload_n 0, 1) := by decide +kernel
theorem d_PM_night_1 : decode b_PM_night 1 = .ok (.iconst 0, 1) := by decide +kernel
theorem d_PM_night_2 : decode b_PM_night 2 = .ok (.putfield 59, 3) := by decide +kernel
theorem d_PM_night_5 : decode b_PM_night 5 = .ok (.aload_n 0, 1) := by decide +kernel
theorem d_PM_night_6 : decode b_PM_night 6 = .ok (.invokevirtual 142, 3) := by decide +kernel
theorem d_PM_night_9 : decode b_PM_night 9 = .ok (.aload_n 0, 1) := by decide +kernel
theorem d_PM_night_10 : decode b_PM_night 10 = .ok (.aload_n 0, 1) := by decide +kernel
theorem d_PM_night_11 : decode b_PM_night 11 = .ok (.getfield 25, 3) := by decide +kernel
theorem d_PM_night_14 : decode b_PM_night 14 = .ok (.invokevirtual 145, 3) := by decide +kernel
theorem d_PM_night_17 : decode b_PM_night 17 = .ok (.aload_n 0, 1) := by decide +kernel
theorem d_PM_night_18 : decode b_PM_night 18 = .ok (.getfield 25, 3) := by decide +kernel
theorem d_PM_night_21 : decode b_PM_night 21 = .ok (.iconst 4, 1) := by decide +kernel
theorem d_PM_night_22 : decode b_PM_night 22 = .ok (.iaload, 1) := by decide +kernel
theorem d_PM_night_23 : decode b_PM_night 23 = .ok (.ireturn, 1) := by decide +kernel
theorem d_PM_noCabman_0 : decode b_PM_noCabman 0 = .ok (.iload_n 1, 1) := by decide +kernel
theorem d_PM_noCabman_1 : decode b_PM_noCabman 1 = .ok (.i2l, 1) := by decide +kernel
theorem d_PM_noCabman_2 : decode b_PM_noCabman 2 = .ok (.lconst 0, 1) := by decide +kernel
theorem d_PM_noCabman_3 : decode b_PM_noCabman 3 = .ok (.aload_n 0, 1) := by decide +kernel
theorem d_PM_noCabman_4 : decode b_PM_noCabman 4 = .ok (.getfield 63, 3) := by decide +kernel
theorem d_PM_noCabman_7 : decode b_PM_noCabman 7 = .ok (.iconst 1, 1) := by decide +kernel
theorem d_PM_noCabman_8 : decode b_PM_noCabman 8 = .ok (.isub, 1) := by decide +kernel
theorem d_PM_noCabman_9 : decode b_PM_noCabman 9 = .ok (.i2l, 1) := by decide +kernel
theorem d_PM_noCabman_10 : decode b_PM_noCabman 10 = .ok (.invokestatic 66, 3) := by decide +kernel
theorem d_PM_noCabman_13 : decode b_PM_noCabman 13 = .ok (.ifCond .ne 7, 3) := by decide +kernel
theorem d_PM_noCabman_16 : decode b_PM_noCabman 16 = .ok (.iconst 1, 1) := by decide +kernel
theorem d_PM_noCabman_17 : decode b_PM_noCabman 17 = .ok (.goto 4, 3) := by decide +kernel
theorem d_PM_noCabman_20 : decode b_PM_noCabman 20 = .ok (.iconst 0, 1) := by decide +kernel
theorem d_PM_noCabman_21 : decode b_PM_noCabman 21 = .ok (.ireturn, 1) := by decide +kernel
theorem d_PM_noFinger_0 : decode b_PM_noFinger 0 = .ok (.iload_n 0, 1) := by decide +kernel
theorem d_PM_noFinger_1 : decode b_PM_noFinger 1 = .ok (.i2l, 1) := by decide +kernel
theorem d_PM_noFinger_2 : decode b_PM_noFinger 2 = .ok (.lconst 0, 1) := by decide +kernel
theorem d_PM_noFinger_3 : decode b_PM_noFinger 3 = .ok (.ldc2_w 70, 3) := by decide +kernel
theorem d_PM_noFinger_6 : decode b_PM_noFinger 6 = .ok (.invokestatic 66, 3) := by decide +kernel
theorem d_PM_noFinger_9 : decode b_PM_noFinger 9 = .ok (.ifCond .ne 7, 3) := by decide +kernel
theorem d_PM_noFinger_12 : decode b_PM_noFinger 12 = .ok (.iconst 1, 1) := by decide +kernel
theorem d_PM_noFinger_13 : decode b_PM_noFinger 13 = .ok (.goto 4, 3) := by decide +kernel
theorem d_PM_noFinger_16 : decode b_PM_noFinger 16 = .ok (.iconst 0, 1) := by decide +kernel
theorem d_PM_noFinger_17 : decode b_PM_noFinger 17 = .ok (.ireturn, 1) := by decide +kernel
theorem d_PM_note_0 : decode b_PM_note 0 = .ok (.aload_n 0, 1) := by decide +kernel
theorem d_PM_note_1 : decode b_PM_note 1 = .ok (.getfield 102, 3) := by decide +kernel
theorem d_PM_note_4 : decode b_PM_note 4 = .ok (.bipush 14, 2) := by decide +kernel
theorem d_PM_note_6 : decode b_PM_note 6 = .ok (.if_icmp .ne 43, 3) := by decide +kernel
theorem d_PM_note_9 : decode b_PM_note 9 = .ok (.iconst 0, 1) := by decide +kernel
theorem d_PM_note_10 : decode b_PM_note 10 = .ok (.istore_n 1, 1) := by decide +kernel
theorem d_PM_note_11 : decode b_PM_note 11 = .ok (.iload_n 1, 1) := by decide +kernel
theorem d_PM_note_12 : decode b_PM_note 12 = .ok (.sipush 208, 3) := by decide +kernel
theorem d_PM_note_15 : decode b_PM_note 15 = .ok (.if_icmp .ge 24, 3) := by decide +kernel
theorem d_PM_note_18 : decode b_PM_note 18 = .ok (.aload_n 0, 1) := by decide +kernel
theorem d_PM_note_19 : decode b_PM_note 19 = .ok (.getfield 31, 3) := by decide +kernel
theorem d_PM_note_22 : decode b_PM_note 22 = .ok (.iload_n 1, 1) := by decide +kernel
theorem d_PM_note_23 : decode b_PM_note 23 = .ok (.aload_n 0, 1) := by decide +kernel
theorem d_PM_note_24 : decode b_PM_note 24 = .ok (.getfield 31, 3) := by decide +kernel
theorem d_PM_note_27 : decode b_PM_note 27 = .ok (.iload_n 1, 1) := by decide +kernel
theorem d_PM_note_28 : decode b_PM_note 28 = .ok (.bipush 16, 2) := by decide +kernel
theorem d_PM_note_30 : decode b_PM_note 30 = .ok (.iadd, 1) := by decide +kernel
theorem d_PM_note_31 : decode b_PM_note 31 = .ok (.iaload, 1) := by decide +kernel
theorem d_PM_note_32 : decode b_PM_note 32 = .ok (.iastore, 1) := by decide +kernel
theorem d_PM_note_33 : decode b_PM_note 33 = .ok (.iinc 1 1, 3) := by decide +kernel
theorem d_PM_note_36 : decode b_PM_note 36 = .ok (.goto (-25), 3) := by decide +kernel
theorem d_PM_note_39 : decode b_PM_note 39 = .ok (.aload_n 0, 1) := by decide +kernel
theorem d_PM_note_40 : decode b_PM_note 40 = .ok (.dup, 1) := by decide +kernel
theorem d_PM_note_41 : decode b_PM_note 41 = .ok (.getfield 102, 3) := by decide +kernel
theorem d_PM_note_44 : decode b_PM_note 44 = .ok (.iconst 1, 1) := by decide +kernel
theorem d_PM_note_45 : decode b_PM_note 45 = .ok (.isub, 1) := by decide +kernel
theorem d_PM_note_46 : decode b_PM_note 46 = .ok (.putfield 102, 3) := by decide +kernel
theorem d_PM_note_49 : decode b_PM_note 49 = .ok (.iconst 0, 1) := by decide +kernel
theorem d_PM_note_50 : decode b_PM_note 50 = .ok (.istore_n 1, 1) := by decide +kernel
theorem d_PM_note_51 : decode b_PM_note 51 = .ok (.iload_n 1, 1) := by decide +kernel
theorem d_PM_note_52 : decode b_PM_note 52 = .ok (.bipush 16, 2) := by decide +kernel
theorem d_PM_note_54 : decode b_PM_note 54 = .ok (.if_icmp .ge 29, 3) := by decide +kernel
theorem d_PM_note_57 : decode b_PM_note 57 = .ok (.aload_n 0, 1) := by decide +kernel
theorem d_PM_note_58 : decode b_PM_note 58 = .ok (.getfield 31, 3) := by decide +kernel
theorem d_PM_note_61 : decode b_PM_note 61 = .ok (.bipush 16, 2) := by decide +kernel
theorem d_PM_note_63 : decode b_PM_note 63 = .ok (.aload_n 0, 1) := by decide +kernel
theorem d_PM_note_64 : decode b_PM_note 64 = .ok (.getfield 102, 3) := by decide +kernel
theorem d_PM_note_67 : decode b_PM_note 67 = .ok (.imul, 1) := by decide +kernel
theorem d_PM_note_68 : decode b_PM_note 68 = .ok (.iload_n 1, 1) := by decide +kernel
theorem d_PM_note_69 : decode b_PM_note 69 = .ok (.iadd, 1) := by decide +kernel
theorem d_PM_note_70 : decode b_PM_note 70 = .ok (.aload_n 0, 1) := by decide +kernel
theorem d_PM_note_71 : decode b_PM_note 71 = .ok (.getfield 25, 3) := by decide +kernel
theorem d_PM_note_74 : decode b_PM_note 74 = .ok (.iload_n 1, 1) := by decide +kernel
theorem d_PM_note_75 : decode b_PM_note 75 = .ok (.iaload, 1) := by decide +kernel
theorem d_PM_note_76 : decode b_PM_note 76 = .ok (.iastore, 1) := by decide +kernel
theorem d_PM_note_77 : decode b_PM_note 77 = .ok (.iinc 1 1, 3) := by decide +kernel
theorem d_PM_note_80 : decode b_PM_note 80 = .ok (.goto (-29), 3) := by decide +kernel
theorem d_PM_note_83 : decode b_PM_note 83 = .ok (.aload_n 0, 1) := by decide +kernel
theorem d_PM_note_84 : decode b_PM_note 84 = .ok (.dup, 1) := by decide +kernel
theorem d_PM_note_85 : decode b_PM_note 85 = .ok (.getfield 102, 3) := by decide +kernel
theorem d_PM_note_88 : decode b_PM_note 88 = .ok (.iconst 1, 1) := by decide +kernel
theorem d_PM_note_89 : decode b_PM_note 89 = .ok (.iadd, 1) := by decide +kernel
theorem d_PM_note_90 : decode b_PM_note 90 = .ok (.putfield 102, 3) := by decide +kernel
theorem d_PM_note_93 : decode b_PM_note 93 = .ok (.return_, 1) := by decide +kernel
theorem d_PM_paint_0 : decode b_PM_paint 0 = .ok (.aload_n 0, 1) := by decide +kernel
theorem d_PM_paint_1 : decode b_PM_paint 1 = .ok (.iconst 0, 1) := by decide +kernel
theorem d_PM_paint_2 : decode b_PM_paint 2 = .ok (.putfield 59, 3) := by decide +kernel
theorem d_PM_paint_5 : decode b_PM_paint 5 = .ok (.iload_n 1, 1) := by decide +kernel
theorem d_PM_paint_6 : decode b_PM_paint 6 = .ok (.invokestatic 127, 3) := by decide +kernel
theorem d_PM_paint_9 : decode b_PM_paint 9 = .ok (.ifCond .eq 5, 3) := by decide +kernel
theorem d_PM_paint_12 : decode b_PM_paint 12 = .ok (.iconst (-1), 1) := by decide +kernel
theorem d_PM_paint_13 : decode b_PM_paint 13 = .ok (.ireturn, 1) := by decide +kernel
theorem d_PM_paint_14 : decode b_PM_paint 14 = .ok (.aload_n 0, 1) := by decide +kernel
theorem d_PM_paint_15 : decode b_PM_paint 15 = .ok (.getfield 25, 3) := by decide +kernel
theorem d_PM_paint_18 : decode b_PM_paint 18 = .ok (.iconst 0, 1) := by decide +kernel
theorem d_PM_paint_19 : decode b_PM_paint 19 = .ok (.iload_n 1, 1) := by decide +kernel
theorem d_PM_paint_20 : decode b_PM_paint 20 = .ok (.iadd, 1) := by decide +kernel
theorem d_PM_paint_21 : decode b_PM_paint 21 = .ok (.iaload, 1) := by decide +kernel
theorem d_PM_paint_22 : decode b_PM_paint 22 = .ok (.ifCond .ne 6, 3) := by decide +kernel
theorem d_PM_paint_25 : decode b_PM_paint 25 = .ok (.bipush (-3), 2) := by decide +kernel
theorem d_PM_paint_27 : decode b_PM_paint 27 = .ok (.ireturn, 1) := by decide +kernel
theorem d_PM_paint_28 : decode b_PM_paint 28 = .ok (.aload_n 0, 1) := by decide +kernel
theorem d_PM_paint_29 : decode b_PM_paint 29 = .ok (.invokevirtual 142, 3) := by decide +kernel
theorem d_PM_paint_32 : decode b_PM_paint 32 = .ok (.aload_n 0, 1) := by decide +kernel
theorem d_PM_paint_33 : decode b_PM_paint 33 = .ok (.getfield 25, 3) := by decide +kernel
theorem d_PM_paint_36 : decode b_PM_paint 36 = .ok (.iconst 0, 1) := by decide +kernel
theorem d_PM_paint_37 : decode b_PM_paint 37 = .ok (.iload_n 1, 1) := by decide +kernel
theorem d_PM_paint_38 : decode b_PM_paint 38 = .ok (.iadd, 1) := by decide +kernel
theorem d_PM_paint_39 : decode b_PM_paint 39 = .ok (.dup2, 1) := by decide +kernel
theorem d_PM_paint_40 : decode b_PM_paint 40 = .ok (.iaload, 1) := by decide +kernel
theorem d_PM_paint_41 : decode b_PM_paint 41 = .ok (.iconst 1, 1) := by decide +kernel
theorem d_PM_paint_42 : decode b_PM_paint 42 = .ok (.isub, 1) := by decide +kernel
theorem d_PM_paint_43 : decode b_PM_paint 43 = .ok (.iastore, 1) := by decide +kernel
theorem d_PM_paint_44 : decode b_PM_paint 44 = .ok (.aload_n 0, 1) := by decide +kernel
theorem d_PM_paint_45 : decode b_PM_paint 45 = .ok (.getfield 13, 3) := by decide +kernel
theorem d_PM_paint_48 : decode b_PM_paint 48 = .ok (.iconst 3, 1) := by decide +kernel
theorem d_PM_paint_49 : decode b_PM_paint 49 = .ok (.iload_n 1, 1) := by decide +kernel
theorem d_PM_paint_50 : decode b_PM_paint 50 = .ok (.imul, 1) := by decide +kernel
theorem d_PM_paint_51 : decode b_PM_paint 51 = .ok (.aload_n 0, 1) := by decide +kernel
theorem d_PM_paint_52 : decode b_PM_paint 52 = .ok (.getfield 25, 3) := by decide +kernel
theorem d_PM_paint_55 : decode b_PM_paint 55 = .ok (.iconst 0, 1) := by decide +kernel
theorem d_PM_paint_56 : decode b_PM_paint 56 = .ok (.iload_n 1, 1) := by decide +kernel
theorem d_PM_paint_57 : decode b_PM_paint 57 = .ok (.iadd, 1) := by decide +kernel
theorem d_PM_paint_58 : decode b_PM_paint 58 = .ok (.iaload, 1) := by decide +kernel
theorem d_PM_paint_59 : decode b_PM_paint 59 = .ok (.iadd, 1) := by decide +kernel
theorem d_PM_paint_60 : decode b_PM_paint 60 = .ok (.iaload, 1) := by decide +kernel
theorem d_PM_paint_61 : decode b_PM_paint 61 = .ok (.ireturn, 1) := by decide +kernel
theorem d_PM_peace_0 : decode b_PM_peace 0 = .ok (.aload_n 0, 1) := by decide +kernel
theorem d_PM_peace_1 : decode b_PM_peace 1 = .ok (.iconst 0, 1) := by decide +kernel
theorem d_PM_peace_2 : decode b_PM_peace 2 = .ok (.putfield 59, 3) := by decide +kernel
theorem d_PM_peace_5 : decode b_PM_peace 5 = .ok (.iload_n 1, 1) := by decide +kernel
theorem d_PM_peace_6 : decode b_PM_peace 6 = .ok (.i2l, 1) := by decide +kernel
theorem d_PM_peace_7 : decode b_PM_peace 7 = .ok (.lconst 0, 1) := by decide +kernel
theorem d_PM_peace_8 : decode b_PM_peace 8 = .ok (.lconst 1, 1) := by decide +kernel
theorem d_PM_peace_9 : decode b_PM_peace 9 = .ok (.invokestatic 66, 3) := by decide +kernel
theorem d_PM_peace_12 : decode b_PM_peace 12 = .ok (.ifCond .ne 6, 3) := by decide +kernel
theorem d_PM_peace_15 : decode b_PM_peace 15 = .ok (.bipush (-2), 2) := by decide +kernel
theorem d_PM_peace_17 : decode b_PM_peace 17 = .ok (.ireturn, 1) := by decide +kernel
theorem d_PM_peace_18 : decode b_PM_peace 18 = .ok (.aload_n 0, 1) := by decide +kernel
theorem d_PM_peace_19 : decode b_PM_peace 19 = .ok (.bipush (-9), 2) := by decide +kernel
theorem d_PM_peace_21 : decode b_PM_peace 21 = .ok (.invokevirtual 177, 3) := by decide +kernel
theorem d_PM_peace_24 : decode b_PM_peace 24 = .ok (.iload_n 1, 1) := by decide +kernel
theorem d_PM_peace_25 : decode b_PM_peace 25 = .ok (.ifCond .ne 10, 3) := by decide +kernel
theorem d_PM_peace_28 : decode b_PM_peace 28 = .ok (.aload_n 0, 1) := by decide +kernel
theorem d_PM_peace_29 : decode b_PM_peace 29 = .ok (.getfield 171, 3) := by decide +kernel
theorem d_PM_peace_32 : decode b_PM_peace 32 = .ok (.goto 7, 3) := by decide +kernel
theorem d_PM_peace_35 : decode b_PM_peace 35 = .ok (.aload_n 0, 1) := by decide +kernel
theorem d_PM_peace_36 : decode b_PM_peace 36 = .ok (.getfield 168, 3) := by decide +kernel
theorem d_PM_peace_39 : decode b_PM_peace 39 = .ok (.ireturn, 1) := by decide +kernel
theorem d_PM_power_0 : decode b_PM_power 0 = .ok (.iconst 1, 1) := by decide +kernel
theorem d_PM_power_1 : decode b_PM_power 1 = .ok (.istore_n 2, 1) := by decide +kernel
theorem d_PM_power_2 : decode b_PM_power 2 = .ok (.iconst 0, 1) := by decide +kernel
theorem d_PM_power_3 : decode b_PM_power 3 = .ok (.istore_n 3, 1) := by decide +kernel
theorem d_PM_power_4 : decode b_PM_power 4 = .ok (.iload_n 3, 1) := by decide +kernel
theorem d_PM_power_5 : decode b_PM_power 5 = .ok (.iload_n 1, 1) := by decide +kernel
theorem d_PM_power_6 : decode b_PM_power 6 = .ok (.if_icmp .ge 13, 3) := by decide +kernel
theorem d_PM_power_9 : decode b_PM_power 9 = .ok (.iload_n 2, 1) := by decide +kernel
theorem d_PM_power_10 : decode b_PM_power 10 = .ok (.iload_n 0, 1) := by decide +kernel
theorem d_PM_power_11 : decode b_PM_power 11 = .ok (.imul, 1) := by decide +kernel
theorem d_PM_power_12 : decode b_PM_power 12 = .ok (.istore_n 2, 1) := by decide +kernel
theorem d_PM_power_13 : decode b_PM_power 13 = .ok (.iinc 3 1, 3) := by decide +kernel
theorem d_PM_power_16 : decode b_PM_power 16 = .ok (.goto (-12), 3) := by decide +kernel
theorem d_PM_power_19 : decode b_PM_power 19 = .ok (.iload_n 2, 1) := by decide +kernel
theorem d_PM_power_20 : decode b_PM_power 20 = .ok (.ireturn, 1) := by decide +kernel
theorem d_PM_readHall_0 : decode b_PM_readHall 0 = .ok (.aload_n 0, 1) := by decide +kernel
theorem d_PM_readHall_1 : decode b_PM_readHall 1 = .ok (.iconst 0, 1) := by decide +kernel
theorem d_PM_readHall_2 : decode b_PM_readHall 2 = .ok (.putfield 77, 3) := by decide +kernel
theorem d_PM_readHall_5 : decode b_PM_readHall 5 = .ok (.aload_n 0, 1) := by decide +kernel
theorem d_PM_readHall_6 : decode b_PM_readHall 6 = .ok (.iconst 0, 1) := by decide +kernel
theorem d_PM_readHall_7 : decode b_PM_readHall 7 = .ok (.putfield 84, 3) := by decide +kernel
theorem d_PM_readHall_10 : decode b_PM_readHall 10 = .ok (.aload_n 0, 1) := by decide +kernel
theorem d_PM_readHall_11 : decode b_PM_readHall 11 = .ok (.getfield 74, 3) := by decide +kernel
theorem d_PM_readHall_14 : decode b_PM_readHall 14 = .ok (.ifCond .eq 14, 3) := by decide +kernel
theorem d_PM_readHall_17 : decode b_PM_readHall 17 = .ok (.aload_n 0, 1) := by decide +kernel
theorem d_PM_readHall_18 : decode b_PM_readHall 18 = .ok (.getfield 7, 3) := by decide +kernel
theorem d_PM_readHall_21 : decode b_PM_readHall 21 = .ok (.iconst 0, 1) := by decide +kernel
theorem d_PM_readHall_22 : decode b_PM_readHall 22 = .ok (.iaload, 1) := by decide +kernel
theorem d_PM_readHall_23 : decode b_PM_readHall 23 = .ok (.bipush 80, 2) := by decide +kernel
theorem d_PM_readHall_25 : decode b_PM_readHall 25 = .ok (.if_icmp .eq 5, 3) := by decide +kernel
theorem d_PM_readHall_28 : decode b_PM_readHall 28 = .ok (.iconst 0, 1) := by decide +kernel
theorem d_PM_readHall_29 : decode b_PM_readHall 29 = .ok (.ireturn, 1) := by decide +kernel
theorem d_PM_readHall_30 : decode b_PM_readHall 30 = .ok (.aload_n 0, 1) := by decide +kernel
theorem d_PM_readHall_31 : decode b_PM_readHall 31 = .ok (.iconst 1, 1) := by decide +kernel
theorem d_PM_readHall_32 : decode b_PM_readHall 32 = .ok (.putfield 77, 3) := by decide +kernel
theorem d_PM_readHall_35 : decode b_PM_readHall 35 = .ok (.aload_n 0, 1) := by decide +kernel
theorem d_PM_readHall_36 : decode b_PM_readHall 36 = .ok (.invokevirtual 87, 3) := by decide +kernel
theorem d_PM_readHall_39 : decode b_PM_readHall 39 = .ok (.ifCond .ne 8, 3) := by decide +kernel
theorem d_PM_readHall_42 : decode b_PM_readHall 42 = .ok (.aload_n 0, 1) := by decide +kernel
theorem d_PM_readHall_43 : decode b_PM_readHall 43 = .ok (.getfield 77, 3) := by decide +kernel
theorem d_PM_readHall_46 : decode b_PM_readHall 46 = .ok (.ireturn, 1) := by decide +kernel
theorem d_PM_readHall_47 : decode b_PM_readHall 47 = .ok (.aload_n 0, 1) := by decide +kernel
theorem d_PM_readHall_48 : decode b_PM_readHall 48 = .ok (.getfield 77, 3) := by decide +kernel
theorem d_PM_readHall_51 : decode b_PM_readHall 51 = .ok (.aload_n 0, 1) := by decide +kernel
theorem d_PM_readHall_52 : decode b_PM_readHall 52 = .ok (.getfield 74, 3) := by decide +kernel
theorem d_PM_readHall_55 : decode b_PM_readHall 55 = .ok (.if_icmp .ge 52, 3) := by decide +kernel
theorem d_PM_readHall_58 : decode b_PM_readHall 58 = .ok (.aload_n 0, 1) := by decide +kernel
theorem d_PM_readHall_59 : decode b_PM_readHall 59 = .ok (.getfield 7, 3) := by decide +kernel
theorem d_PM_readHall_62 : decode b_PM_readHall 62 = .ok (.aload_n 0, 1) := by decide +kernel
theorem d_PM_readHall_63 : decode b_PM_readHall 63 = .ok (.getfield 77, 3) := by decide +kernel
theorem d_PM_readHall_66 : decode b_PM_readHall 66 = .ok (.iaload, 1) := by decide +kernel
theorem d_PM_readHall_67 : decode b_PM_readHall 67 = .ok (.bipush 67, 2) := by decide +kernel
theorem d_PM_readHall_69 : decode b_PM_readHall 69 = .ok (.if_icmp .ne 11, 3) := by decide +kernel
theorem d_PM_readHall_72 : decode b_PM_readHall 72 = .ok (.aload_n 0, 1) := by decide +kernel
theorem d_PM_readHall_73 : decode b_PM_readHall 73 = .ok (.getfield 84, 3) := by decide +kernel
theorem d_PM_readHall_76 : decode b_PM_readHall 76 = .ok (.iconst 5, 1) := by decide +kernel
theorem d_PM_readHall_77 : decode b_PM_readHall 77 = .ok (.if_icmp .ne 8, 3) := by decide +kernel
theorem d_PM_readHall_80 : decode b_PM_readHall 80 = .ok (.aload_n 0, 1) := by decide +kernel
theorem d_PM_readHall_81 : decode b_PM_readHall 81 = .ok (.getfield 77, 3) := by decide +kernel
theorem d_PM_readHall_84 : decode b_PM_readHall 84 = .ok (.ireturn, 1) := by decide +kernel
theorem d_PM_readHall_85 : decode b_PM_readHall 85 = .ok (.aload_n 0, 1) := by decide +kernel
theorem d_PM_readHall_86 : decode b_PM_readHall 86 = .ok (.dup, 1) := by decide +kernel
theorem d_PM_readHall_87 : decode b_PM_readHall 87 = .ok (.getfield 77, 3) := by decide +kernel
theorem d_PM_readHall_90 : decode b_PM_readHall 90 = .ok (.iconst 1, 1) := by decide +kernel
theorem d_PM_readHall_91 : decode b_PM_readHall 91 = .ok (.iadd, 1) := by decide +kernel
theorem d_PM_readHall_92 : decode b_PM_readHall 92 = .ok (.putfield 77, 3) := by decide +kernel
theorem d_PM_readHall_95 : decode b_PM_readHall 95 = .ok (.aload_n 0, 1) := by decide +kernel
theorem d_PM_readHall_96 : decode b_PM_readHall 96 = .ok (.invokevirtual 91, 3) := by decide +kernel
theorem d_PM_readHall_99 : decode b_PM_readHall 99 = .ok (.ifCond .ne (-52), 3) := by decide +kernel
theorem d_PM_readHall_102 : decode b_PM_readHall 102 = .ok (.aload_n 0, 1) := by decide +kernel
theorem d_PM_readHall_103 : decode b_PM_readHall 103 = .ok (.getfield 77, 3) := by decide +kernel
theorem d_PM_readHall_106 : decode b_PM_readHall 106 = .ok (.ireturn, 1) := by decide +kernel
theorem d_PM_readHall_107 : decode b_PM_readHall 107 = .ok (.bipush (-9), 2) := by decide +kernel
theorem d_PM_readHall_109 : decode b_PM_readHall 109 = .ok (.ireturn, 1) := by decide +kernel
theorem d_PM_readLayers_0 : decode b_PM_readLayers 0 = .ok (.iconst 0, 1) := by decide +kernel
theorem d_PM_readLayers_1 : decode b_PM_readLayers 1 = .ok (.istore_n 1, 1) := by decide +kernel
theorem d_PM_readLayers_2 : decode b_PM_readLayers 2 = .ok (.iload_n 1, 1) := by decide +kernel
theorem d_PM_readLayers_3 : decode b_PM_readLayers 3 = .ok (.bipush 12, 2) := by decide +kernel
theorem d_PM_readLayers_5 : decode b_PM_readLayers 5 = .ok (.if_icmp .ge 31, 3) := by decide +kernel
theorem d_PM_readLayers_8 : decode b_PM_readLayers 8 = .ok (.aload_n 0, 1) := by decide +kernel
theorem d_PM_readLayers_9 : decode b_PM_readLayers 9 = .ok (.iconst 0, 1) := by decide +kernel
theorem d_PM_readLayers_10 : decode b_PM_readLayers 10 = .ok (.iconst 2, 1) := by decide +kernel
theorem d_PM_readLayers_11 : decode b_PM_readLayers 11 = .ok (.invokevirtual 80, 3) := by decide +kernel
theorem d_PM_readLayers_14 : decode b_PM_readLayers 14 = .ok (.istore_n 2, 1) := by decide +kernel
theorem d_PM_readLayers_15 : decode b_PM_readLayers 15 = .ok (.iload_n 2, 1) := by decide +kernel
theorem d_PM_readLayers_16 : decode b_PM_readLayers 16 = .ok (.bipush (-9), 2) := by decide +kernel
theorem d_PM_readLayers_18 : decode b_PM_readLayers 18 = .ok (.if_icmp .ne 5, 3) := by decide +kernel
theorem d_PM_readLayers_21 : decode b_PM_readLayers 21 = .ok (.iconst 0, 1) := by decide +kernel
theorem d_PM_readLayers_22 : decode b_PM_readLayers 22 = .ok (.ireturn, 1) := by decide +kernel
theorem d_PM_readLayers_23 : decode b_PM_readLayers 23 = .ok (.aload_n 0, 1) := by decide +kernel
theorem d_PM_readLayers_24 : decode b_PM_readLayers 24 = .ok (.getfield 19, 3) := by decide +kernel
theorem d_PM_readLayers_27 : decode b_PM_readLayers 27 = .ok (.iload_n 1, 1) := by decide +kernel
theorem d_PM_readLayers_28 : decode b_PM_readLayers 28 = .ok (.iload_n 2, 1) := by decide +kernel
theorem d_PM_readLayers_29 : decode b_PM_readLayers 29 = .ok (.iastore, 1) := by decide +kernel
theorem d_PM_readLayers_30 : decode b_PM_readLayers 30 = .ok (.iinc 1 1, 3) := by decide +kernel
theorem d_PM_readLayers_33 : decode b_PM_readLayers 33 = .ok (.goto (-31), 3) := by decide +kernel
theorem d_PM_readLayers_36 : decode b_PM_readLayers 36 = .ok (.iconst 1, 1) := by decide +kernel
theorem d_PM_readLayers_37 : decode b_PM_readLayers 37 = .ok (.ireturn, 1) := by decide +kernel
theorem d_PM_readOne_0 : decode b_PM_readOne 0 = .ok (.iconst 0, 1) := by decide +kernel
theorem d_PM_readOne_1 : decode b_PM_readOne 1 = .ok (.istore_n 1, 1) := by decide +kernel
theorem d_PM_readOne_2 : decode b_PM_readOne 2 = .ok (.iload_n 1, 1) := by decide +kernel
theorem d_PM_readOne_3 : decode b_PM_readOne 3 = .ok (.bipush 6, 2) := by decide +kernel
theorem d_PM_readOne_5 : decode b_PM_readOne 5 = .ok (.if_icmp .ge 58, 3) := by decide +kernel
theorem d_PM_readOne_8 : decode b_PM_readOne 8 = .ok (.aload_n 0, 1) := by decide +kernel
theorem d_PM_readOne_9 : decode b_PM_readOne 9 = .ok (.iload_n 1, 1) := by decide +kernel
theorem d_PM_readOne_10 : decode b_PM_readOne 10 = .ok (.iconst 1, 1) := by decide +kernel
theorem d_PM_readOne_11 : decode b_PM_readOne 11 = .ok (.if_icmp .ne 7, 3) := by decide +kernel
theorem d_PM_readOne_14 : decode b_PM_readOne 14 = .ok (.iconst 1, 1) := by decide +kernel
theorem d_PM_readOne_15 : decode b_PM_readOne 15 = .ok (.goto 4, 3) := by decide +kernel
theorem d_PM_readOne_18 : decode b_PM_readOne 18 = .ok (.iconst 0, 1) := by decide +kernel
theorem d_PM_readOne_19 : decode b_PM_readOne 19 = .ok (.iload_n 1, 1) := by decide +kernel
theorem d_PM_readOne_20 : decode b_PM_readOne 20 = .ok (.iconst 1, 1) := by decide +kernel
theorem d_PM_readOne_21 : decode b_PM_readOne 21 = .ok (.if_icmp .ne 8, 3) := by decide +kernel
theorem d_PM_readOne_24 : decode b_PM_readOne 24 = .ok (.bipush 9, 2) := by decide +kernel
theorem d_PM_readOne_26 : decode b_PM_readOne 26 = .ok (.goto 4, 3) := by decide +kernel
theorem d_PM_readOne_29 : decode b_PM_readOne 29 = .ok (.iconst 3, 1) := by decide +kernel
theorem d_PM_readOne_30 : decode b_PM_readOne 30 = .ok (.invokevirtual 80, 3) := by decide +kernel
theorem d_PM_readOne_33 : decode b_PM_readOne 33 = .ok (.istore_n 2, 1) := by decide +kernel
theorem d_PM_readOne_34 : decode b_PM_readOne 34 = .ok (.iload_n 2, 1) := by decide +kernel
theorem d_PM_readOne_35 : decode b_PM_readOne 35 = .ok (.bipush (-9), 2) := by decide +kernel
theorem d_PM_readOne_37 : decode b_PM_readOne 37 = .ok (.if_icmp .ne 5, 3) := by decide +kernel
theorem d_PM_readOne_40 : decode b_PM_readOne 40 = .ok (.iconst 0, 1) := by decide +kernel
theorem d_PM_readOne_41 : decode b_PM_readOne 41 = .ok (.ireturn, 1) := by decide +kernel
theorem d_PM_readOne_42 : decode b_PM_readOne 42 = .ok (.aload_n 0, 1) := by decide +kernel
theorem d_PM_readOne_43 : decode b_PM_readOne 43 = .ok (.getfield 22, 3) := by decide +kernel
theorem d_PM_readOne_46 : decode b_PM_readOne 46 = .ok (.bipush 6, 2) := by decide +kernel
theorem d_PM_readOne_48 : decode b_PM_readOne 48 = .ok (.aload_n 0, 1) := by decide +kernel
theorem d_PM_readOne_49 : decode b_PM_readOne 49 = .ok (.getfield 84, 3) := by decide +kernel
theorem d_PM_readOne_52 : decode b_PM_readOne 52 = .ok (.imul, 1) := by decide +kernel
theorem d_PM_readOne_53 : decode b_PM_readOne 53 = .ok (.iload_n 1, 1) := by decide +kernel
theorem d_PM_readOne_54 : decode b_PM_readOne 54 = .ok (.iadd, 1) := by decide +kernel
theorem d_PM_readOne_55 : decode b_PM_readOne 55 = .ok (.iload_n 2, 1) := by decide +kernel
theorem d_PM_readOne_56 : decode b_PM_readOne 56 = .ok (.iastore, 1) := by decide +kernel
theorem d_PM_readOne_57 : decode b_PM_readOne 57 = .ok (.iinc 1 1, 3) := by decide +kernel
theorem d_PM_readOne_60 : decode b_PM_readOne 60 = .ok (.goto (-58), 3) := by decide +kernel
theorem d_PM_readOne_63 : decode b_PM_readOne 63 = .ok (.aload_n 0, 1) := by decide +kernel
theorem d_PM_readOne_64 : decode b_PM_readOne 64 = .ok (.dup, 1) := by decide +kernel
theorem d_PM_readOne_65 : decode b_PM_readOne 65 = .ok (.getfield 84, 3) := by decide +kernel
theorem d_PM_readOne_68 : decode b_PM_readOne 68 = .ok (.iconst 1, 1) := by decide +kernel
theorem d_PM_readOne_69 : decode b_PM_readOne 69 = .ok (.iadd, 1) := by decide +kernel
theorem d_PM_readOne_70 : decode b_PM_readOne 70 = .ok (.putfield 84, 3) := by decide +kernel
theorem d_PM_readOne_73 : decode b_PM_readOne 73 = .ok (.iconst 1, 1) := by decide +kernel
theorem d_PM_readOne_74 : decode b_PM_readOne 74 = .ok (.ireturn, 1) := by decide +kernel
theorem d_PM_rests_0 : decode b_PM_rests 0 = .ok (.aload_n 0, 1) := by decide +kernel
theorem d_PM_rests_1 : decode b_PM_rests 1 = .ok (.iconst 0, 1) := by decide +kernel
theorem d_PM_rests_2 : decode b_PM_rests 2 = .ok (.putfield 59, 3) := by decide +kernel
theorem d_PM_rests_5 : decode b_PM_rests 5 = .ok (.aload_n 0, 1) := by decide +kernel
theorem d_PM_rests_6 : decode b_PM_rests 6 = .ok (.iload_n 1, 1) := by decide +kernel
theorem d_PM_rests_7 : decode b_PM_rests 7 = .ok (.invokevirtual 133, 3) := by decide +kernel
theorem d_PM_rests_10 : decode b_PM_rests 10 = .ok (.ifCond .ne 11, 3) := by decide +kernel
theorem d_PM_rests_13 : decode b_PM_rests 13 = .ok (.aload_n 0, 1) := by decide +kernel
theorem d_PM_rests_14 : decode b_PM_rests 14 = .ok (.iload_n 2, 1) := by decide +kernel
theorem d_PM_rests_15 : decode b_PM_rests 15 = .ok (.invokevirtual 133, 3) := by decide +kernel
theorem d_PM_rests_18 : decode b_PM_rests 18 = .ok (.ifCond .eq 5, 3) := by decide +kernel
theorem d_PM_rests_21 : decode b_PM_rests 21 = .ok (.iconst (-1), 1) := by decide +kernel
theorem d_PM_rests_22 : decode b_PM_rests 22 = .ok (.ireturn, 1) := by decide +kernel
theorem d_PM_rests_23 : decode b_PM_rests 23 = .ok (.iload_n 1, 1) := by decide +kernel
theorem d_PM_rests_24 : decode b_PM_rests 24 = .ok (.iload_n 2, 1) := by decide +kernel
theorem d_PM_rests_25 : decode b_PM_rests 25 = .ok (.if_icmp .eq 13, 3) := by decide +kernel
theorem d_PM_rests_28 : decode b_PM_rests 28 = .ok (.iload_n 3, 1) := by decide +kernel
theorem d_PM_rests_29 : decode b_PM_rests 29 = .ok (.i2l, 1) := by decide +kernel
theorem d_PM_rests_30 : decode b_PM_rests 30 = .ok (.lconst 0, 1) := by decide +kernel
theorem d_PM_rests_31 : decode b_PM_rests 31 = .ok (.lconst 1, 1) := by decide +kernel
theorem d_PM_rests_32 : decode b_PM_rests 32 = .ok (.invokestatic 66, 3) := by decide +kernel
theorem d_PM_rests_35 : decode b_PM_rests 35 = .ok (.ifCond .ne 6, 3) := by decide +kernel
theorem d_PM_rests_38 : decode b_PM_rests 38 = .ok (.bipush (-2), 2) := by decide +kernel
theorem d_PM_rests_40 : decode b_PM_rests 40 = .ok (.ireturn, 1) := by decide +kernel
theorem d_PM_rests_41 : decode b_PM_rests 41 = .ok (.aload_n 0, 1) := by decide +kernel
theorem d_PM_rests_42 : decode b_PM_rests 42 = .ok (.iload_n 1, 1) := by decide +kernel
theorem d_PM_rests_43 : decode b_PM_rests 43 = .ok (.iload_n 2, 1) := by decide +kernel
theorem d_PM_rests_44 : decode b_PM_rests 44 = .ok (.invokevirtual 220, 3) := by decide +kernel
theorem d_PM_rests_47 : decode b_PM_rests 47 = .ok (.iload_n 3, 1) := by decide +kernel
theorem d_PM_rests_48 : decode b_PM_rests 48 = .ok (.ifCond .ne 10, 3) := by decide +kernel
theorem d_PM_rests_51 : decode b_PM_rests 51 = .ok (.aload_n 0, 1) := by decide +kernel
theorem d_PM_rests_52 : decode b_PM_rests 52 = .ok (.getfield 210, 3) := by decide +kernel
theorem d_PM_rests_55 : decode b_PM_rests 55 = .ok (.goto 7, 3) := by decide +kernel
theorem d_PM_rests_58 : decode b_PM_rests 58 = .ok (.aload_n 0, 1) := by decide +kernel
theorem d_PM_rests_59 : decode b_PM_rests 59 = .ok (.getfield 213, 3) := by decide +kernel
theorem d_PM_rests_62 : decode b_PM_rests 62 = .ok (.ireturn, 1) := by decide +kernel
theorem d_PM_see_0 : decode b_PM_see 0 = .ok (.aload_n 0, 1) := by decide +kernel
theorem d_PM_see_1 : decode b_PM_see 1 = .ok (.iconst 0, 1) := by decide +kernel
theorem d_PM_see_2 : decode b_PM_see 2 = .ok (.putfield 59, 3) := by decide +kernel
theorem d_PM_see_5 : decode b_PM_see 5 = .ok (.aload_n 0, 1) := by decide +kernel
theorem d_PM_see_6 : decode b_PM_see 6 = .ok (.iload_n 1, 1) := by decide +kernel
theorem d_PM_see_7 : decode b_PM_see 7 = .ok (.invokevirtual 133, 3) := by decide +kernel
theorem d_PM_see_10 : decode b_PM_see 10 = .ok (.ifCond .ne 10, 3) := by decide +kernel
theorem d_PM_see_13 : decode b_PM_see 13 = .ok (.iload_n 2, 1) := by decide +kernel
theorem d_PM_see_14 : decode b_PM_see 14 = .ok (.invokestatic 127, 3) := by decide +kernel
theorem d_PM_see_17 : decode b_PM_see 17 = .ok (.ifCond .eq 5, 3) := by decide +kernel
theorem d_PM_see_20 : decode b_PM_see 20 = .ok (.iconst (-1), 1) := by decide +kernel
theorem d_PM_see_21 : decode b_PM_see 21 = .ok (.ireturn, 1) := by decide +kernel
theorem d_PM_see_22 : decode b_PM_see 22 = .ok (.iload_n 3, 1) := by decide +kernel
theorem d_PM_see_23 : decode b_PM_see 23 = .ok (.i2l, 1) := by decide +kernel
theorem d_PM_see_24 : decode b_PM_see 24 = .ok (.lconst 0, 1) := by decide +kernel
theorem d_PM_see_25 : decode b_PM_see 25 = .ok (.ldc2_w 131, 3) := by decide +kernel
theorem d_PM_see_28 : decode b_PM_see 28 = .ok (.invokestatic 66, 3) := by decide +kernel
theorem d_PM_see_31 : decode b_PM_see 31 = .ok (.ifCond .eq 14, 3) := by decide +kernel
theorem d_PM_see_34 : decode b_PM_see 34 = .ok (.iload 4, 2) := by decide +kernel
theorem d_PM_see_36 : decode b_PM_see 36 = .ok (.i2l, 1) := by decide +kernel
theorem d_PM_see_37 : decode b_PM_see 37 = .ok (.lconst 0, 1) := by decide +kernel
theorem d_PM_see_38 : decode b_PM_see 38 = .ok (.lconst 1, 1) := by decide +kernel
theorem d_PM_see_39 : decode b_PM_see 39 = .ok (.invokestatic 66, 3) := by decide +kernel
theorem d_PM_see_42 : decode b_PM_see 42 = .ok (.ifCond .ne 6, 3) := by decide +kernel
theorem d_PM_see_45 : decode b_PM_see 45 = .ok (.bipush (-2), 2) := by decide +kernel
theorem d_PM_see_47 : decode b_PM_see 47 = .ok (.ireturn, 1) := by decide +kernel
theorem d_PM_see_48 : decode b_PM_see 48 = .ok (.aload_n 0, 1) := by decide +kernel
theorem d_PM_see_49 : decode b_PM_see 49 = .ok (.getfield 124, 3) := by decide +kernel
theorem d_PM_see_52 : decode b_PM_see 52 = .ok (.bipush 6, 2) := by decide +kernel
theorem d_PM_see_54 : decode b_PM_see 54 = .ok (.if_icmp .ne 6, 3) := by decide +kernel
theorem d_PM_see_57 : decode b_PM_see 57 = .ok (.bipush (-4), 2) := by decide +kernel
theorem d_PM_see_59 : decode b_PM_see 59 = .ok (.ireturn, 1) := by decide +kernel
theorem d_PM_see_60 : decode b_PM_see 60 = .ok (.aload_n 0, 1) := by decide +kernel
theorem d_PM_see_61 : decode b_PM_see 61 = .ok (.getfield 41, 3) := by decide +kernel
theorem d_PM_see_64 : decode b_PM_see 64 = .ok (.aload_n 0, 1) := by decide +kernel
theorem d_PM_see_65 : decode b_PM_see 65 = .ok (.getfield 124, 3) := by decide +kernel
theorem d_PM_see_68 : decode b_PM_see 68 = .ok (.iload_n 1, 1) := by decide +kernel
theorem d_PM_see_69 : decode b_PM_see 69 = .ok (.iastore, 1) := by decide +kernel
theorem d_PM_see_70 : decode b_PM_see 70 = .ok (.aload_n 0, 1) := by decide +kernel
theorem d_PM_see_71 : decode b_PM_see 71 = .ok (.getfield 44, 3) := by decide +kernel
theorem d_PM_see_74 : decode b_PM_see 74 = .ok (.aload_n 0, 1) := by decide +kernel
theorem d_PM_see_75 : decode b_PM_see 75 = .ok (.getfield 124, 3) := by decide +kernel
theorem d_PM_see_78 : decode b_PM_see 78 = .ok (.iload_n 2, 1) := by decide +kernel
theorem d_PM_see_79 : decode b_PM_see 79 = .ok (.iastore, 1) := by decide +kernel
theorem d_PM_see_80 : decode b_PM_see 80 = .ok (.aload_n 0, 1) := by decide +kernel
theorem d_PM_see_81 : decode b_PM_see 81 = .ok (.getfield 47, 3) := by decide +kernel
theorem d_PM_see_84 : decode b_PM_see 84 = .ok (.aload_n 0, 1) := by decide +kernel
theorem d_PM_see_85 : decode b_PM_see 85 = .ok (.getfield 124, 3) := by decide +kernel
theorem d_PM_see_88 : decode b_PM_see 88 = .ok (.iload_n 3, 1) := by decide +kernel
theorem d_PM_see_89 : decode b_PM_see 89 = .ok (.iastore, 1) := by decide +kernel
theorem d_PM_see_90 : decode b_PM_see 90 = .ok (.aload_n 0, 1) := by decide +kernel
theorem d_PM_see_91 : decode b_PM_see 91 = .ok (.getfield 50, 3) := by decide +kernel
theorem d_PM_see_94 : decode b_PM_see 94 = .ok (.aload_n 0, 1) := by decide +kernel
theorem d_PM_see_95 : decode b_PM_see 95 = .ok (.getfield 124, 3) := by decide +kernel
theorem d_PM_see_98 : decode b_PM_see 98 = .ok (.iload 4, 2) := by decide +kernel
theorem d_PM_see_100 : decode b_PM_see 100 = .ok (.iastore, 1) := by decide +kernel
theorem d_PM_see_101 : decode b_PM_see 101 = .ok (.aload_n 0, 1) := by decide +kernel
theorem d_PM_see_102 : decode b_PM_see 102 = .ok (.dup, 1) := by decide +kernel
theorem d_PM_see_103 : decode b_PM_see 103 = .ok (.getfield 124, 3) := by decide +kernel
theorem d_PM_see_106 : decode b_PM_see 106 = .ok (.iconst 1, 1) := by decide +kernel
theorem d_PM_see_107 : decode b_PM_see 107 = .ok (.iadd, 1) := by decide +kernel
theorem d_PM_see_108 : decode b_PM_see 108 = .ok (.putfield 124, 3) := by decide +kernel
theorem d_PM_see_111 : decode b_PM_see 111 = .ok (.aload_n 0, 1) := by decide +kernel
theorem d_PM_see_112 : decode b_PM_see 112 = .ok (.getfield 124, 3) := by decide +kernel
theorem d_PM_see_115 : decode b_PM_see 115 = .ok (.ireturn, 1) := by decide +kernel
theorem d_PM_seed_0 : decode b_PM_seed 0 = .ok (.aload_n 0, 1) := by decide +kernel
theorem d_PM_seed_1 : decode b_PM_seed 1 = .ok (.iconst 0, 1) := by decide +kernel
theorem d_PM_seed_2 : decode b_PM_seed 2 = .ok (.putfield 59, 3) := by decide +kernel
theorem d_PM_seed_5 : decode b_PM_seed 5 = .ok (.aload_n 0, 1) := by decide +kernel
theorem d_PM_seed_6 : decode b_PM_seed 6 = .ok (.getfield 224, 3) := by decide +kernel
theorem d_PM_seed_9 : decode b_PM_seed 9 = .ok (.lstore_n 3, 1) := by decide +kernel
theorem d_PM_seed_10 : decode b_PM_seed 10 = .ok (.aload_n 0, 1) := by decide +kernel
theorem d_PM_seed_11 : decode b_PM_seed 11 = .ok (.lload_n 1, 1) := by decide +kernel
theorem d_PM_seed_12 : decode b_PM_seed 12 = .ok (.putfield 224, 3) := by decide +kernel
theorem d_PM_seed_15 : decode b_PM_seed 15 = .ok (.lload_n 3, 1) := by decide +kernel
theorem d_PM_seed_16 : decode b_PM_seed 16 = .ok (.lreturn, 1) := by decide +kernel
theorem d_PM_send_0 : decode b_PM_send 0 = .ok (.aload_n 0, 1) := by decide +kernel
theorem d_PM_send_1 : decode b_PM_send 1 = .ok (.iconst 0, 1) := by decide +kernel
theorem d_PM_send_2 : decode b_PM_send 2 = .ok (.putfield 59, 3) := by decide +kernel
theorem d_PM_send_5 : decode b_PM_send 5 = .ok (.aload_n 0, 1) := by decide +kernel
theorem d_PM_send_6 : decode b_PM_send 6 = .ok (.getfield 25, 3) := by decide +kernel
theorem d_PM_send_9 : decode b_PM_send 9 = .ok (.iconst 4, 1) := by decide +kernel
theorem d_PM_send_10 : decode b_PM_send 10 = .ok (.iaload, 1) := by decide +kernel
theorem d_PM_send_11 : decode b_PM_send 11 = .ok (.ifCond .ne 6, 3) := by decide +kernel
theorem d_PM_send_14 : decode b_PM_send 14 = .ok (.bipush (-3), 2) := by decide +kernel
theorem d_PM_send_16 : decode b_PM_send 16 = .ok (.ireturn, 1) := by decide +kernel
theorem d_PM_send_17 : decode b_PM_send 17 = .ok (.aload_n 0, 1) := by decide +kernel
theorem d_PM_send_18 : decode b_PM_send 18 = .ok (.invokevirtual 142, 3) := by decide +kernel
theorem d_PM_send_21 : decode b_PM_send 21 = .ok (.aload_n 0, 1) := by decide +kernel
theorem d_PM_send_22 : decode b_PM_send 22 = .ok (.getfield 25, 3) := by decide +kernel
theorem d_PM_send_25 : decode b_PM_send 25 = .ok (.iconst 5, 1) := by decide +kernel
theorem d_PM_send_26 : decode b_PM_send 26 = .ok (.iaload, 1) := by decide +kernel
theorem d_PM_send_27 : decode b_PM_send 27 = .ok (.istore_n 1, 1) := by decide +kernel
theorem d_PM_send_28 : decode b_PM_send 28 = .ok (.aload_n 0, 1) := by decide +kernel
theorem d_PM_send_29 : decode b_PM_send 29 = .ok (.getfield 25, 3) := by decide +kernel
theorem d_PM_send_32 : decode b_PM_send 32 = .ok (.iload_n 1, 1) := by decide +kernel
theorem d_PM_send_33 : decode b_PM_send 33 = .ok (.invokestatic 138, 3) := by decide +kernel
theorem d_PM_send_36 : decode b_PM_send 36 = .ok (.iload_n 1, 1) := by decide +kernel
theorem d_PM_send_37 : decode b_PM_send 37 = .ok (.ireturn, 1) := by decide +kernel
theorem d_PM_share_0 : decode b_PM_share 0 = .ok (.aload_n 0, 1) := by decide +kernel
theorem d_PM_share_1 : decode b_PM_share 1 = .ok (.iconst 0, 1) := by decide +kernel
theorem d_PM_share_2 : decode b_PM_share 2 = .ok (.putfield 59, 3) := by decide +kernel
theorem d_PM_share_5 : decode b_PM_share 5 = .ok (.iload_n 1, 1) := by decide +kernel
theorem d_PM_share_6 : decode b_PM_share 6 = .ok (.invokestatic 127, 3) := by decide +kernel
theorem d_PM_share_9 : decode b_PM_share 9 = .ok (.ifCond .eq 5, 3) := by decide +kernel
theorem d_PM_share_12 : decode b_PM_share 12 = .ok (.iconst (-1), 1) := by decide +kernel
theorem d_PM_share_13 : decode b_PM_share 13 = .ok (.ireturn, 1) := by decide +kernel
theorem d_PM_share_14 : decode b_PM_share 14 = .ok (.aload_n 0, 1) := by decide +kernel
theorem d_PM_share_15 : decode b_PM_share 15 = .ok (.aload_n 0, 1) := by decide +kernel
theorem d_PM_share_16 : decode b_PM_share 16 = .ok (.getfield 25, 3) := by decide +kernel
theorem d_PM_share_19 : decode b_PM_share 19 = .ok (.invokevirtual 112, 3) := by decide +kernel
theorem d_PM_share_22 : decode b_PM_share 22 = .ok (.iconst 0, 1) := by decide +kernel
theorem d_PM_share_23 : decode b_PM_share 23 = .ok (.istore_n 3, 1) := by decide +kernel
theorem d_PM_share_24 : decode b_PM_share 24 = .ok (.iload_n 3, 1) := by decide +kernel
theorem d_PM_share_25 : decode b_PM_share 25 = .ok (.bipush 16, 2) := by decide +kernel
theorem d_PM_share_27 : decode b_PM_share 27 = .ok (.if_icmp .ge 23, 3) := by decide +kernel
theorem d_PM_share_30 : decode b_PM_share 30 = .ok (.aload_n 0, 1) := by decide +kernel
theorem d_PM_share_31 : decode b_PM_share 31 = .ok (.getfield 53, 3) := by decide +kernel
theorem d_PM_share_34 : decode b_PM_share 34 = .ok (.iload_n 3, 1) := by decide +kernel
theorem d_PM_share_35 : decode b_PM_share 35 = .ok (.aload_n 0, 1) := by decide +kernel
theorem d_PM_share_36 : decode b_PM_share 36 = .ok (.iload_n 3, 1) := by decide +kernel
theorem d_PM_share_37 : decode b_PM_share 37 = .ok (.invokevirtual 120, 3) := by decide +kernel
theorem d_PM_share_40 : decode b_PM_share 40 = .ok (.invokestatic 162, 3) := by decide +kernel
theorem d_PM_share_43 : decode b_PM_share 43 = .ok (.iastore, 1) := by decide +kernel
theorem d_PM_share_44 : decode b_PM_share 44 = .ok (.iinc 3 1, 3) := by decide +kernel
theorem d_PM_share_47 : decode b_PM_share 47 = .ok (.goto (-23), 3) := by decide +kernel
theorem d_PM_share_50 : decode b_PM_share 50 = .ok (.iconst 0, 1) := by decide +kernel
theorem d_PM_share_51 : decode b_PM_share 51 = .ok (.istore_n 3, 1) := by decide +kernel
theorem d_PM_share_52 : decode b_PM_share 52 = .ok (.iconst 0, 1) := by decide +kernel
theorem d_PM_share_53 : decode b_PM_share 53 = .ok (.istore 4, 2) := by decide +kernel
theorem d_PM_share_55 : decode b_PM_share 55 = .ok (.iload 4, 2) := by decide +kernel
theorem d_PM_share_57 : decode b_PM_share 57 = .ok (.bipush 16, 2) := by decide +kernel
theorem d_PM_share_59 : decode b_PM_share 59 = .ok (.if_icmp .ge 61, 3) := by decide +kernel
theorem d_PM_share_62 : decode b_PM_share 62 = .ok (.iload 4, 2) := by decide +kernel
theorem d_PM_share_64 : decode b_PM_share 64 = .ok (.iload_n 1, 1) := by decide +kernel
theorem d_PM_share_65 : decode b_PM_share 65 = .ok (.invokestatic 105, 3) := by decide +kernel
theorem d_PM_share_68 : decode b_PM_share 68 = .ok (.ifCond .ne 46, 3) := by decide +kernel
theorem d_PM_share_71 : decode b_PM_share 71 = .ok (.iload 4, 2) := by decide +kernel
theorem d_PM_share_73 : decode b_PM_share 73 = .ok (.invokestatic 162, 3) := by decide +kernel
theorem d_PM_share_76 : decode b_PM_share 76 = .ok (.istore 5, 2) := by decide +kernel
theorem d_PM_share_78 : decode b_PM_share 78 = .ok (.iload_n 3, 1) := by decide +kernel
theorem d_PM_share_79 : decode b_PM_share 79 = .ok (.iload 5, 2) := by decide +kernel
theorem d_PM_share_81 : decode b_PM_share 81 = .ok (.invokestatic 194, 3) := by decide +kernel
theorem d_PM_share_84 : decode b_PM_share 84 = .ok (.iconst 3, 1) := by decide +kernel
theorem d_PM_share_85 : decode b_PM_share 85 = .ok (.iload 5, 2) := by decide +kernel
theorem d_PM_share_87 : decode b_PM_share 87 = .ok (.isub, 1) := by decide +kernel
theorem d_PM_share_88 : decode b_PM_share 88 = .ok (.invokestatic 194, 3) := by decide +kernel
theorem d_PM_share_91 : decode b_PM_share 91 = .ok (.imul, 1) := by decide +kernel
theorem d_PM_share_92 : decode b_PM_share 92 = .ok (.aload_n 0, 1) := by decide +kernel
theorem d_PM_share_93 : decode b_PM_share 93 = .ok (.getfield 53, 3) := by decide +kernel
theorem d_PM_share_96 : decode b_PM_share 96 = .ok (.iload 4, 2) := by decide +kernel
theorem d_PM_share_98 : decode b_PM_share 98 = .ok (.iconst 1, 1) := by decide +kernel
theorem d_PM_share_99 : decode b_PM_share 99 = .ok (.iload_n 1, 1) := by decide +kernel
theorem d_PM_share_100 : decode b_PM_share 100 = .ok (.ishl, 1) := by decide +kernel
theorem d_PM_share_101 : decode b_PM_share 101 = .ok (.ior, 1) := by decide +kernel
theorem d_PM_share_102 : decode b_PM_share 102 = .ok (.iaload, 1) := by decide +kernel
theorem d_PM_share_103 : decode b_PM_share 103 = .ok (.aload_n 0, 1) := by decide +kernel
theorem d_PM_share_104 : decode b_PM_share 104 = .ok (.getfield 53, 3) := by decide +kernel
theorem d_PM_share_107 : decode b_PM_share 107 = .ok (.iload 4, 2) := by decide +kernel
theorem d_PM_share_109 : decode b_PM_share 109 = .ok (.iaload, 1) := by decide +kernel
theorem d_PM_share_110 : decode b_PM_share 110 = .ok (.isub, 1) := by decide +kernel
theorem d_PM_share_111 : decode b_PM_share 111 = .ok (.imul, 1) := by decide +kernel
theorem d_PM_share_112 : decode b_PM_share 112 = .ok (.iadd, 1) := by decide +kernel
theorem d_PM_share_113 : decode b_PM_share 113 = .ok (.istore_n 3, 1) := by decide +kernel
theorem d_PM_share_114 : decode b_PM_share 114 = .ok (.iinc 4 1, 3) := by decide +kernel
theorem d_PM_share_117 : decode b_PM_share 117 = .ok (.goto (-62), 3) := by decide +kernel
theorem d_PM_share_120 : decode b_PM_share 120 = .ok (.iload_n 3, 1) := by decide +kernel
theorem d_PM_share_121 : decode b_PM_share 121 = .ok (.bipush 24, 2) := by decide +kernel
theorem d_PM_share_123 : decode b_PM_share 123 = .ok (.iload_n 2, 1) := by decide +kernel
theorem d_PM_share_124 : decode b_PM_share 124 = .ok (.invokestatic 197, 3) := by decide +kernel
theorem d_PM_share_127 : decode b_PM_share 127 = .ok (.ireturn, 1) := by decide +kernel
theorem d_PM_strokes_0 : decode b_PM_strokes 0 = .ok (.aload_n 0, 1) := by decide +kernel
theorem d_PM_strokes_1 : decode b_PM_strokes 1 = .ok (.iconst 0, 1) := by decide +kernel
theorem d_PM_strokes_2 : decode b_PM_strokes 2 = .ok (.putfield 59, 3) := by decide +kernel
theorem d_PM_strokes_5 : decode b_PM_strokes 5 = .ok (.aload_n 0, 1) := by decide +kernel
theorem d_PM_strokes_6 : decode b_PM_strokes 6 = .ok (.iload_n 1, 1) := by decide +kernel
theorem d_PM_strokes_7 : decode b_PM_strokes 7 = .ok (.invokevirtual 133, 3) := by decide +kernel
theorem d_PM_strokes_10 : decode b_PM_strokes 10 = .ok (.ifCond .eq 5, 3) := by decide +kernel
theorem d_PM_strokes_13 : decode b_PM_strokes 13 = .ok (.iconst (-1), 1) := by decide +kernel
theorem d_PM_strokes_14 : decode b_PM_strokes 14 = .ok (.ireturn, 1) := by decide +kernel
theorem d_PM_strokes_15 : decode b_PM_strokes 15 = .ok (.iload_n 2, 1) := by decide +kernel
theorem d_PM_strokes_16 : decode b_PM_strokes 16 = .ok (.i2l, 1) := by decide +kernel
theorem d_PM_strokes_17 : decode b_PM_strokes 17 = .ok (.lconst 0, 1) := by decide +kernel
theorem d_PM_strokes_18 : decode b_PM_strokes 18 = .ok (.lconst 1, 1) := by decide +kernel
theorem d_PM_strokes_19 : decode b_PM_strokes 19 = .ok (.invokestatic 66, 3) := by decide +kernel
theorem d_PM_strokes_22 : decode b_PM_strokes 22 = .ok (.ifCond .ne 6, 3) := by decide +kernel
theorem d_PM_strokes_25 : decode b_PM_strokes 25 = .ok (.bipush (-2), 2) := by decide +kernel
theorem d_PM_strokes_27 : decode b_PM_strokes 27 = .ok (.ireturn, 1) := by decide +kernel
theorem d_PM_strokes_28 : decode b_PM_strokes 28 = .ok (.aload_n 0, 1) := by decide +kernel
theorem d_PM_strokes_29 : decode b_PM_strokes 29 = .ok (.iload_n 1, 1) := by decide +kernel
theorem d_PM_strokes_30 : decode b_PM_strokes 30 = .ok (.invokevirtual 177, 3) := by decide +kernel
theorem d_PM_strokes_33 : decode b_PM_strokes 33 = .ok (.iload_n 2, 1) := by decide +kernel
theorem d_PM_strokes_34 : decode b_PM_strokes 34 = .ok (.ifCond .ne 10, 3) := by decide +kernel
theorem d_PM_strokes_37 : decode b_PM_strokes 37 = .ok (.aload_n 0, 1) := by decide +kernel
theorem d_PM_strokes_38 : decode b_PM_strokes 38 = .ok (.getfield 171, 3) := by decide +kernel
theorem d_PM_strokes_41 : decode b_PM_strokes 41 = .ok (.goto 7, 3) := by decide +kernel
theorem d_PM_strokes_44 : decode b_PM_strokes 44 = .ok (.aload_n 0, 1) := by decide +kernel
theorem d_PM_strokes_45 : decode b_PM_strokes 45 = .ok (.getfield 168, 3) := by decide +kernel
theorem d_PM_strokes_48 : decode b_PM_strokes 48 = .ok (.ireturn, 1) := by decide +kernel
theorem d_PM_under_0 : decode b_PM_under 0 = .ok (.aload_n 0, 1) := by decide +kernel
theorem d_PM_under_1 : decode b_PM_under 1 = .ok (.iconst 0, 1) := by decide +kernel
theorem d_PM_under_2 : decode b_PM_under 2 = .ok (.putfield 59, 3) := by decide +kernel
theorem d_PM_under_5 : decode b_PM_under 5 = .ok (.iload_n 1, 1) := by decide +kernel
theorem d_PM_under_6 : decode b_PM_under 6 = .ok (.invokestatic 127, 3) := by decide +kernel
theorem d_PM_under_9 : decode b_PM_under 9 = .ok (.ifCond .eq 5, 3) := by decide +kernel
theorem d_PM_under_12 : decode b_PM_under 12 = .ok (.iconst (-1), 1) := by decide +kernel
theorem d_PM_under_13 : decode b_PM_under 13 = .ok (.ireturn, 1) := by decide +kernel
theorem d_PM_under_14 : decode b_PM_under 14 = .ok (.iload_n 2, 1) := by decide +kernel
theorem d_PM_under_15 : decode b_PM_under 15 = .ok (.i2l, 1) := by decide +kernel
theorem d_PM_under_16 : decode b_PM_under 16 = .ok (.lconst 0, 1) := by decide +kernel
theorem d_PM_under_17 : decode b_PM_under 17 = .ok (.lconst 1, 1) := by decide +kernel
theorem d_PM_under_18 : decode b_PM_under 18 = .ok (.invokestatic 66, 3) := by decide +kernel
theorem d_PM_under_21 : decode b_PM_under 21 = .ok (.ifCond .ne 6, 3) := by decide +kernel
theorem d_PM_under_24 : decode b_PM_under 24 = .ok (.bipush (-2), 2) := by decide +kernel
theorem d_PM_under_26 : decode b_PM_under 26 = .ok (.ireturn, 1) := by decide +kernel
theorem d_PM_under_27 : decode b_PM_under 27 = .ok (.aload_n 0, 1) := by decide +kernel
theorem d_PM_under_28 : decode b_PM_under 28 = .ok (.iload_n 1, 1) := by decide +kernel
theorem d_PM_under_29 : decode b_PM_under 29 = .ok (.invokevirtual 207, 3) := by decide +kernel
theorem d_PM_under_32 : decode b_PM_under 32 = .ok (.iload_n 2, 1) := by decide +kernel
theorem d_PM_under_33 : decode b_PM_under 33 = .ok (.ifCond .ne 10, 3) := by decide +kernel
theorem d_PM_under_36 : decode b_PM_under 36 = .ok (.aload_n 0, 1) := by decide +kernel
theorem d_PM_under_37 : decode b_PM_under 37 = .ok (.getfield 201, 3) := by decide +kernel
theorem d_PM_under_40 : decode b_PM_under 40 = .ok (.goto 7, 3) := by decide +kernel
theorem d_PM_under_43 : decode b_PM_under 43 = .ok (.aload_n 0, 1) := by decide +kernel
theorem d_PM_under_44 : decode b_PM_under 44 = .ok (.getfield 204, 3) := by decide +kernel
theorem d_PM_under_47 : decode b_PM_under 47 = .ok (.ireturn, 1) := by decide +kernel
theorem d_PM_undo_0 : decode b_PM_undo 0 = .ok (.aload_n 0, 1) := by decide +kernel
theorem d_PM_undo_1 : decode b_PM_undo 1 = .ok (.iconst 0, 1) := by decide +kernel
theorem d_PM_undo_2 : decode b_PM_undo 2 = .ok (.putfield 59, 3) := by decide +kernel
theorem d_PM_undo_5 : decode b_PM_undo 5 = .ok (.aload_n 0, 1) := by decide +kernel
theorem d_PM_undo_6 : decode b_PM_undo 6 = .ok (.getfield 102, 3) := by decide +kernel
theorem d_PM_undo_9 : decode b_PM_undo 9 = .ok (.ifCond .ne 6, 3) := by decide +kernel
theorem d_PM_undo_12 : decode b_PM_undo 12 = .ok (.bipush (-3), 2) := by decide +kernel
theorem d_PM_undo_14 : decode b_PM_undo 14 = .ok (.ireturn, 1) := by decide +kernel
theorem d_PM_undo_15 : decode b_PM_undo 15 = .ok (.aload_n 0, 1) := by decide +kernel
theorem d_PM_undo_16 : decode b_PM_undo 16 = .ok (.dup, 1) := by decide +kernel
theorem d_PM_undo_17 : decode b_PM_undo 17 = .ok (.getfield 102, 3) := by decide +kernel
theorem d_PM_undo_20 : decode b_PM_undo 20 = .ok (.iconst 1, 1) := by decide +kernel
theorem d_PM_undo_21 : decode b_PM_undo 21 = .ok (.isub, 1) := by decide +kernel
theorem d_PM_undo_22 : decode b_PM_undo 22 = .ok (.putfield 102, 3) := by decide +kernel
theorem d_PM_undo_25 : decode b_PM_undo 25 = .ok (.iconst 0, 1) := by decide +kernel
theorem d_PM_undo_26 : decode b_PM_undo 26 = .ok (.istore_n 1, 1) := by decide +kernel
theorem d_PM_undo_27 : decode b_PM_undo 27 = .ok (.iload_n 1, 1) := by decide +kernel
theorem d_PM_undo_28 : decode b_PM_undo 28 = .ok (.bipush 16, 2) := by decide +kernel
theorem d_PM_undo_30 : decode b_PM_undo 30 = .ok (.if_icmp .ge 29, 3) := by decide +kernel
theorem d_PM_undo_33 : decode b_PM_undo 33 = .ok (.aload_n 0, 1) := by decide +kernel
theorem d_PM_undo_34 : decode b_PM_undo 34 = .ok (.getfield 25, 3) := by decide +kernel
theorem d_PM_undo_37 : decode b_PM_undo 37 = .ok (.iload_n 1, 1) := by decide +kernel
theorem d_PM_undo_38 : decode b_PM_undo 38 = .ok (.aload_n 0, 1) := by decide +kernel
theorem d_PM_undo_39 : decode b_PM_undo 39 = .ok (.getfield 31, 3) := by decide +kernel
theorem d_PM_undo_42 : decode b_PM_undo 42 = .ok (.bipush 16, 2) := by decide +kernel
theorem d_PM_undo_44 : decode b_PM_undo 44 = .ok (.aload_n 0, 1) := by decide +kernel
theorem d_PM_undo_45 : decode b_PM_undo 45 = .ok (.getfield 102, 3) := by decide +kernel
theorem d_PM_undo_48 : decode b_PM_undo 48 = .ok (.imul, 1) := by decide +kernel
theorem d_PM_undo_49 : decode b_PM_undo 49 = .ok (.iload_n 1, 1) := by decide +kernel
theorem d_PM_undo_50 : decode b_PM_undo 50 = .ok (.iadd, 1) := by decide +kernel
theorem d_PM_undo_51 : decode b_PM_undo 51 = .ok (.iaload, 1) := by decide +kernel
theorem d_PM_undo_52 : decode b_PM_undo 52 = .ok (.iastore, 1) := by decide +kernel
theorem d_PM_undo_53 : decode b_PM_undo 53 = .ok (.iinc 1 1, 3) := by decide +kernel
theorem d_PM_undo_56 : decode b_PM_undo 56 = .ok (.goto (-29), 3) := by decide +kernel
theorem d_PM_undo_59 : decode b_PM_undo 59 = .ok (.aload_n 0, 1) := by decide +kernel
theorem d_PM_undo_60 : decode b_PM_undo 60 = .ok (.getfield 102, 3) := by decide +kernel
theorem d_PM_undo_63 : decode b_PM_undo 63 = .ok (.ireturn, 1) := by decide +kernel
theorem d_PM_unsee_0 : decode b_PM_unsee 0 = .ok (.aload_n 0, 1) := by decide +kernel
theorem d_PM_unsee_1 : decode b_PM_unsee 1 = .ok (.iconst 0, 1) := by decide +kernel
theorem d_PM_unsee_2 : decode b_PM_unsee 2 = .ok (.putfield 59, 3) := by decide +kernel
theorem d_PM_unsee_5 : decode b_PM_unsee 5 = .ok (.aload_n 0, 1) := by decide +kernel
theorem d_PM_unsee_6 : decode b_PM_unsee 6 = .ok (.getfield 124, 3) := by decide +kernel
theorem d_PM_unsee_9 : decode b_PM_unsee 9 = .ok (.istore_n 1, 1) := by decide +kernel
theorem d_PM_unsee_10 : decode b_PM_unsee 10 = .ok (.aload_n 0, 1) := by decide +kernel
theorem d_PM_unsee_11 : decode b_PM_unsee 11 = .ok (.iconst 0, 1) := by decide +kernel
theorem d_PM_unsee_12 : decode b_PM_unsee 12 = .ok (.putfield 124, 3) := by decide +kernel
theorem d_PM_unsee_15 : decode b_PM_unsee 15 = .ok (.iload_n 1, 1) := by decide +kernel
theorem d_PM_unsee_16 : decode b_PM_unsee 16 = .ok (.ireturn, 1) := by decide +kernel
theorem d_PM_waitsOf_0 : decode b_PM_waitsOf 0 = .ok (.iconst 0, 1) := by decide +kernel
theorem d_PM_waitsOf_1 : decode b_PM_waitsOf 1 = .ok (.istore_n 1, 1) := by decide +kernel
theorem d_PM_waitsOf_2 : decode b_PM_waitsOf 2 = .ok (.iconst 0, 1) := by decide +kernel
theorem d_PM_waitsOf_3 : decode b_PM_waitsOf 3 = .ok (.istore_n 2, 1) := by decide +kernel
theorem d_PM_waitsOf_4 : decode b_PM_waitsOf 4 = .ok (.iload_n 2, 1) := by decide +kernel
theorem d_PM_waitsOf_5 : decode b_PM_waitsOf 5 = .ok (.iconst 5, 1) := by decide +kernel
theorem d_PM_waitsOf_6 : decode b_PM_waitsOf 6 = .ok (.if_icmp .ge 30, 3) := by decide +kernel
theorem d_PM_waitsOf_9 : decode b_PM_waitsOf 9 = .ok (.iload_n 1, 1) := by decide +kernel
theorem d_PM_waitsOf_10 : decode b_PM_waitsOf 10 = .ok (.aload_n 0, 1) := by decide +kernel
theorem d_PM_waitsOf_11 : decode b_PM_waitsOf 11 = .ok (.bipush 10, 2) := by decide +kernel
theorem d_PM_waitsOf_13 : decode b_PM_waitsOf 13 = .ok (.iload_n 2, 1) := by decide +kernel
theorem d_PM_waitsOf_14 : decode b_PM_waitsOf 14 = .ok (.iadd, 1) := by decide +kernel
theorem d_PM_waitsOf_15 : decode b_PM_waitsOf 15 = .ok (.iaload, 1) := by decide +kernel
theorem d_PM_waitsOf_16 : decode b_PM_waitsOf 16 = .ok (.bipush (-9), 2) := by decide +kernel
theorem d_PM_waitsOf_18 : decode b_PM_waitsOf 18 = .ok (.if_icmp .ne 7, 3) := by decide +kernel
theorem d_PM_waitsOf_21 : decode b_PM_waitsOf 21 = .ok (.iconst 0, 1) := by decide +kernel
theorem d_PM_waitsOf_22 : decode b_PM_waitsOf 22 = .ok (.goto 6, 3) := by decide +kernel
theorem d_PM_waitsOf_25 : decode b_PM_waitsOf 25 = .ok (.iconst 1, 1) := by decide +kernel
theorem d_PM_waitsOf_26 : decode b_PM_waitsOf 26 = .ok (.iload_n 2, 1) := by decide +kernel
theorem d_PM_waitsOf_27 : decode b_PM_waitsOf 27 = .ok (.ishl, 1) := by decide +kernel
theorem d_PM_waitsOf_28 : decode b_PM_waitsOf 28 = .ok (.ior, 1) := by decide +kernel
theorem d_PM_waitsOf_29 : decode b_PM_waitsOf 29 = .ok (.istore_n 1, 1) := by decide +kernel
theorem d_PM_waitsOf_30 : decode b_PM_waitsOf 30 = .ok (.iinc 2 1, 3) := by decide +kernel
theorem d_PM_waitsOf_33 : decode b_PM_waitsOf 33 = .ok (.goto (-29), 3) := by decide +kernel
theorem d_PM_waitsOf_36 : decode b_PM_waitsOf 36 = .ok (.iload_n 1, 1) := by decide +kernel
theorem d_PM_waitsOf_37 : decode b_PM_waitsOf 37 = .ok (.ireturn, 1) := by decide +kernel
theorem d_PM_ways_0 : decode b_PM_ways 0 = .ok (.iconst 1, 1) := by decide +kernel
theorem d_PM_ways_1 : decode b_PM_ways 1 = .ok (.istore_n 1, 1) := by decide +kernel
theorem d_PM_ways_2 : decode b_PM_ways 2 = .ok (.iconst 2, 1) := by decide +kernel
theorem d_PM_ways_3 : decode b_PM_ways 3 = .ok (.istore_n 2, 1) := by decide +kernel
theorem d_PM_ways_4 : decode b_PM_ways 4 = .ok (.iload_n 2, 1) := by decide +kernel
theorem d_PM_ways_5 : decode b_PM_ways 5 = .ok (.iload_n 0, 1) := by decide +kernel
theorem d_PM_ways_6 : decode b_PM_ways 6 = .ok (.if_icmp .gt 13, 3) := by decide +kernel
theorem d_PM_ways_9 : decode b_PM_ways 9 = .ok (.iload_n 1, 1) := by decide +kernel
theorem d_PM_ways_10 : decode b_PM_ways 10 = .ok (.iload_n 2, 1) := by decide +kernel
theorem d_PM_ways_11 : decode b_PM_ways 11 = .ok (.imul, 1) := by decide +kernel
theorem d_PM_ways_12 : decode b_PM_ways 12 = .ok (.istore_n 1, 1) := by decide +kernel
theorem d_PM_ways_13 : decode b_PM_ways 13 = .ok (.iinc 2 1, 3) := by decide +kernel
theorem d_PM_ways_16 : decode b_PM_ways 16 = .ok (.goto (-12), 3) := by decide +kernel
theorem d_PM_ways_19 : decode b_PM_ways 19 = .ok (.iload_n 1, 1) := by decide +kernel
theorem d_PM_ways_20 : decode b_PM_ways 20 = .ok (.ireturn, 1) := by decide +kernel
theorem d_PM_wet_0 : decode b_PM_wet 0 = .ok (.aload_n 0, 1) := by decide +kernel
theorem d_PM_wet_1 : decode b_PM_wet 1 = .ok (.iconst 0, 1) := by decide +kernel
theorem d_PM_wet_2 : decode b_PM_wet 2 = .ok (.putfield 59, 3) := by decide +kernel
theorem d_PM_wet_5 : decode b_PM_wet 5 = .ok (.iload_n 1, 1) := by decide +kernel
theorem d_PM_wet_6 : decode b_PM_wet 6 = .ok (.i2l, 1) := by decide +kernel
theorem d_PM_wet_7 : decode b_PM_wet 7 = .ok (.lconst 0, 1) := by decide +kernel
theorem d_PM_wet_8 : decode b_PM_wet 8 = .ok (.ldc2_w 136, 3) := by decide +kernel
theorem d_PM_wet_11 : decode b_PM_wet 11 = .ok (.invokestatic 66, 3) := by decide +kernel
theorem d_PM_wet_14 : decode b_PM_wet 14 = .ok (.ifCond .eq 15, 3) := by decide +kernel
theorem d_PM_wet_17 : decode b_PM_wet 17 = .ok (.iload_n 2, 1) := by decide +kernel
theorem d_PM_wet_18 : decode b_PM_wet 18 = .ok (.i2l, 1) := by decide +kernel
theorem d_PM_wet_19 : decode b_PM_wet 19 = .ok (.lconst 0, 1) := by decide +kernel
theorem d_PM_wet_20 : decode b_PM_wet 20 = .ok (.ldc2_w 98, 3) := by decide +kernel
theorem d_PM_wet_23 : decode b_PM_wet 23 = .ok (.invokestatic 66, 3) := by decide +kernel
theorem d_PM_wet_26 : decode b_PM_wet 26 = .ok (.ifCond .ne 6, 3) := by decide +kernel
theorem d_PM_wet_29 : decode b_PM_wet 29 = .ok (.bipush (-2), 2) := by decide +kernel
theorem d_PM_wet_31 : decode b_PM_wet 31 = .ok (.ireturn, 1) := by decide +kernel
theorem d_PM_wet_32 : decode b_PM_wet 32 = .ok (.aload_n 0, 1) := by decide +kernel
theorem d_PM_wet_33 : decode b_PM_wet 33 = .ok (.aload_n 0, 1) := by decide +kernel
theorem d_PM_wet_34 : decode b_PM_wet 34 = .ok (.getfield 25, 3) := by decide +kernel
theorem d_PM_wet_37 : decode b_PM_wet 37 = .ok (.invokevirtual 112, 3) := by decide +kernel
theorem d_PM_wet_40 : decode b_PM_wet 40 = .ok (.aload_n 0, 1) := by decide +kernel
theorem d_PM_wet_41 : decode b_PM_wet 41 = .ok (.bipush 15, 2) := by decide +kernel
theorem d_PM_wet_43 : decode b_PM_wet 43 = .ok (.invokevirtual 120, 3) := by decide +kernel
theorem d_PM_wet_46 : decode b_PM_wet 46 = .ok (.invokestatic 162, 3) := by decide +kernel
theorem d_PM_wet_49 : decode b_PM_wet 49 = .ok (.istore 4, 2) := by decide +kernel
theorem d_PM_wet_51 : decode b_PM_wet 51 = .ok (.iconst 0, 1) := by decide +kernel
theorem d_PM_wet_52 : decode b_PM_wet 52 = .ok (.istore 5, 2) := by decide +kernel
theorem d_PM_wet_54 : decode b_PM_wet 54 = .ok (.iconst 0, 1) := by decide +kernel
theorem d_PM_wet_55 : decode b_PM_wet 55 = .ok (.istore 6, 2) := by decide +kernel
theorem d_PM_wet_57 : decode b_PM_wet 57 = .ok (.iload 6, 2) := by decide +kernel
theorem d_PM_wet_59 : decode b_PM_wet 59 = .ok (.iconst 1, 1) := by decide +kernel
theorem d_PM_wet_60 : decode b_PM_wet 60 = .ok (.iload 4, 2) := by decide +kernel
theorem d_PM_wet_62 : decode b_PM_wet 62 = .ok (.ishl, 1) := by decide +kernel
theorem d_PM_wet_63 : decode b_PM_wet 63 = .ok (.if_icmp .ge 50, 3) := by decide +kernel
theorem d_PM_wet_66 : decode b_PM_wet 66 = .ok (.iload 6, 2) := by decide +kernel
theorem d_PM_wet_68 : decode b_PM_wet 68 = .ok (.invokestatic 162, 3) := by decide +kernel
theorem d_PM_wet_71 : decode b_PM_wet 71 = .ok (.istore 7, 2) := by decide +kernel
theorem d_PM_wet_73 : decode b_PM_wet 73 = .ok (.iload 5, 2) := by decide +kernel
theorem d_PM_wet_75 : decode b_PM_wet 75 = .ok (.iload 7, 2) := by decide +kernel
theorem d_PM_wet_77 : decode b_PM_wet 77 = .ok (.iload_n 1, 1) := by decide +kernel
theorem d_PM_wet_78 : decode b_PM_wet 78 = .ok (.if_icmp .lt 25, 3) := by decide +kernel
theorem d_PM_wet_81 : decode b_PM_wet 81 = .ok (.iload_n 2, 1) := by decide +kernel
theorem d_PM_wet_82 : decode b_PM_wet 82 = .ok (.iload 7, 2) := by decide +kernel
theorem d_PM_wet_84 : decode b_PM_wet 84 = .ok (.invokestatic 150, 3) := by decide +kernel
theorem d_PM_wet_87 : decode b_PM_wet 87 = .ok (.bipush 10, 2) := by decide +kernel
theorem d_PM_wet_89 : decode b_PM_wet 89 = .ok (.iload_n 2, 1) := by decide +kernel
theorem d_PM_wet_90 : decode b_PM_wet 90 = .ok (.isub, 1) := by decide +kernel
theorem d_PM_wet_91 : decode b_PM_wet 91 = .ok (.iload 4, 2) := by decide +kernel
theorem d_PM_wet_93 : decode b_PM_wet 93 = .ok (.iload 7, 2) := by decide +kernel
theorem d_PM_wet_95 : decode b_PM_wet 95 = .ok (.isub, 1) := by decide +kernel
theorem d_PM_wet_96 : decode b_PM_wet 96 = .ok (.invokestatic 150, 3) := by decide +kernel
theorem d_PM_wet_99 : decode b_PM_wet 99 = .ok (.imul, 1) := by decide +kernel
theorem d_PM_wet_100 : decode b_PM_wet 100 = .ok (.goto 4, 3) := by decide +kernel
theorem d_PM_wet_103 : decode b_PM_wet 103 = .ok (.iconst 0, 1) := by decide +kernel
theorem d_PM_wet_104 : decode b_PM_wet 104 = .ok (.iadd, 1) := by decide +kernel
theorem d_PM_wet_105 : decode b_PM_wet 105 = .ok (.istore 5, 2) := by decide +kernel
theorem d_PM_wet_107 : decode b_PM_wet 107 = .ok (.iinc 6 1, 3) := by decide +kernel
theorem d_PM_wet_110 : decode b_PM_wet 110 = .ok (.goto (-53), 3) := by decide +kernel
theorem d_PM_wet_113 : decode b_PM_wet 113 = .ok (.iload 5, 2) := by decide +kernel
theorem d_PM_wet_115 : decode b_PM_wet 115 = .ok (.bipush 10, 2) := by decide +kernel
theorem d_PM_wet_117 : decode b_PM_wet 117 = .ok (.iload 4, 2) := by decide +kernel
theorem d_PM_wet_119 : decode b_PM_wet 119 = .ok (.invokestatic 150, 3) := by decide +kernel
theorem d_PM_wet_122 : decode b_PM_wet 122 = .ok (.iload_n 3, 1) := by decide +kernel
theorem d_PM_wet_123 : decode b_PM_wet 123 = .ok (.invokestatic 197, 3) := by decide +kernel
theorem d_PM_wet_126 : decode b_PM_wet 126 = .ok (.ireturn, 1) := by decide +kernel

theorem d_Shelf_forgetFirst_0 : decode b_Shelf_forgetFirst 0 = .ok (.aload_n 0, 1) := by decide +kernel
theorem d_Shelf_forgetFirst_1 : decode b_Shelf_forgetFirst 1 = .ok (.getfield 15, 3) := by decide +kernel
theorem d_Shelf_forgetFirst_4 : decode b_Shelf_forgetFirst 4 = .ok (.ifCond .le 26, 3) := by decide +kernel
theorem d_Shelf_forgetFirst_7 : decode b_Shelf_forgetFirst 7 = .ok (.aload_n 0, 1) := by decide +kernel
theorem d_Shelf_forgetFirst_8 : decode b_Shelf_forgetFirst 8 = .ok (.getfield 23, 3) := by decide +kernel
theorem d_Shelf_forgetFirst_11 : decode b_Shelf_forgetFirst 11 = .ok (.bipush 10, 2) := by decide +kernel
theorem d_Shelf_forgetFirst_13 : decode b_Shelf_forgetFirst 13 = .ok (.aload_n 0, 1) := by decide +kernel
theorem d_Shelf_forgetFirst_14 : decode b_Shelf_forgetFirst 14 = .ok (.getfield 23, 3) := by decide +kernel
theorem d_Shelf_forgetFirst_17 : decode b_Shelf_forgetFirst 17 = .ok (.iconst 0, 1) := by decide +kernel
theorem d_Shelf_forgetFirst_18 : decode b_Shelf_forgetFirst 18 = .ok (.aload_n 0, 1) := by decide +kernel
theorem d_Shelf_forgetFirst_19 : decode b_Shelf_forgetFirst 19 = .ok (.getfield 15, 3) := by decide +kernel
theorem d_Shelf_forgetFirst_22 : decode b_Shelf_forgetFirst 22 = .ok (.iconst 1, 1) := by decide +kernel
theorem d_Shelf_forgetFirst_23 : decode b_Shelf_forgetFirst 23 = .ok (.isub, 1) := by decide +kernel
theorem d_Shelf_forgetFirst_24 : decode b_Shelf_forgetFirst 24 = .ok (.bipush 10, 2) := by decide +kernel
theorem d_Shelf_forgetFirst_26 : decode b_Shelf_forgetFirst 26 = .ok (.imul, 1) := by decide +kernel
theorem d_Shelf_forgetFirst_27 : decode b_Shelf_forgetFirst 27 = .ok (.invokestatic 30, 3) := by decide +kernel
theorem d_Shelf_forgetFirst_30 : decode b_Shelf_forgetFirst 30 = .ok (.return_, 1) := by decide +kernel
theorem d_Shelf_put_0 : decode b_Shelf_put 0 = .ok (.iload_n 1, 1) := by decide +kernel
theorem d_Shelf_put_1 : decode b_Shelf_put 1 = .ok (.ifCond .lt 11, 3) := by decide +kernel
theorem d_Shelf_put_4 : decode b_Shelf_put 4 = .ok (.iload_n 1, 1) := by decide +kernel
theorem d_Shelf_put_5 : decode b_Shelf_put 5 = .ok (.aload_n 0, 1) := by decide +kernel
theorem d_Shelf_put_6 : decode b_Shelf_put 6 = .ok (.getfield 15, 3) := by decide +kernel
theorem d_Shelf_put_9 : decode b_Shelf_put 9 = .ok (.if_icmp .lt 4, 3) := by decide +kernel
theorem d_Shelf_put_12 : decode b_Shelf_put 12 = .ok (.return_, 1) := by decide +kernel
theorem d_Shelf_put_13 : decode b_Shelf_put 13 = .ok (.iload_n 1, 1) := by decide +kernel
theorem d_Shelf_put_14 : decode b_Shelf_put 14 = .ok (.bipush 10, 2) := by decide +kernel
theorem d_Shelf_put_16 : decode b_Shelf_put 16 = .ok (.imul, 1) := by decide +kernel
theorem d_Shelf_put_17 : decode b_Shelf_put 17 = .ok (.istore_n 3, 1) := by decide +kernel
theorem d_Shelf_put_18 : decode b_Shelf_put 18 = .ok (.aload_n 2, 1) := by decide +kernel
theorem d_Shelf_put_19 : decode b_Shelf_put 19 = .ok (.getfield 27, 3) := by decide +kernel
theorem d_Shelf_put_22 : decode b_Shelf_put 22 = .ok (.iconst 0, 1) := by decide +kernel
theorem d_Shelf_put_23 : decode b_Shelf_put 23 = .ok (.aload_n 0, 1) := by decide +kernel
theorem d_Shelf_put_24 : decode b_Shelf_put 24 = .ok (.getfield 23, 3) := by decide +kernel
theorem d_Shelf_put_27 : decode b_Shelf_put 27 = .ok (.iload_n 3, 1) := by decide +kernel
theorem d_Shelf_put_28 : decode b_Shelf_put 28 = .ok (.iconst 4, 1) := by decide +kernel
theorem d_Shelf_put_29 : decode b_Shelf_put 29 = .ok (.invokestatic 30, 3) := by decide +kernel
theorem d_Shelf_put_32 : decode b_Shelf_put 32 = .ok (.aload_n 2, 1) := by decide +kernel
theorem d_Shelf_put_33 : decode b_Shelf_put 33 = .ok (.getfield 36, 3) := by decide +kernel
theorem d_Shelf_put_36 : decode b_Shelf_put 36 = .ok (.iconst 0, 1) := by decide +kernel
theorem d_Shelf_put_37 : decode b_Shelf_put 37 = .ok (.aload_n 0, 1) := by decide +kernel
theorem d_Shelf_put_38 : decode b_Shelf_put 38 = .ok (.getfield 23, 3) := by decide +kernel
theorem d_Shelf_put_41 : decode b_Shelf_put 41 = .ok (.iload_n 3, 1) := by decide +kernel
theorem d_Shelf_put_42 : decode b_Shelf_put 42 = .ok (.iconst 4, 1) := by decide +kernel
theorem d_Shelf_put_43 : decode b_Shelf_put 43 = .ok (.iadd, 1) := by decide +kernel
theorem d_Shelf_put_44 : decode b_Shelf_put 44 = .ok (.iconst 5, 1) := by decide +kernel
theorem d_Shelf_put_45 : decode b_Shelf_put 45 = .ok (.invokestatic 30, 3) := by decide +kernel
theorem d_Shelf_put_48 : decode b_Shelf_put 48 = .ok (.aload_n 0, 1) := by decide +kernel
theorem d_Shelf_put_49 : decode b_Shelf_put 49 = .ok (.getfield 23, 3) := by decide +kernel
theorem d_Shelf_put_52 : decode b_Shelf_put 52 = .ok (.iload_n 3, 1) := by decide +kernel
theorem d_Shelf_put_53 : decode b_Shelf_put 53 = .ok (.iconst 4, 1) := by decide +kernel
theorem d_Shelf_put_54 : decode b_Shelf_put 54 = .ok (.iadd, 1) := by decide +kernel
theorem d_Shelf_put_55 : decode b_Shelf_put 55 = .ok (.iconst 5, 1) := by decide +kernel
theorem d_Shelf_put_56 : decode b_Shelf_put 56 = .ok (.iadd, 1) := by decide +kernel
theorem d_Shelf_put_57 : decode b_Shelf_put 57 = .ok (.aload_n 2, 1) := by decide +kernel
theorem d_Shelf_put_58 : decode b_Shelf_put 58 = .ok (.getfield 39, 3) := by decide +kernel
theorem d_Shelf_put_61 : decode b_Shelf_put 61 = .ok (.iastore, 1) := by decide +kernel
theorem d_Shelf_put_62 : decode b_Shelf_put 62 = .ok (.return_, 1) := by decide +kernel
theorem d_Shelf_take_0 : decode b_Shelf_take 0 = .ok (.iload_n 1, 1) := by decide +kernel
theorem d_Shelf_take_1 : decode b_Shelf_take 1 = .ok (.ifCond .lt 11, 3) := by decide +kernel
theorem d_Shelf_take_4 : decode b_Shelf_take 4 = .ok (.iload_n 1, 1) := by decide +kernel
theorem d_Shelf_take_5 : decode b_Shelf_take 5 = .ok (.aload_n 0, 1) := by decide +kernel
theorem d_Shelf_take_6 : decode b_Shelf_take 6 = .ok (.getfield 15, 3) := by decide +kernel
theorem d_Shelf_take_9 : decode b_Shelf_take 9 = .ok (.if_icmp .lt 4, 3) := by decide +kernel
theorem d_Shelf_take_12 : decode b_Shelf_take 12 = .ok (.return_, 1) := by decide +kernel
theorem d_Shelf_take_13 : decode b_Shelf_take 13 = .ok (.iload_n 1, 1) := by decide +kernel
theorem d_Shelf_take_14 : decode b_Shelf_take 14 = .ok (.bipush 10, 2) := by decide +kernel
theorem d_Shelf_take_16 : decode b_Shelf_take 16 = .ok (.imul, 1) := by decide +kernel
theorem d_Shelf_take_17 : decode b_Shelf_take 17 = .ok (.istore_n 3, 1) := by decide +kernel
theorem d_Shelf_take_18 : decode b_Shelf_take 18 = .ok (.aload_n 0, 1) := by decide +kernel
theorem d_Shelf_take_19 : decode b_Shelf_take 19 = .ok (.getfield 23, 3) := by decide +kernel
theorem d_Shelf_take_22 : decode b_Shelf_take 22 = .ok (.iload_n 3, 1) := by decide +kernel
theorem d_Shelf_take_23 : decode b_Shelf_take 23 = .ok (.aload_n 2, 1) := by decide +kernel
theorem d_Shelf_take_24 : decode b_Shelf_take 24 = .ok (.getfield 27, 3) := by decide +kernel
theorem d_Shelf_take_27 : decode b_Shelf_take 27 = .ok (.iconst 0, 1) := by decide +kernel
theorem d_Shelf_take_28 : decode b_Shelf_take 28 = .ok (.iconst 4, 1) := by decide +kernel
theorem d_Shelf_take_29 : decode b_Shelf_take 29 = .ok (.invokestatic 30, 3) := by decide +kernel
theorem d_Shelf_take_32 : decode b_Shelf_take 32 = .ok (.aload_n 0, 1) := by decide +kernel
theorem d_Shelf_take_33 : decode b_Shelf_take 33 = .ok (.getfield 23, 3) := by decide +kernel
theorem d_Shelf_take_36 : decode b_Shelf_take 36 = .ok (.iload_n 3, 1) := by decide +kernel
theorem d_Shelf_take_37 : decode b_Shelf_take 37 = .ok (.iconst 4, 1) := by decide +kernel
theorem d_Shelf_take_38 : decode b_Shelf_take 38 = .ok (.iadd, 1) := by decide +kernel
theorem d_Shelf_take_39 : decode b_Shelf_take 39 = .ok (.aload_n 2, 1) := by decide +kernel
theorem d_Shelf_take_40 : decode b_Shelf_take 40 = .ok (.getfield 36, 3) := by decide +kernel
theorem d_Shelf_take_43 : decode b_Shelf_take 43 = .ok (.iconst 0, 1) := by decide +kernel
theorem d_Shelf_take_44 : decode b_Shelf_take 44 = .ok (.iconst 5, 1) := by decide +kernel
theorem d_Shelf_take_45 : decode b_Shelf_take 45 = .ok (.invokestatic 30, 3) := by decide +kernel
theorem d_Shelf_take_48 : decode b_Shelf_take 48 = .ok (.aload_n 2, 1) := by decide +kernel
theorem d_Shelf_take_49 : decode b_Shelf_take 49 = .ok (.aload_n 0, 1) := by decide +kernel
theorem d_Shelf_take_50 : decode b_Shelf_take 50 = .ok (.getfield 23, 3) := by decide +kernel
theorem d_Shelf_take_53 : decode b_Shelf_take 53 = .ok (.iload_n 3, 1) := by decide +kernel
theorem d_Shelf_take_54 : decode b_Shelf_take 54 = .ok (.iconst 4, 1) := by decide +kernel
theorem d_Shelf_take_55 : decode b_Shelf_take 55 = .ok (.iadd, 1) := by decide +kernel
theorem d_Shelf_take_56 : decode b_Shelf_take 56 = .ok (.iconst 5, 1) := by decide +kernel
theorem d_Shelf_take_57 : decode b_Shelf_take 57 = .ok (.iadd, 1) := by decide +kernel
theorem d_Shelf_take_58 : decode b_Shelf_take 58 = .ok (.iaload, 1) := by decide +kernel
theorem d_Shelf_take_59 : decode b_Shelf_take 59 = .ok (.putfield 39, 3) := by decide +kernel
theorem d_Shelf_take_62 : decode b_Shelf_take 62 = .ok (.return_, 1) := by decide +kernel
theorem d_Text_init_0 : decode b_Text_init 0 = .ok (.aload_n 0, 1) := by decide +kernel
theorem d_Text_init_1 : decode b_Text_init 1 = .ok (.invokespecial 3, 3) := by decide +kernel
theorem d_Text_init_4 : decode b_Text_init 4 = .ok (.aload_n 0, 1) := by decide +kernel
theorem d_Text_init_5 : decode b_Text_init 5 = .ok (.bipush 48, 2) := by decide +kernel
theorem d_Text_init_7 : decode b_Text_init 7 = .ok (.newarray .int, 2) := by decide +kernel
theorem d_Text_init_9 : decode b_Text_init 9 = .ok (.putfield 9, 3) := by decide +kernel
theorem d_Text_init_12 : decode b_Text_init 12 = .ok (.aload_n 0, 1) := by decide +kernel
theorem d_Text_init_13 : decode b_Text_init 13 = .ok (.iconst 0, 1) := by decide +kernel
theorem d_Text_init_14 : decode b_Text_init 14 = .ok (.putfield 15, 3) := by decide +kernel
theorem d_Text_init_17 : decode b_Text_init 17 = .ok (.return_, 1) := by decide +kernel
theorem d_Text_append_0 : decode b_Text_append 0 = .ok (.aload_n 0, 1) := by decide +kernel
theorem d_Text_append_1 : decode b_Text_append 1 = .ok (.getfield 15, 3) := by decide +kernel
theorem d_Text_append_4 : decode b_Text_append 4 = .ok (.bipush 48, 2) := by decide +kernel
theorem d_Text_append_6 : decode b_Text_append 6 = .ok (.if_icmp .lt 5, 3) := by decide +kernel
theorem d_Text_append_9 : decode b_Text_append 9 = .ok (.iconst 0, 1) := by decide +kernel
theorem d_Text_append_10 : decode b_Text_append 10 = .ok (.ireturn, 1) := by decide +kernel
theorem d_Text_append_11 : decode b_Text_append 11 = .ok (.aload_n 0, 1) := by decide +kernel
theorem d_Text_append_12 : decode b_Text_append 12 = .ok (.getfield 9, 3) := by decide +kernel
theorem d_Text_append_15 : decode b_Text_append 15 = .ok (.aload_n 0, 1) := by decide +kernel
theorem d_Text_append_16 : decode b_Text_append 16 = .ok (.getfield 15, 3) := by decide +kernel
theorem d_Text_append_19 : decode b_Text_append 19 = .ok (.iload_n 1, 1) := by decide +kernel
theorem d_Text_append_20 : decode b_Text_append 20 = .ok (.iastore, 1) := by decide +kernel
theorem d_Text_append_21 : decode b_Text_append 21 = .ok (.aload_n 0, 1) := by decide +kernel
theorem d_Text_append_22 : decode b_Text_append 22 = .ok (.dup, 1) := by decide +kernel
theorem d_Text_append_23 : decode b_Text_append 23 = .ok (.getfield 15, 3) := by decide +kernel
theorem d_Text_append_26 : decode b_Text_append 26 = .ok (.iconst 1, 1) := by decide +kernel
theorem d_Text_append_27 : decode b_Text_append 27 = .ok (.iadd, 1) := by decide +kernel
theorem d_Text_append_28 : decode b_Text_append 28 = .ok (.putfield 15, 3) := by decide +kernel
theorem d_Text_append_31 : decode b_Text_append 31 = .ok (.iconst 1, 1) := by decide +kernel
theorem d_Text_append_32 : decode b_Text_append 32 = .ok (.ireturn, 1) := by decide +kernel
theorem d_Text_figure_0 : decode b_Text_figure 0 = .ok (.iload_n 1, 1) := by decide +kernel
theorem d_Text_figure_1 : decode b_Text_figure 1 = .ok (.ifCond .lt 11, 3) := by decide +kernel
theorem d_Text_figure_4 : decode b_Text_figure 4 = .ok (.iload_n 1, 1) := by decide +kernel
theorem d_Text_figure_5 : decode b_Text_figure 5 = .ok (.aload_n 0, 1) := by decide +kernel
theorem d_Text_figure_6 : decode b_Text_figure 6 = .ok (.getfield 15, 3) := by decide +kernel
theorem d_Text_figure_9 : decode b_Text_figure 9 = .ok (.if_icmp .lt 7, 3) := by decide +kernel
theorem d_Text_figure_12 : decode b_Text_figure 12 = .ok (.iconst 0, 1) := by decide +kernel
theorem d_Text_figure_13 : decode b_Text_figure 13 = .ok (.goto 12, 3) := by decide +kernel
theorem d_Text_figure_16 : decode b_Text_figure 16 = .ok (.aload_n 0, 1) := by decide +kernel
theorem d_Text_figure_17 : decode b_Text_figure 17 = .ok (.getfield 9, 3) := by decide +kernel
theorem d_Text_figure_20 : decode b_Text_figure 20 = .ok (.iload_n 1, 1) := by decide +kernel
theorem d_Text_figure_21 : decode b_Text_figure 21 = .ok (.iaload, 1) := by decide +kernel
theorem d_Text_figure_22 : decode b_Text_figure 22 = .ok (.bipush 48, 2) := by decide +kernel
theorem d_Text_figure_24 : decode b_Text_figure 24 = .ok (.isub, 1) := by decide +kernel
theorem d_Text_figure_25 : decode b_Text_figure 25 = .ok (.ireturn, 1) := by decide +kernel
theorem d_Text_firstFault_0 : decode b_Text_firstFault 0 = .ok (.iconst 0, 1) := by decide +kernel
theorem d_Text_firstFault_1 : decode b_Text_firstFault 1 = .ok (.istore_n 1, 1) := by decide +kernel
theorem d_Text_firstFault_2 : decode b_Text_firstFault 2 = .ok (.iload_n 1, 1) := by decide +kernel
theorem d_Text_firstFault_3 : decode b_Text_firstFault 3 = .ok (.aload_n 0, 1) := by decide +kernel
theorem d_Text_firstFault_4 : decode b_Text_firstFault 4 = .ok (.getfield 15, 3) := by decide +kernel
theorem d_Text_firstFault_7 : decode b_Text_firstFault 7 = .ok (.if_icmp .ge 24, 3) := by decide +kernel
theorem d_Text_firstFault_10 : decode b_Text_firstFault 10 = .ok (.iload_n 1, 1) := by decide +kernel
theorem d_Text_firstFault_11 : decode b_Text_firstFault 11 = .ok (.aload_n 0, 1) := by decide +kernel
theorem d_Text_firstFault_12 : decode b_Text_firstFault 12 = .ok (.getfield 9, 3) := by decide +kernel
theorem d_Text_firstFault_15 : decode b_Text_firstFault 15 = .ok (.iload_n 1, 1) := by decide +kernel
theorem d_Text_firstFault_16 : decode b_Text_firstFault 16 = .ok (.iaload, 1) := by decide +kernel
theorem d_Text_firstFault_17 : decode b_Text_firstFault 17 = .ok (.invokestatic 19, 3) := by decide +kernel
theorem d_Text_firstFault_20 : decode b_Text_firstFault 20 = .ok (.ifCond .ne 5, 3) := by decide +kernel
theorem d_Text_firstFault_23 : decode b_Text_firstFault 23 = .ok (.iload_n 1, 1) := by decide +kernel
theorem d_Text_firstFault_24 : decode b_Text_firstFault 24 = .ok (.ireturn, 1) := by decide +kernel
theorem d_Text_firstFault_25 : decode b_Text_firstFault 25 = .ok (.iinc 1 1, 3) := by decide +kernel
theorem d_Text_firstFault_28 : decode b_Text_firstFault 28 = .ok (.goto (-26), 3) := by decide +kernel
theorem d_Text_firstFault_31 : decode b_Text_firstFault 31 = .ok (.aload_n 0, 1) := by decide +kernel
theorem d_Text_firstFault_32 : decode b_Text_firstFault 32 = .ok (.getfield 15, 3) := by decide +kernel
theorem d_Text_firstFault_35 : decode b_Text_firstFault 35 = .ok (.bipush 13, 2) := by decide +kernel
theorem d_Text_firstFault_37 : decode b_Text_firstFault 37 = .ok (.if_icmp .lt 20, 3) := by decide +kernel
theorem d_Text_firstFault_40 : decode b_Text_firstFault 40 = .ok (.aload_n 0, 1) := by decide +kernel
theorem d_Text_firstFault_41 : decode b_Text_firstFault 41 = .ok (.getfield 15, 3) := by decide +kernel
theorem d_Text_firstFault_44 : decode b_Text_firstFault 44 = .ok (.bipush 13, 2) := by decide +kernel
theorem d_Text_firstFault_46 : decode b_Text_firstFault 46 = .ok (.isub, 1) := by decide +kernel
theorem d_Text_firstFault_47 : decode b_Text_firstFault 47 = .ok (.bipush 7, 2) := by decide +kernel
theorem d_Text_firstFault_49 : decode b_Text_firstFault 49 = .ok (.irem, 1) := by decide +kernel
theorem d_Text_firstFault_50 : decode b_Text_firstFault 50 = .ok (.ifCond .ne 7, 3) := by decide +kernel
theorem d_Text_firstFault_53 : decode b_Text_firstFault 53 = .ok (.iconst 1, 1) := by decide +kernel
theorem d_Text_firstFault_54 : decode b_Text_firstFault 54 = .ok (.goto 4, 3) := by decide +kernel
theorem d_Text_firstFault_57 : decode b_Text_firstFault 57 = .ok (.iconst 0, 1) := by decide +kernel
theorem d_Text_firstFault_58 : decode b_Text_firstFault 58 = .ok (.istore_n 1, 1) := by decide +kernel
theorem d_Text_firstFault_59 : decode b_Text_firstFault 59 = .ok (.iload_n 1, 1) := by decide +kernel
theorem d_Text_firstFault_60 : decode b_Text_firstFault 60 = .ok (.ifCond .eq 8, 3) := by decide +kernel
theorem d_Text_firstFault_63 : decode b_Text_firstFault 63 = .ok (.bipush (-9), 2) := by decide +kernel
theorem d_Text_firstFault_65 : decode b_Text_firstFault 65 = .ok (.goto 7, 3) := by decide +kernel
theorem d_Text_firstFault_68 : decode b_Text_firstFault 68 = .ok (.aload_n 0, 1) := by decide +kernel
theorem d_Text_firstFault_69 : decode b_Text_firstFault 69 = .ok (.getfield 15, 3) := by decide +kernel
theorem d_Text_firstFault_72 : decode b_Text_firstFault 72 = .ok (.ireturn, 1) := by decide +kernel
theorem d_Text_fits_0 : decode b_Text_fits 0 = .ok (.iload_n 0, 1) := by decide +kernel
theorem d_Text_fits_1 : decode b_Text_fits 1 = .ok (.ifCond .ne 15, 3) := by decide +kernel
theorem d_Text_fits_4 : decode b_Text_fits 4 = .ok (.iload_n 1, 1) := by decide +kernel
theorem d_Text_fits_5 : decode b_Text_fits 5 = .ok (.bipush 80, 2) := by decide +kernel
theorem d_Text_fits_7 : decode b_Text_fits 7 = .ok (.if_icmp .ne 7, 3) := by decide +kernel
theorem d_Text_fits_10 : decode b_Text_fits 10 = .ok (.iconst 1, 1) := by decide +kernel
theorem d_Text_fits_11 : decode b_Text_fits 11 = .ok (.goto 4, 3) := by decide +kernel
theorem d_Text_fits_14 : decode b_Text_fits 14 = .ok (.iconst 0, 1) := by decide +kernel
theorem d_Text_fits_15 : decode b_Text_fits 15 = .ok (.ireturn, 1) := by decide +kernel
theorem d_Text_fits_16 : decode b_Text_fits 16 = .ok (.iload_n 0, 1) := by decide +kernel
theorem d_Text_fits_17 : decode b_Text_fits 17 = .ok (.bipush 13, 2) := by decide +kernel
theorem d_Text_fits_19 : decode b_Text_fits 19 = .ok (.if_icmp .ge 21, 3) := by decide +kernel
theorem d_Text_fits_22 : decode b_Text_fits 22 = .ok (.iload_n 1, 1) := by decide +kernel
theorem d_Text_fits_23 : decode b_Text_fits 23 = .ok (.bipush 48, 2) := by decide +kernel
theorem d_Text_fits_25 : decode b_Text_fits 25 = .ok (.if_icmp .lt 13, 3) := by decide +kernel
theorem d_Text_fits_28 : decode b_Text_fits 28 = .ok (.iload_n 1, 1) := by decide +kernel
theorem d_Text_fits_29 : decode b_Text_fits 29 = .ok (.bipush 50, 2) := by decide +kernel
theorem d_Text_fits_31 : decode b_Text_fits 31 = .ok (.if_icmp .gt 7, 3) := by decide +kernel
theorem d_Text_fits_34 : decode b_Text_fits 34 = .ok (.iconst 1, 1) := by decide +kernel
theorem d_Text_fits_35 : decode b_Text_fits 35 = .ok (.goto 4, 3) := by decide +kernel
theorem d_Text_fits_38 : decode b_Text_fits 38 = .ok (.iconst 0, 1) := by decide +kernel
theorem d_Text_fits_39 : decode b_Text_fits 39 = .ok (.ireturn, 1) := by decide +kernel
theorem d_Text_fits_40 : decode b_Text_fits 40 = .ok (.iload_n 0, 1) := by decide +kernel
theorem d_Text_fits_41 : decode b_Text_fits 41 = .ok (.bipush 13, 2) := by decide +kernel
theorem d_Text_fits_43 : decode b_Text_fits 43 = .ok (.isub, 1) := by decide +kernel
theorem d_Text_fits_44 : decode b_Text_fits 44 = .ok (.bipush 7, 2) := by decide +kernel
theorem d_Text_fits_46 : decode b_Text_fits 46 = .ok (.irem, 1) := by decide +kernel
theorem d_Text_fits_47 : decode b_Text_fits 47 = .ok (.lookupswitch 55 #[(0, 25), (2, 37)], 25) := by decide +kernel
theorem d_Text_fits_72 : decode b_Text_fits 72 = .ok (.iload_n 1, 1) := by decide +kernel
theorem d_Text_fits_73 : decode b_Text_fits 73 = .ok (.bipush 67, 2) := by decide +kernel
theorem d_Text_fits_75 : decode b_Text_fits 75 = .ok (.if_icmp .ne 7, 3) := by decide +kernel
theorem d_Text_fits_78 : decode b_Text_fits 78 = .ok (.iconst 1, 1) := by decide +kernel
theorem d_Text_fits_79 : decode b_Text_fits 79 = .ok (.goto 4, 3) := by decide +kernel
theorem d_Text_fits_82 : decode b_Text_fits 82 = .ok (.iconst 0, 1) := by decide +kernel
theorem d_Text_fits_83 : decode b_Text_fits 83 = .ok (.ireturn, 1) := by decide +kernel
theorem d_Text_fits_84 : decode b_Text_fits 84 = .ok (.iload_n 1, 1) := by decide +kernel
theorem d_Text_fits_85 : decode b_Text_fits 85 = .ok (.bipush 49, 2) := by decide +kernel
theorem d_Text_fits_87 : decode b_Text_fits 87 = .ok (.if_icmp .lt 13, 3) := by decide +kernel
theorem d_Text_fits_90 : decode b_Text_fits 90 = .ok (.iload_n 1, 1) := by decide +kernel
theorem d_Text_fits_91 : decode b_Text_fits 91 = .ok (.bipush 57, 2) := by decide +kernel
theorem d_Text_fits_93 : decode b_Text_fits 93 = .ok (.if_icmp .gt 7, 3) := by decide +kernel
theorem d_Text_fits_96 : decode b_Text_fits 96 = .ok (.iconst 1, 1) := by decide +kernel
theorem d_Text_fits_97 : decode b_Text_fits 97 = .ok (.goto 4, 3) := by decide +kernel
theorem d_Text_fits_100 : decode b_Text_fits 100 = .ok (.iconst 0, 1) := by decide +kernel
theorem d_Text_fits_101 : decode b_Text_fits 101 = .ok (.ireturn, 1) := by decide +kernel
theorem d_Text_fits_102 : decode b_Text_fits 102 = .ok (.iload_n 1, 1) := by decide +kernel
theorem d_Text_fits_103 : decode b_Text_fits 103 = .ok (.bipush 48, 2) := by decide +kernel
theorem d_Text_fits_105 : decode b_Text_fits 105 = .ok (.if_icmp .lt 13, 3) := by decide +kernel
theorem d_Text_fits_108 : decode b_Text_fits 108 = .ok (.iload_n 1, 1) := by decide +kernel
theorem d_Text_fits_109 : decode b_Text_fits 109 = .ok (.bipush 51, 2) := by decide +kernel
theorem d_Text_fits_111 : decode b_Text_fits 111 = .ok (.if_icmp .gt 7, 3) := by decide +kernel
theorem d_Text_fits_114 : decode b_Text_fits 114 = .ok (.iconst 1, 1) := by decide +kernel
theorem d_Text_fits_115 : decode b_Text_fits 115 = .ok (.goto 4, 3) := by decide +kernel
theorem d_Text_fits_118 : decode b_Text_fits 118 = .ok (.iconst 0, 1) := by decide +kernel
theorem d_Text_fits_119 : decode b_Text_fits 119 = .ok (.ireturn, 1) := by decide +kernel
theorem d_Law_law_0 : decode code 0 = .ok (.new 7, 3) := by decide +kernel
theorem d_Law_law_3 : decode code 3 = .ok (.dup, 1) := by decide +kernel
theorem d_Law_law_4 : decode code 4 = .ok (.invokespecial 9, 3) := by decide +kernel
theorem d_Law_law_7 : decode code 7 = .ok (.astore_n 1, 1) := by decide +kernel
theorem d_Law_law_8 : decode code 8 = .ok (.new 10, 3) := by decide +kernel
theorem d_Law_law_11 : decode code 11 = .ok (.dup, 1) := by decide +kernel
theorem d_Law_law_12 : decode code 12 = .ok (.invokespecial 12, 3) := by decide +kernel
theorem d_Law_law_15 : decode code 15 = .ok (.astore_n 2, 1) := by decide +kernel
theorem d_Law_law_16 : decode code 16 = .ok (.iconst 0, 1) := by decide +kernel
theorem d_Law_law_17 : decode code 17 = .ok (.istore_n 3, 1) := by decide +kernel
theorem d_Law_law_18 : decode code 18 = .ok (.iload_n 3, 1) := by decide +kernel
theorem d_Law_law_19 : decode code 19 = .ok (.aload_n 0, 1) := by decide +kernel
theorem d_Law_law_20 : decode code 20 = .ok (.arraylength, 1) := by decide +kernel
theorem d_Law_law_21 : decode code 21 = .ok (.iconst 5, 1) := by decide +kernel
theorem d_Law_law_22 : decode code 22 = .ok (.isub, 1) := by decide +kernel
theorem d_Law_law_23 : decode code 23 = .ok (.if_icmp .gt 937, 3) := by decide +kernel
theorem d_Law_law_26 : decode code 26 = .ok (.aload_n 0, 1) := by decide +kernel
theorem d_Law_law_27 : decode code 27 = .ok (.iload_n 3, 1) := by decide +kernel
theorem d_Law_law_28 : decode code 28 = .ok (.iaload, 1) := by decide +kernel
theorem d_Law_law_29 : decode code 29 = .ok (.bipush 31, 2) := by decide +kernel
theorem d_Law_law_31 : decode code 31 = .ok (.iand, 1) := by decide +kernel
theorem d_Law_law_32 : decode code 32 = .ok (.tableswitch 922 0 28 #[132, 155, 168, 181, 194, 217, 250, 283, 296, 319, 342, 355, 368, 391, 414, 447, 470, 493, 516, 549, 598, 651, 664, 697, 740, 799, 853, 876, 899], 132) := by decide +kernel
theorem d_Law_law_164 : decode code 164 = .ok (.aload_n 1, 1) := by decide +kernel
theorem d_Law_law_165 : decode code 165 = .ok (.aload_n 0, 1) := by decide +kernel
theorem d_Law_law_166 : decode code 166 = .ok (.iload_n 3, 1) := by decide +kernel
theorem d_Law_law_167 : decode code 167 = .ok (.iconst 1, 1) := by decide +kernel
theorem d_Law_law_168 : decode code 168 = .ok (.iadd, 1) := by decide +kernel
theorem d_Law_law_169 : decode code 169 = .ok (.iaload, 1) := by decide +kernel
theorem d_Law_law_170 : decode code 170 = .ok (.invokevirtual 13, 3) := by decide +kernel
theorem d_Law_law_173 : decode code 173 = .ok (.aload_n 2, 1) := by decide +kernel
theorem d_Law_law_174 : decode code 174 = .ok (.aload_n 0, 1) := by decide +kernel
theorem d_Law_law_175 : decode code 175 = .ok (.iload_n 3, 1) := by decide +kernel
theorem d_Law_law_176 : decode code 176 = .ok (.iconst 1, 1) := by decide +kernel
theorem d_Law_law_177 : decode code 177 = .ok (.iadd, 1) := by decide +kernel
theorem d_Law_law_178 : decode code 178 = .ok (.iaload, 1) := by decide +kernel
theorem d_Law_law_179 : decode code 179 = .ok (.invokevirtual 17, 3) := by decide +kernel
theorem d_Law_law_182 : decode code 182 = .ok (.if_icmp .eq 772, 3) := by decide +kernel
theorem d_Law_law_185 : decode code 185 = .ok (.iconst 0, 1) := by decide +kernel
theorem d_Law_law_186 : decode code 186 = .ok (.ireturn, 1) := by decide +kernel
theorem d_Law_law_187 : decode code 187 = .ok (.aload_n 1, 1) := by decide +kernel
theorem d_Law_law_188 : decode code 188 = .ok (.invokevirtual 18, 3) := by decide +kernel
theorem d_Law_law_191 : decode code 191 = .ok (.aload_n 2, 1) := by decide +kernel
theorem d_Law_law_192 : decode code 192 = .ok (.invokevirtual 22, 3) := by decide +kernel
theorem d_Law_law_195 : decode code 195 = .ok (.if_icmp .eq 759, 3) := by decide +kernel
theorem d_Law_law_198 : decode code 198 = .ok (.iconst 0, 1) := by decide +kernel
theorem d_Law_law_199 : decode code 199 = .ok (.ireturn, 1) := by decide +kernel
theorem d_Law_law_200 : decode code 200 = .ok (.aload_n 1, 1) := by decide +kernel
theorem d_Law_law_201 : decode code 201 = .ok (.invokevirtual 23, 3) := by decide +kernel
theorem d_Law_law_204 : decode code 204 = .ok (.aload_n 2, 1) := by decide +kernel
theorem d_Law_law_205 : decode code 205 = .ok (.invokevirtual 26, 3) := by decide +kernel
theorem d_Law_law_208 : decode code 208 = .ok (.if_icmp .eq 746, 3) := by decide +kernel
theorem d_Law_law_211 : decode code 211 = .ok (.iconst 0, 1) := by decide +kernel
theorem d_Law_law_212 : decode code 212 = .ok (.ireturn, 1) := by decide +kernel
theorem d_Law_law_213 : decode code 213 = .ok (.aload_n 1, 1) := by decide +kernel
theorem d_Law_law_214 : decode code 214 = .ok (.invokevirtual 27, 3) := by decide +kernel
theorem d_Law_law_217 : decode code 217 = .ok (.aload_n 2, 1) := by decide +kernel
theorem d_Law_law_218 : decode code 218 = .ok (.invokevirtual 30, 3) := by decide +kernel
theorem d_Law_law_221 : decode code 221 = .ok (.if_icmp .eq 733, 3) := by decide +kernel
theorem d_Law_law_224 : decode code 224 = .ok (.iconst 0, 1) := by decide +kernel
theorem d_Law_law_225 : decode code 225 = .ok (.ireturn, 1) := by decide +kernel
theorem d_Law_law_226 : decode code 226 = .ok (.aload_n 1, 1) := by decide +kernel
theorem d_Law_law_227 : decode code 227 = .ok (.aload_n 0, 1) := by decide +kernel
theorem d_Law_law_228 : decode code 228 = .ok (.iload_n 3, 1) := by decide +kernel
theorem d_Law_law_229 : decode code 229 = .ok (.iconst 1, 1) := by decide +kernel
theorem d_Law_law_230 : decode code 230 = .ok (.iadd, 1) := by decide +kernel
theorem d_Law_law_231 : decode code 231 = .ok (.iaload, 1) := by decide +kernel
theorem d_Law_law_232 : decode code 232 = .ok (.invokevirtual 31, 3) := by decide +kernel
theorem d_Law_law_235 : decode code 235 = .ok (.aload_n 2, 1) := by decide +kernel
theorem d_Law_law_236 : decode code 236 = .ok (.aload_n 0, 1) := by decide +kernel
theorem d_Law_law_237 : decode code 237 = .ok (.iload_n 3, 1) := by decide +kernel
theorem d_Law_law_238 : decode code 238 = .ok (.iconst 1, 1) := by decide +kernel
theorem d_Law_law_239 : decode code 239 = .ok (.iadd, 1) := by decide +kernel
theorem d_Law_law_240 : decode code 240 = .ok (.iaload, 1) := by decide +kernel
theorem d_Law_law_241 : decode code 241 = .ok (.invokevirtual 34, 3) := by decide +kernel
theorem d_Law_law_244 : decode code 244 = .ok (.if_icmp .eq 710, 3) := by decide +kernel
theorem d_Law_law_247 : decode code 247 = .ok (.iconst 0, 1) := by decide +kernel
theorem d_Law_law_248 : decode code 248 = .ok (.ireturn, 1) := by decide +kernel
theorem d_Law_law_249 : decode code 249 = .ok (.aload_n 1, 1) := by decide +kernel
theorem d_Law_law_250 : decode code 250 = .ok (.aload_n 0, 1) := by decide +kernel
theorem d_Law_law_251 : decode code 251 = .ok (.iload_n 3, 1) := by decide +kernel
theorem d_Law_law_252 : decode code 252 = .ok (.iconst 1, 1) := by decide +kernel
theorem d_Law_law_253 : decode code 253 = .ok (.iadd, 1) := by decide +kernel
theorem d_Law_law_254 : decode code 254 = .ok (.iaload, 1) := by decide +kernel
theorem d_Law_law_255 : decode code 255 = .ok (.aload_n 0, 1) := by decide +kernel
theorem d_Law_law_256 : decode code 256 = .ok (.iload_n 3, 1) := by decide +kernel
theorem d_Law_law_257 : decode code 257 = .ok (.iconst 2, 1) := by decide +kernel
theorem d_Law_law_258 : decode code 258 = .ok (.iadd, 1) := by decide +kernel
theorem d_Law_law_259 : decode code 259 = .ok (.iaload, 1) := by decide +kernel
theorem d_Law_law_260 : decode code 260 = .ok (.invokevirtual 35, 3) := by decide +kernel
theorem d_Law_law_263 : decode code 263 = .ok (.aload_n 2, 1) := by decide +kernel
theorem d_Law_law_264 : decode code 264 = .ok (.aload_n 0, 1) := by decide +kernel
theorem d_Law_law_265 : decode code 265 = .ok (.iload_n 3, 1) := by decide +kernel
theorem d_Law_law_266 : decode code 266 = .ok (.iconst 1, 1) := by decide +kernel
theorem d_Law_law_267 : decode code 267 = .ok (.iadd, 1) := by decide +kernel
theorem d_Law_law_268 : decode code 268 = .ok (.iaload, 1) := by decide +kernel
theorem d_Law_law_269 : decode code 269 = .ok (.aload_n 0, 1) := by decide +kernel
theorem d_Law_law_270 : decode code 270 = .ok (.iload_n 3, 1) := by decide +kernel
theorem d_Law_law_271 : decode code 271 = .ok (.iconst 2, 1) := by decide +kernel
theorem d_Law_law_272 : decode code 272 = .ok (.iadd, 1) := by decide +kernel
theorem d_Law_law_273 : decode code 273 = .ok (.iaload, 1) := by decide +kernel
theorem d_Law_law_274 : decode code 274 = .ok (.invokevirtual 39, 3) := by decide +kernel
theorem d_Law_law_277 : decode code 277 = .ok (.if_icmp .eq 677, 3) := by decide +kernel
theorem d_Law_law_280 : decode code 280 = .ok (.iconst 0, 1) := by decide +kernel
theorem d_Law_law_281 : decode code 281 = .ok (.ireturn, 1) := by decide +kernel
theorem d_Law_law_282 : decode code 282 = .ok (.aload_n 1, 1) := by decide +kernel
theorem d_Law_law_283 : decode code 283 = .ok (.aload_n 0, 1) := by decide +kernel
theorem d_Law_law_284 : decode code 284 = .ok (.iload_n 3, 1) := by decide +kernel
theorem d_Law_law_285 : decode code 285 = .ok (.iconst 1, 1) := by decide +kernel
theorem d_Law_law_286 : decode code 286 = .ok (.iadd, 1) := by decide +kernel
theorem d_Law_law_287 : decode code 287 = .ok (.iaload, 1) := by decide +kernel
theorem d_Law_law_288 : decode code 288 = .ok (.aload_n 0, 1) := by decide +kernel
theorem d_Law_law_289 : decode code 289 = .ok (.iload_n 3, 1) := by decide +kernel
theorem d_Law_law_290 : decode code 290 = .ok (.iconst 2, 1) := by decide +kernel
theorem d_Law_law_291 : decode code 291 = .ok (.iadd, 1) := by decide +kernel
theorem d_Law_law_292 : decode code 292 = .ok (.iaload, 1) := by decide +kernel
theorem d_Law_law_293 : decode code 293 = .ok (.invokevirtual 40, 3) := by decide +kernel
theorem d_Law_law_296 : decode code 296 = .ok (.aload_n 2, 1) := by decide +kernel
theorem d_Law_law_297 : decode code 297 = .ok (.aload_n 0, 1) := by decide +kernel
theorem d_Law_law_298 : decode code 298 = .ok (.iload_n 3, 1) := by decide +kernel
theorem d_Law_law_299 : decode code 299 = .ok (.iconst 1, 1) := by decide +kernel
theorem d_Law_law_300 : decode code 300 = .ok (.iadd, 1) := by decide +kernel
theorem d_Law_law_301 : decode code 301 = .ok (.iaload, 1) := by decide +kernel
theorem d_Law_law_302 : decode code 302 = .ok (.aload_n 0, 1) := by decide +kernel
theorem d_Law_law_303 : decode code 303 = .ok (.iload_n 3, 1) := by decide +kernel
theorem d_Law_law_304 : decode code 304 = .ok (.iconst 2, 1) := by decide +kernel
theorem d_Law_law_305 : decode code 305 = .ok (.iadd, 1) := by decide +kernel
theorem d_Law_law_306 : decode code 306 = .ok (.iaload, 1) := by decide +kernel
theorem d_Law_law_307 : decode code 307 = .ok (.invokevirtual 43, 3) := by decide +kernel
theorem d_Law_law_310 : decode code 310 = .ok (.if_icmp .eq 644, 3) := by decide +kernel
theorem d_Law_law_313 : decode code 313 = .ok (.iconst 0, 1) := by decide +kernel
theorem d_Law_law_314 : decode code 314 = .ok (.ireturn, 1) := by decide +kernel
theorem d_Law_law_315 : decode code 315 = .ok (.aload_n 1, 1) := by decide +kernel
theorem d_Law_law_316 : decode code 316 = .ok (.invokevirtual 44, 3) := by decide +kernel
theorem d_Law_law_319 : decode code 319 = .ok (.aload_n 2, 1) := by decide +kernel
theorem d_Law_law_320 : decode code 320 = .ok (.invokevirtual 47, 3) := by decide +kernel
theorem d_Law_law_323 : decode code 323 = .ok (.if_icmp .eq 631, 3) := by decide +kernel
theorem d_Law_law_326 : decode code 326 = .ok (.iconst 0, 1) := by decide +kernel
theorem d_Law_law_327 : decode code 327 = .ok (.ireturn, 1) := by decide +kernel
theorem d_Law_law_328 : decode code 328 = .ok (.aload_n 1, 1) := by decide +kernel
theorem d_Law_law_329 : decode code 329 = .ok (.aload_n 0, 1) := by decide +kernel
theorem d_Law_law_330 : decode code 330 = .ok (.iload_n 3, 1) := by decide +kernel
theorem d_Law_law_331 : decode code 331 = .ok (.iconst 1, 1) := by decide +kernel
theorem d_Law_law_332 : decode code 332 = .ok (.iadd, 1) := by decide +kernel
theorem d_Law_law_333 : decode code 333 = .ok (.iaload, 1) := by decide +kernel
theorem d_Law_law_334 : decode code 334 = .ok (.invokevirtual 48, 3) := by decide +kernel
theorem d_Law_law_337 : decode code 337 = .ok (.aload_n 2, 1) := by decide +kernel
theorem d_Law_law_338 : decode code 338 = .ok (.aload_n 0, 1) := by decide +kernel
theorem d_Law_law_339 : decode code 339 = .ok (.iload_n 3, 1) := by decide +kernel
theorem d_Law_law_340 : decode code 340 = .ok (.iconst 1, 1) := by decide +kernel
theorem d_Law_law_341 : decode code 341 = .ok (.iadd, 1) := by decide +kernel
theorem d_Law_law_342 : decode code 342 = .ok (.iaload, 1) := by decide +kernel
theorem d_Law_law_343 : decode code 343 = .ok (.invokevirtual 51, 3) := by decide +kernel
theorem d_Law_law_346 : decode code 346 = .ok (.if_icmp .eq 608, 3) := by decide +kernel
theorem d_Law_law_349 : decode code 349 = .ok (.iconst 0, 1) := by decide +kernel
theorem d_Law_law_350 : decode code 350 = .ok (.ireturn, 1) := by decide +kernel
theorem d_Law_law_351 : decode code 351 = .ok (.aload_n 1, 1) := by decide +kernel
theorem d_Law_law_352 : decode code 352 = .ok (.aload_n 0, 1) := by decide +kernel
theorem d_Law_law_353 : decode code 353 = .ok (.iload_n 3, 1) := by decide +kernel
theorem d_Law_law_354 : decode code 354 = .ok (.iconst 1, 1) := by decide +kernel
theorem d_Law_law_355 : decode code 355 = .ok (.iadd, 1) := by decide +kernel
theorem d_Law_law_356 : decode code 356 = .ok (.iaload, 1) := by decide +kernel
theorem d_Law_law_357 : decode code 357 = .ok (.invokevirtual 52, 3) := by decide +kernel
theorem d_Law_law_360 : decode code 360 = .ok (.aload_n 2, 1) := by decide +kernel
theorem d_Law_law_361 : decode code 361 = .ok (.aload_n 0, 1) := by decide +kernel
theorem d_Law_law_362 : decode code 362 = .ok (.iload_n 3, 1) := by decide +kernel
theorem d_Law_law_363 : decode code 363 = .ok (.iconst 1, 1) := by decide +kernel
theorem d_Law_law_364 : decode code 364 = .ok (.iadd, 1) := by decide +kernel
theorem d_Law_law_365 : decode code 365 = .ok (.iaload, 1) := by decide +kernel
theorem d_Law_law_366 : decode code 366 = .ok (.invokevirtual 55, 3) := by decide +kernel
theorem d_Law_law_369 : decode code 369 = .ok (.if_icmp .eq 585, 3) := by decide +kernel
theorem d_Law_law_372 : decode code 372 = .ok (.iconst 0, 1) := by decide +kernel
theorem d_Law_law_373 : decode code 373 = .ok (.ireturn, 1) := by decide +kernel
theorem d_Law_law_374 : decode code 374 = .ok (.aload_n 1, 1) := by decide +kernel
theorem d_Law_law_375 : decode code 375 = .ok (.invokevirtual 56, 3) := by decide +kernel
theorem d_Law_law_378 : decode code 378 = .ok (.aload_n 2, 1) := by decide +kernel
theorem d_Law_law_379 : decode code 379 = .ok (.invokevirtual 59, 3) := by decide +kernel
theorem d_Law_law_382 : decode code 382 = .ok (.if_icmp .eq 572, 3) := by decide +kernel
theorem d_Law_law_385 : decode code 385 = .ok (.iconst 0, 1) := by decide +kernel
theorem d_Law_law_386 : decode code 386 = .ok (.ireturn, 1) := by decide +kernel
theorem d_Law_law_387 : decode code 387 = .ok (.aload_n 1, 1) := by decide +kernel
theorem d_Law_law_388 : decode code 388 = .ok (.invokevirtual 60, 3) := by decide +kernel
theorem d_Law_law_391 : decode code 391 = .ok (.aload_n 2, 1) := by decide +kernel
theorem d_Law_law_392 : decode code 392 = .ok (.invokevirtual 63, 3) := by decide +kernel
theorem d_Law_law_395 : decode code 395 = .ok (.if_icmp .eq 559, 3) := by decide +kernel
theorem d_Law_law_398 : decode code 398 = .ok (.iconst 0, 1) := by decide +kernel
theorem d_Law_law_399 : decode code 399 = .ok (.ireturn, 1) := by decide +kernel
theorem d_Law_law_400 : decode code 400 = .ok (.aload_n 1, 1) := by decide +kernel
theorem d_Law_law_401 : decode code 401 = .ok (.aload_n 0, 1) := by decide +kernel
theorem d_Law_law_402 : decode code 402 = .ok (.iload_n 3, 1) := by decide +kernel
theorem d_Law_law_403 : decode code 403 = .ok (.iconst 1, 1) := by decide +kernel
theorem d_Law_law_404 : decode code 404 = .ok (.iadd, 1) := by decide +kernel
theorem d_Law_law_405 : decode code 405 = .ok (.iaload, 1) := by decide +kernel
theorem d_Law_law_406 : decode code 406 = .ok (.invokevirtual 64, 3) := by decide +kernel
theorem d_Law_law_409 : decode code 409 = .ok (.aload_n 2, 1) := by decide +kernel
theorem d_Law_law_410 : decode code 410 = .ok (.aload_n 0, 1) := by decide +kernel
theorem d_Law_law_411 : decode code 411 = .ok (.iload_n 3, 1) := by decide +kernel
theorem d_Law_law_412 : decode code 412 = .ok (.iconst 1, 1) := by decide +kernel
theorem d_Law_law_413 : decode code 413 = .ok (.iadd, 1) := by decide +kernel
theorem d_Law_law_414 : decode code 414 = .ok (.iaload, 1) := by decide +kernel
theorem d_Law_law_415 : decode code 415 = .ok (.invokevirtual 67, 3) := by decide +kernel
theorem d_Law_law_418 : decode code 418 = .ok (.if_icmp .eq 536, 3) := by decide +kernel
theorem d_Law_law_421 : decode code 421 = .ok (.iconst 0, 1) := by decide +kernel
theorem d_Law_law_422 : decode code 422 = .ok (.ireturn, 1) := by decide +kernel
theorem d_Law_law_423 : decode code 423 = .ok (.aload_n 1, 1) := by decide +kernel
theorem d_Law_law_424 : decode code 424 = .ok (.aload_n 0, 1) := by decide +kernel
theorem d_Law_law_425 : decode code 425 = .ok (.iload_n 3, 1) := by decide +kernel
theorem d_Law_law_426 : decode code 426 = .ok (.iconst 1, 1) := by decide +kernel
theorem d_Law_law_427 : decode code 427 = .ok (.iadd, 1) := by decide +kernel
theorem d_Law_law_428 : decode code 428 = .ok (.iaload, 1) := by decide +kernel
theorem d_Law_law_429 : decode code 429 = .ok (.invokevirtual 68, 3) := by decide +kernel
theorem d_Law_law_432 : decode code 432 = .ok (.aload_n 2, 1) := by decide +kernel
theorem d_Law_law_433 : decode code 433 = .ok (.aload_n 0, 1) := by decide +kernel
theorem d_Law_law_434 : decode code 434 = .ok (.iload_n 3, 1) := by decide +kernel
theorem d_Law_law_435 : decode code 435 = .ok (.iconst 1, 1) := by decide +kernel
theorem d_Law_law_436 : decode code 436 = .ok (.iadd, 1) := by decide +kernel
theorem d_Law_law_437 : decode code 437 = .ok (.iaload, 1) := by decide +kernel
theorem d_Law_law_438 : decode code 438 = .ok (.invokevirtual 71, 3) := by decide +kernel
theorem d_Law_law_441 : decode code 441 = .ok (.if_icmp .eq 513, 3) := by decide +kernel
theorem d_Law_law_444 : decode code 444 = .ok (.iconst 0, 1) := by decide +kernel
theorem d_Law_law_445 : decode code 445 = .ok (.ireturn, 1) := by decide +kernel
theorem d_Law_law_446 : decode code 446 = .ok (.aload_n 1, 1) := by decide +kernel
theorem d_Law_law_447 : decode code 447 = .ok (.aload_n 0, 1) := by decide +kernel
theorem d_Law_law_448 : decode code 448 = .ok (.iload_n 3, 1) := by decide +kernel
theorem d_Law_law_449 : decode code 449 = .ok (.iconst 1, 1) := by decide +kernel
theorem d_Law_law_450 : decode code 450 = .ok (.iadd, 1) := by decide +kernel
theorem d_Law_law_451 : decode code 451 = .ok (.iaload, 1) := by decide +kernel
theorem d_Law_law_452 : decode code 452 = .ok (.aload_n 0, 1) := by decide +kernel
theorem d_Law_law_453 : decode code 453 = .ok (.iload_n 3, 1) := by decide +kernel
theorem d_Law_law_454 : decode code 454 = .ok (.iconst 2, 1) := by decide +kernel
theorem d_Law_law_455 : decode code 455 = .ok (.iadd, 1) := by decide +kernel
theorem d_Law_law_456 : decode code 456 = .ok (.iaload, 1) := by decide +kernel
theorem d_Law_law_457 : decode code 457 = .ok (.invokevirtual 72, 3) := by decide +kernel
theorem d_Law_law_460 : decode code 460 = .ok (.aload_n 2, 1) := by decide +kernel
theorem d_Law_law_461 : decode code 461 = .ok (.aload_n 0, 1) := by decide +kernel
theorem d_Law_law_462 : decode code 462 = .ok (.iload_n 3, 1) := by decide +kernel
theorem d_Law_law_463 : decode code 463 = .ok (.iconst 1, 1) := by decide +kernel
theorem d_Law_law_464 : decode code 464 = .ok (.iadd, 1) := by decide +kernel
theorem d_Law_law_465 : decode code 465 = .ok (.iaload, 1) := by decide +kernel
theorem d_Law_law_466 : decode code 466 = .ok (.aload_n 0, 1) := by decide +kernel
theorem d_Law_law_467 : decode code 467 = .ok (.iload_n 3, 1) := by decide +kernel
theorem d_Law_law_468 : decode code 468 = .ok (.iconst 2, 1) := by decide +kernel
theorem d_Law_law_469 : decode code 469 = .ok (.iadd, 1) := by decide +kernel
theorem d_Law_law_470 : decode code 470 = .ok (.iaload, 1) := by decide +kernel
theorem d_Law_law_471 : decode code 471 = .ok (.invokevirtual 75, 3) := by decide +kernel
theorem d_Law_law_474 : decode code 474 = .ok (.if_icmp .eq 480, 3) := by decide +kernel
theorem d_Law_law_477 : decode code 477 = .ok (.iconst 0, 1) := by decide +kernel
theorem d_Law_law_478 : decode code 478 = .ok (.ireturn, 1) := by decide +kernel
theorem d_Law_law_479 : decode code 479 = .ok (.aload_n 1, 1) := by decide +kernel
theorem d_Law_law_480 : decode code 480 = .ok (.aload_n 0, 1) := by decide +kernel
theorem d_Law_law_481 : decode code 481 = .ok (.iload_n 3, 1) := by decide +kernel
theorem d_Law_law_482 : decode code 482 = .ok (.iconst 1, 1) := by decide +kernel
theorem d_Law_law_483 : decode code 483 = .ok (.iadd, 1) := by decide +kernel
theorem d_Law_law_484 : decode code 484 = .ok (.iaload, 1) := by decide +kernel
theorem d_Law_law_485 : decode code 485 = .ok (.invokevirtual 76, 3) := by decide +kernel
theorem d_Law_law_488 : decode code 488 = .ok (.aload_n 2, 1) := by decide +kernel
theorem d_Law_law_489 : decode code 489 = .ok (.aload_n 0, 1) := by decide +kernel
theorem d_Law_law_490 : decode code 490 = .ok (.iload_n 3, 1) := by decide +kernel
theorem d_Law_law_491 : decode code 491 = .ok (.iconst 1, 1) := by decide +kernel
theorem d_Law_law_492 : decode code 492 = .ok (.iadd, 1) := by decide +kernel
theorem d_Law_law_493 : decode code 493 = .ok (.iaload, 1) := by decide +kernel
theorem d_Law_law_494 : decode code 494 = .ok (.invokevirtual 79, 3) := by decide +kernel
theorem d_Law_law_497 : decode code 497 = .ok (.if_icmp .eq 457, 3) := by decide +kernel
theorem d_Law_law_500 : decode code 500 = .ok (.iconst 0, 1) := by decide +kernel
theorem d_Law_law_501 : decode code 501 = .ok (.ireturn, 1) := by decide +kernel
theorem d_Law_law_502 : decode code 502 = .ok (.aload_n 1, 1) := by decide +kernel
theorem d_Law_law_503 : decode code 503 = .ok (.aload_n 0, 1) := by decide +kernel
theorem d_Law_law_504 : decode code 504 = .ok (.iload_n 3, 1) := by decide +kernel
theorem d_Law_law_505 : decode code 505 = .ok (.iconst 1, 1) := by decide +kernel
theorem d_Law_law_506 : decode code 506 = .ok (.iadd, 1) := by decide +kernel
theorem d_Law_law_507 : decode code 507 = .ok (.iaload, 1) := by decide +kernel
theorem d_Law_law_508 : decode code 508 = .ok (.invokevirtual 80, 3) := by decide +kernel
theorem d_Law_law_511 : decode code 511 = .ok (.aload_n 2, 1) := by decide +kernel
theorem d_Law_law_512 : decode code 512 = .ok (.aload_n 0, 1) := by decide +kernel
theorem d_Law_law_513 : decode code 513 = .ok (.iload_n 3, 1) := by decide +kernel
theorem d_Law_law_514 : decode code 514 = .ok (.iconst 1, 1) := by decide +kernel
theorem d_Law_law_515 : decode code 515 = .ok (.iadd, 1) := by decide +kernel
theorem d_Law_law_516 : decode code 516 = .ok (.iaload, 1) := by decide +kernel
theorem d_Law_law_517 : decode code 517 = .ok (.invokevirtual 83, 3) := by decide +kernel
theorem d_Law_law_520 : decode code 520 = .ok (.if_icmp .eq 434, 3) := by decide +kernel
theorem d_Law_law_523 : decode code 523 = .ok (.iconst 0, 1) := by decide +kernel
theorem d_Law_law_524 : decode code 524 = .ok (.ireturn, 1) := by decide +kernel
theorem d_Law_law_525 : decode code 525 = .ok (.aload_n 1, 1) := by decide +kernel
theorem d_Law_law_526 : decode code 526 = .ok (.aload_n 0, 1) := by decide +kernel
theorem d_Law_law_527 : decode code 527 = .ok (.iload_n 3, 1) := by decide +kernel
theorem d_Law_law_528 : decode code 528 = .ok (.iconst 1, 1) := by decide +kernel
theorem d_Law_law_529 : decode code 529 = .ok (.iadd, 1) := by decide +kernel
theorem d_Law_law_530 : decode code 530 = .ok (.iaload, 1) := by decide +kernel
theorem d_Law_law_531 : decode code 531 = .ok (.invokevirtual 84, 3) := by decide +kernel
theorem d_Law_law_534 : decode code 534 = .ok (.aload_n 2, 1) := by decide +kernel
theorem d_Law_law_535 : decode code 535 = .ok (.aload_n 0, 1) := by decide +kernel
theorem d_Law_law_536 : decode code 536 = .ok (.iload_n 3, 1) := by decide +kernel
theorem d_Law_law_537 : decode code 537 = .ok (.iconst 1, 1) := by decide +kernel
theorem d_Law_law_538 : decode code 538 = .ok (.iadd, 1) := by decide +kernel
theorem d_Law_law_539 : decode code 539 = .ok (.iaload, 1) := by decide +kernel
theorem d_Law_law_540 : decode code 540 = .ok (.invokevirtual 87, 3) := by decide +kernel
theorem d_Law_law_543 : decode code 543 = .ok (.if_icmp .eq 411, 3) := by decide +kernel
theorem d_Law_law_546 : decode code 546 = .ok (.iconst 0, 1) := by decide +kernel
theorem d_Law_law_547 : decode code 547 = .ok (.ireturn, 1) := by decide +kernel
theorem d_Law_law_548 : decode code 548 = .ok (.aload_n 1, 1) := by decide +kernel
theorem d_Law_law_549 : decode code 549 = .ok (.aload_n 0, 1) := by decide +kernel
theorem d_Law_law_550 : decode code 550 = .ok (.iload_n 3, 1) := by decide +kernel
theorem d_Law_law_551 : decode code 551 = .ok (.iconst 1, 1) := by decide +kernel
theorem d_Law_law_552 : decode code 552 = .ok (.iadd, 1) := by decide +kernel
theorem d_Law_law_553 : decode code 553 = .ok (.iaload, 1) := by decide +kernel
theorem d_Law_law_554 : decode code 554 = .ok (.aload_n 0, 1) := by decide +kernel
theorem d_Law_law_555 : decode code 555 = .ok (.iload_n 3, 1) := by decide +kernel
theorem d_Law_law_556 : decode code 556 = .ok (.iconst 2, 1) := by decide +kernel
theorem d_Law_law_557 : decode code 557 = .ok (.iadd, 1) := by decide +kernel
theorem d_Law_law_558 : decode code 558 = .ok (.iaload, 1) := by decide +kernel
theorem d_Law_law_559 : decode code 559 = .ok (.invokevirtual 88, 3) := by decide +kernel
theorem d_Law_law_562 : decode code 562 = .ok (.aload_n 2, 1) := by decide +kernel
theorem d_Law_law_563 : decode code 563 = .ok (.aload_n 0, 1) := by decide +kernel
theorem d_Law_law_564 : decode code 564 = .ok (.iload_n 3, 1) := by decide +kernel
theorem d_Law_law_565 : decode code 565 = .ok (.iconst 1, 1) := by decide +kernel
theorem d_Law_law_566 : decode code 566 = .ok (.iadd, 1) := by decide +kernel
theorem d_Law_law_567 : decode code 567 = .ok (.iaload, 1) := by decide +kernel
theorem d_Law_law_568 : decode code 568 = .ok (.aload_n 0, 1) := by decide +kernel
theorem d_Law_law_569 : decode code 569 = .ok (.iload_n 3, 1) := by decide +kernel
theorem d_Law_law_570 : decode code 570 = .ok (.iconst 2, 1) := by decide +kernel
theorem d_Law_law_571 : decode code 571 = .ok (.iadd, 1) := by decide +kernel
theorem d_Law_law_572 : decode code 572 = .ok (.iaload, 1) := by decide +kernel
theorem d_Law_law_573 : decode code 573 = .ok (.invokevirtual 91, 3) := by decide +kernel
theorem d_Law_law_576 : decode code 576 = .ok (.if_icmp .eq 378, 3) := by decide +kernel
theorem d_Law_law_579 : decode code 579 = .ok (.iconst 0, 1) := by decide +kernel
theorem d_Law_law_580 : decode code 580 = .ok (.ireturn, 1) := by decide +kernel
theorem d_Law_law_581 : decode code 581 = .ok (.aload_n 1, 1) := by decide +kernel
theorem d_Law_law_582 : decode code 582 = .ok (.aload_n 0, 1) := by decide +kernel
theorem d_Law_law_583 : decode code 583 = .ok (.iload_n 3, 1) := by decide +kernel
theorem d_Law_law_584 : decode code 584 = .ok (.iconst 1, 1) := by decide +kernel
theorem d_Law_law_585 : decode code 585 = .ok (.iadd, 1) := by decide +kernel
theorem d_Law_law_586 : decode code 586 = .ok (.iaload, 1) := by decide +kernel
theorem d_Law_law_587 : decode code 587 = .ok (.aload_n 0, 1) := by decide +kernel
theorem d_Law_law_588 : decode code 588 = .ok (.iload_n 3, 1) := by decide +kernel
theorem d_Law_law_589 : decode code 589 = .ok (.iconst 2, 1) := by decide +kernel
theorem d_Law_law_590 : decode code 590 = .ok (.iadd, 1) := by decide +kernel
theorem d_Law_law_591 : decode code 591 = .ok (.iaload, 1) := by decide +kernel
theorem d_Law_law_592 : decode code 592 = .ok (.ifCond .eq 7, 3) := by decide +kernel
theorem d_Law_law_595 : decode code 595 = .ok (.iconst 1, 1) := by decide +kernel
theorem d_Law_law_596 : decode code 596 = .ok (.goto 4, 3) := by decide +kernel
theorem d_Law_law_599 : decode code 599 = .ok (.iconst 0, 1) := by decide +kernel
theorem d_Law_law_600 : decode code 600 = .ok (.invokevirtual 92, 3) := by decide +kernel
theorem d_Law_law_603 : decode code 603 = .ok (.aload_n 2, 1) := by decide +kernel
theorem d_Law_law_604 : decode code 604 = .ok (.aload_n 0, 1) := by decide +kernel
theorem d_Law_law_605 : decode code 605 = .ok (.iload_n 3, 1) := by decide +kernel
theorem d_Law_law_606 : decode code 606 = .ok (.iconst 1, 1) := by decide +kernel
theorem d_Law_law_607 : decode code 607 = .ok (.iadd, 1) := by decide +kernel
theorem d_Law_law_608 : decode code 608 = .ok (.iaload, 1) := by decide +kernel
theorem d_Law_law_609 : decode code 609 = .ok (.aload_n 0, 1) := by decide +kernel
theorem d_Law_law_610 : decode code 610 = .ok (.iload_n 3, 1) := by decide +kernel
theorem d_Law_law_611 : decode code 611 = .ok (.iconst 2, 1) := by decide +kernel
theorem d_Law_law_612 : decode code 612 = .ok (.iadd, 1) := by decide +kernel
theorem d_Law_law_613 : decode code 613 = .ok (.iaload, 1) := by decide +kernel
theorem d_Law_law_614 : decode code 614 = .ok (.ifCond .eq 7, 3) := by decide +kernel
theorem d_Law_law_617 : decode code 617 = .ok (.iconst 1, 1) := by decide +kernel
theorem d_Law_law_618 : decode code 618 = .ok (.goto 4, 3) := by decide +kernel
theorem d_Law_law_621 : decode code 621 = .ok (.iconst 0, 1) := by decide +kernel
theorem d_Law_law_622 : decode code 622 = .ok (.invokevirtual 96, 3) := by decide +kernel
theorem d_Law_law_625 : decode code 625 = .ok (.if_icmp .eq 329, 3) := by decide +kernel
theorem d_Law_law_628 : decode code 628 = .ok (.iconst 0, 1) := by decide +kernel
theorem d_Law_law_629 : decode code 629 = .ok (.ireturn, 1) := by decide +kernel
theorem d_Law_law_630 : decode code 630 = .ok (.aload_n 1, 1) := by decide +kernel
theorem d_Law_law_631 : decode code 631 = .ok (.aload_n 0, 1) := by decide +kernel
theorem d_Law_law_632 : decode code 632 = .ok (.iload_n 3, 1) := by decide +kernel
theorem d_Law_law_633 : decode code 633 = .ok (.iconst 1, 1) := by decide +kernel
theorem d_Law_law_634 : decode code 634 = .ok (.iadd, 1) := by decide +kernel
theorem d_Law_law_635 : decode code 635 = .ok (.iaload, 1) := by decide +kernel
theorem d_Law_law_636 : decode code 636 = .ok (.aload_n 0, 1) := by decide +kernel
theorem d_Law_law_637 : decode code 637 = .ok (.iload_n 3, 1) := by decide +kernel
theorem d_Law_law_638 : decode code 638 = .ok (.iconst 2, 1) := by decide +kernel
theorem d_Law_law_639 : decode code 639 = .ok (.iadd, 1) := by decide +kernel
theorem d_Law_law_640 : decode code 640 = .ok (.iaload, 1) := by decide +kernel
theorem d_Law_law_641 : decode code 641 = .ok (.aload_n 0, 1) := by decide +kernel
theorem d_Law_law_642 : decode code 642 = .ok (.iload_n 3, 1) := by decide +kernel
theorem d_Law_law_643 : decode code 643 = .ok (.iconst 3, 1) := by decide +kernel
theorem d_Law_law_644 : decode code 644 = .ok (.iadd, 1) := by decide +kernel
theorem d_Law_law_645 : decode code 645 = .ok (.iaload, 1) := by decide +kernel
theorem d_Law_law_646 : decode code 646 = .ok (.aload_n 0, 1) := by decide +kernel
theorem d_Law_law_647 : decode code 647 = .ok (.iload_n 3, 1) := by decide +kernel
theorem d_Law_law_648 : decode code 648 = .ok (.iconst 4, 1) := by decide +kernel
theorem d_Law_law_649 : decode code 649 = .ok (.iadd, 1) := by decide +kernel
theorem d_Law_law_650 : decode code 650 = .ok (.iaload, 1) := by decide +kernel
theorem d_Law_law_651 : decode code 651 = .ok (.invokevirtual 97, 3) := by decide +kernel
theorem d_Law_law_654 : decode code 654 = .ok (.aload_n 2, 1) := by decide +kernel
theorem d_Law_law_655 : decode code 655 = .ok (.aload_n 0, 1) := by decide +kernel
theorem d_Law_law_656 : decode code 656 = .ok (.iload_n 3, 1) := by decide +kernel
theorem d_Law_law_657 : decode code 657 = .ok (.iconst 1, 1) := by decide +kernel
theorem d_Law_law_658 : decode code 658 = .ok (.iadd, 1) := by decide +kernel
theorem d_Law_law_659 : decode code 659 = .ok (.iaload, 1) := by decide +kernel
theorem d_Law_law_660 : decode code 660 = .ok (.aload_n 0, 1) := by decide +kernel
theorem d_Law_law_661 : decode code 661 = .ok (.iload_n 3, 1) := by decide +kernel
theorem d_Law_law_662 : decode code 662 = .ok (.iconst 2, 1) := by decide +kernel
theorem d_Law_law_663 : decode code 663 = .ok (.iadd, 1) := by decide +kernel
theorem d_Law_law_664 : decode code 664 = .ok (.iaload, 1) := by decide +kernel
theorem d_Law_law_665 : decode code 665 = .ok (.aload_n 0, 1) := by decide +kernel
theorem d_Law_law_666 : decode code 666 = .ok (.iload_n 3, 1) := by decide +kernel
theorem d_Law_law_667 : decode code 667 = .ok (.iconst 3, 1) := by decide +kernel
theorem d_Law_law_668 : decode code 668 = .ok (.iadd, 1) := by decide +kernel
theorem d_Law_law_669 : decode code 669 = .ok (.iaload, 1) := by decide +kernel
theorem d_Law_law_670 : decode code 670 = .ok (.aload_n 0, 1) := by decide +kernel
theorem d_Law_law_671 : decode code 671 = .ok (.iload_n 3, 1) := by decide +kernel
theorem d_Law_law_672 : decode code 672 = .ok (.iconst 4, 1) := by decide +kernel
theorem d_Law_law_673 : decode code 673 = .ok (.iadd, 1) := by decide +kernel
theorem d_Law_law_674 : decode code 674 = .ok (.iaload, 1) := by decide +kernel
theorem d_Law_law_675 : decode code 675 = .ok (.invokevirtual 101, 3) := by decide +kernel
theorem d_Law_law_678 : decode code 678 = .ok (.if_icmp .eq 276, 3) := by decide +kernel
theorem d_Law_law_681 : decode code 681 = .ok (.iconst 0, 1) := by decide +kernel
theorem d_Law_law_682 : decode code 682 = .ok (.ireturn, 1) := by decide +kernel
theorem d_Law_law_683 : decode code 683 = .ok (.aload_n 1, 1) := by decide +kernel
theorem d_Law_law_684 : decode code 684 = .ok (.invokevirtual 102, 3) := by decide +kernel
theorem d_Law_law_687 : decode code 687 = .ok (.aload_n 2, 1) := by decide +kernel
theorem d_Law_law_688 : decode code 688 = .ok (.invokevirtual 105, 3) := by decide +kernel
theorem d_Law_law_691 : decode code 691 = .ok (.if_icmp .eq 263, 3) := by decide +kernel
theorem d_Law_law_694 : decode code 694 = .ok (.iconst 0, 1) := by decide +kernel
theorem d_Law_law_695 : decode code 695 = .ok (.ireturn, 1) := by decide +kernel
theorem d_Law_law_696 : decode code 696 = .ok (.aload_n 1, 1) := by decide +kernel
theorem d_Law_law_697 : decode code 697 = .ok (.aload_n 0, 1) := by decide +kernel
theorem d_Law_law_698 : decode code 698 = .ok (.iload_n 3, 1) := by decide +kernel
theorem d_Law_law_699 : decode code 699 = .ok (.iconst 1, 1) := by decide +kernel
theorem d_Law_law_700 : decode code 700 = .ok (.iadd, 1) := by decide +kernel
theorem d_Law_law_701 : decode code 701 = .ok (.iaload, 1) := by decide +kernel
theorem d_Law_law_702 : decode code 702 = .ok (.aload_n 0, 1) := by decide +kernel
theorem d_Law_law_703 : decode code 703 = .ok (.iload_n 3, 1) := by decide +kernel
theorem d_Law_law_704 : decode code 704 = .ok (.iconst 2, 1) := by decide +kernel
theorem d_Law_law_705 : decode code 705 = .ok (.iadd, 1) := by decide +kernel
theorem d_Law_law_706 : decode code 706 = .ok (.iaload, 1) := by decide +kernel
theorem d_Law_law_707 : decode code 707 = .ok (.invokevirtual 106, 3) := by decide +kernel
theorem d_Law_law_710 : decode code 710 = .ok (.aload_n 2, 1) := by decide +kernel
theorem d_Law_law_711 : decode code 711 = .ok (.aload_n 0, 1) := by decide +kernel
theorem d_Law_law_712 : decode code 712 = .ok (.iload_n 3, 1) := by decide +kernel
theorem d_Law_law_713 : decode code 713 = .ok (.iconst 1, 1) := by decide +kernel
theorem d_Law_law_714 : decode code 714 = .ok (.iadd, 1) := by decide +kernel
theorem d_Law_law_715 : decode code 715 = .ok (.iaload, 1) := by decide +kernel
theorem d_Law_law_716 : decode code 716 = .ok (.aload_n 0, 1) := by decide +kernel
theorem d_Law_law_717 : decode code 717 = .ok (.iload_n 3, 1) := by decide +kernel
theorem d_Law_law_718 : decode code 718 = .ok (.iconst 2, 1) := by decide +kernel
theorem d_Law_law_719 : decode code 719 = .ok (.iadd, 1) := by decide +kernel
theorem d_Law_law_720 : decode code 720 = .ok (.iaload, 1) := by decide +kernel
theorem d_Law_law_721 : decode code 721 = .ok (.invokevirtual 109, 3) := by decide +kernel
theorem d_Law_law_724 : decode code 724 = .ok (.if_icmp .eq 230, 3) := by decide +kernel
theorem d_Law_law_727 : decode code 727 = .ok (.iconst 0, 1) := by decide +kernel
theorem d_Law_law_728 : decode code 728 = .ok (.ireturn, 1) := by decide +kernel
theorem d_Law_law_729 : decode code 729 = .ok (.aload_n 1, 1) := by decide +kernel
theorem d_Law_law_730 : decode code 730 = .ok (.aload_n 0, 1) := by decide +kernel
theorem d_Law_law_731 : decode code 731 = .ok (.iload_n 3, 1) := by decide +kernel
theorem d_Law_law_732 : decode code 732 = .ok (.iconst 1, 1) := by decide +kernel
theorem d_Law_law_733 : decode code 733 = .ok (.iadd, 1) := by decide +kernel
theorem d_Law_law_734 : decode code 734 = .ok (.iaload, 1) := by decide +kernel
theorem d_Law_law_735 : decode code 735 = .ok (.aload_n 0, 1) := by decide +kernel
theorem d_Law_law_736 : decode code 736 = .ok (.iload_n 3, 1) := by decide +kernel
theorem d_Law_law_737 : decode code 737 = .ok (.iconst 2, 1) := by decide +kernel
theorem d_Law_law_738 : decode code 738 = .ok (.iadd, 1) := by decide +kernel
theorem d_Law_law_739 : decode code 739 = .ok (.iaload, 1) := by decide +kernel
theorem d_Law_law_740 : decode code 740 = .ok (.aload_n 0, 1) := by decide +kernel
theorem d_Law_law_741 : decode code 741 = .ok (.iload_n 3, 1) := by decide +kernel
theorem d_Law_law_742 : decode code 742 = .ok (.iconst 3, 1) := by decide +kernel
theorem d_Law_law_743 : decode code 743 = .ok (.iadd, 1) := by decide +kernel
theorem d_Law_law_744 : decode code 744 = .ok (.iaload, 1) := by decide +kernel
theorem d_Law_law_745 : decode code 745 = .ok (.invokevirtual 110, 3) := by decide +kernel
theorem d_Law_law_748 : decode code 748 = .ok (.aload_n 2, 1) := by decide +kernel
theorem d_Law_law_749 : decode code 749 = .ok (.aload_n 0, 1) := by decide +kernel
theorem d_Law_law_750 : decode code 750 = .ok (.iload_n 3, 1) := by decide +kernel
theorem d_Law_law_751 : decode code 751 = .ok (.iconst 1, 1) := by decide +kernel
theorem d_Law_law_752 : decode code 752 = .ok (.iadd, 1) := by decide +kernel
theorem d_Law_law_753 : decode code 753 = .ok (.iaload, 1) := by decide +kernel
theorem d_Law_law_754 : decode code 754 = .ok (.aload_n 0, 1) := by decide +kernel
theorem d_Law_law_755 : decode code 755 = .ok (.iload_n 3, 1) := by decide +kernel
theorem d_Law_law_756 : decode code 756 = .ok (.iconst 2, 1) := by decide +kernel
theorem d_Law_law_757 : decode code 757 = .ok (.iadd, 1) := by decide +kernel
theorem d_Law_law_758 : decode code 758 = .ok (.iaload, 1) := by decide +kernel
theorem d_Law_law_759 : decode code 759 = .ok (.aload_n 0, 1) := by decide +kernel
theorem d_Law_law_760 : decode code 760 = .ok (.iload_n 3, 1) := by decide +kernel
theorem d_Law_law_761 : decode code 761 = .ok (.iconst 3, 1) := by decide +kernel
theorem d_Law_law_762 : decode code 762 = .ok (.iadd, 1) := by decide +kernel
theorem d_Law_law_763 : decode code 763 = .ok (.iaload, 1) := by decide +kernel
theorem d_Law_law_764 : decode code 764 = .ok (.invokevirtual 114, 3) := by decide +kernel
theorem d_Law_law_767 : decode code 767 = .ok (.if_icmp .eq 187, 3) := by decide +kernel
theorem d_Law_law_770 : decode code 770 = .ok (.iconst 0, 1) := by decide +kernel
theorem d_Law_law_771 : decode code 771 = .ok (.ireturn, 1) := by decide +kernel
theorem d_Law_law_772 : decode code 772 = .ok (.aload_n 1, 1) := by decide +kernel
theorem d_Law_law_773 : decode code 773 = .ok (.aload_n 0, 1) := by decide +kernel
theorem d_Law_law_774 : decode code 774 = .ok (.iload_n 3, 1) := by decide +kernel
theorem d_Law_law_775 : decode code 775 = .ok (.iconst 1, 1) := by decide +kernel
theorem d_Law_law_776 : decode code 776 = .ok (.iadd, 1) := by decide +kernel
theorem d_Law_law_777 : decode code 777 = .ok (.iaload, 1) := by decide +kernel
theorem d_Law_law_778 : decode code 778 = .ok (.aload_n 0, 1) := by decide +kernel
theorem d_Law_law_779 : decode code 779 = .ok (.iload_n 3, 1) := by decide +kernel
theorem d_Law_law_780 : decode code 780 = .ok (.iconst 2, 1) := by decide +kernel
theorem d_Law_law_781 : decode code 781 = .ok (.iadd, 1) := by decide +kernel
theorem d_Law_law_782 : decode code 782 = .ok (.iaload, 1) := by decide +kernel
theorem d_Law_law_783 : decode code 783 = .ok (.aload_n 0, 1) := by decide +kernel
theorem d_Law_law_784 : decode code 784 = .ok (.iload_n 3, 1) := by decide +kernel
theorem d_Law_law_785 : decode code 785 = .ok (.iconst 3, 1) := by decide +kernel
theorem d_Law_law_786 : decode code 786 = .ok (.iadd, 1) := by decide +kernel
theorem d_Law_law_787 : decode code 787 = .ok (.iaload, 1) := by decide +kernel
theorem d_Law_law_788 : decode code 788 = .ok (.ifCond .eq 7, 3) := by decide +kernel
theorem d_Law_law_791 : decode code 791 = .ok (.iconst 1, 1) := by decide +kernel
theorem d_Law_law_792 : decode code 792 = .ok (.goto 4, 3) := by decide +kernel
theorem d_Law_law_795 : decode code 795 = .ok (.iconst 0, 1) := by decide +kernel
theorem d_Law_law_796 : decode code 796 = .ok (.invokevirtual 115, 3) := by decide +kernel
theorem d_Law_law_799 : decode code 799 = .ok (.aload_n 2, 1) := by decide +kernel
theorem d_Law_law_800 : decode code 800 = .ok (.aload_n 0, 1) := by decide +kernel
theorem d_Law_law_801 : decode code 801 = .ok (.iload_n 3, 1) := by decide +kernel
theorem d_Law_law_802 : decode code 802 = .ok (.iconst 1, 1) := by decide +kernel
theorem d_Law_law_803 : decode code 803 = .ok (.iadd, 1) := by decide +kernel
theorem d_Law_law_804 : decode code 804 = .ok (.iaload, 1) := by decide +kernel
theorem d_Law_law_805 : decode code 805 = .ok (.aload_n 0, 1) := by decide +kernel
theorem d_Law_law_806 : decode code 806 = .ok (.iload_n 3, 1) := by decide +kernel
theorem d_Law_law_807 : decode code 807 = .ok (.iconst 2, 1) := by decide +kernel
theorem d_Law_law_808 : decode code 808 = .ok (.iadd, 1) := by decide +kernel
theorem d_Law_law_809 : decode code 809 = .ok (.iaload, 1) := by decide +kernel
theorem d_Law_law_810 : decode code 810 = .ok (.aload_n 0, 1) := by decide +kernel
theorem d_Law_law_811 : decode code 811 = .ok (.iload_n 3, 1) := by decide +kernel
theorem d_Law_law_812 : decode code 812 = .ok (.iconst 3, 1) := by decide +kernel
theorem d_Law_law_813 : decode code 813 = .ok (.iadd, 1) := by decide +kernel
theorem d_Law_law_814 : decode code 814 = .ok (.iaload, 1) := by decide +kernel
theorem d_Law_law_815 : decode code 815 = .ok (.ifCond .eq 7, 3) := by decide +kernel
theorem d_Law_law_818 : decode code 818 = .ok (.iconst 1, 1) := by decide +kernel
theorem d_Law_law_819 : decode code 819 = .ok (.goto 4, 3) := by decide +kernel
theorem d_Law_law_822 : decode code 822 = .ok (.iconst 0, 1) := by decide +kernel
theorem d_Law_law_823 : decode code 823 = .ok (.invokevirtual 119, 3) := by decide +kernel
theorem d_Law_law_826 : decode code 826 = .ok (.if_icmp .eq 128, 3) := by decide +kernel
theorem d_Law_law_829 : decode code 829 = .ok (.iconst 0, 1) := by decide +kernel
theorem d_Law_law_830 : decode code 830 = .ok (.ireturn, 1) := by decide +kernel
theorem d_Law_law_831 : decode code 831 = .ok (.aload_n 1, 1) := by decide +kernel
theorem d_Law_law_832 : decode code 832 = .ok (.aload_n 0, 1) := by decide +kernel
theorem d_Law_law_833 : decode code 833 = .ok (.iload_n 3, 1) := by decide +kernel
theorem d_Law_law_834 : decode code 834 = .ok (.iconst 1, 1) := by decide +kernel
theorem d_Law_law_835 : decode code 835 = .ok (.iadd, 1) := by decide +kernel
theorem d_Law_law_836 : decode code 836 = .ok (.iaload, 1) := by decide +kernel
theorem d_Law_law_837 : decode code 837 = .ok (.i2l, 1) := by decide +kernel
theorem d_Law_law_838 : decode code 838 = .ok (.bipush 32, 2) := by decide +kernel
theorem d_Law_law_840 : decode code 840 = .ok (.lshl, 1) := by decide +kernel
theorem d_Law_law_841 : decode code 841 = .ok (.aload_n 0, 1) := by decide +kernel
theorem d_Law_law_842 : decode code 842 = .ok (.iload_n 3, 1) := by decide +kernel
theorem d_Law_law_843 : decode code 843 = .ok (.iconst 2, 1) := by decide +kernel
theorem d_Law_law_844 : decode code 844 = .ok (.iadd, 1) := by decide +kernel
theorem d_Law_law_845 : decode code 845 = .ok (.iaload, 1) := by decide +kernel
theorem d_Law_law_846 : decode code 846 = .ok (.i2l, 1) := by decide +kernel
theorem d_Law_law_847 : decode code 847 = .ok (.ldc2_w 120, 3) := by decide +kernel
theorem d_Law_law_850 : decode code 850 = .ok (.land, 1) := by decide +kernel
theorem d_Law_law_851 : decode code 851 = .ok (.lor, 1) := by decide +kernel
theorem d_Law_law_852 : decode code 852 = .ok (.invokevirtual 122, 3) := by decide +kernel
theorem d_Law_law_855 : decode code 855 = .ok (.aload_n 2, 1) := by decide +kernel
theorem d_Law_law_856 : decode code 856 = .ok (.aload_n 0, 1) := by decide +kernel
theorem d_Law_law_857 : decode code 857 = .ok (.iload_n 3, 1) := by decide +kernel
theorem d_Law_law_858 : decode code 858 = .ok (.iconst 1, 1) := by decide +kernel
theorem d_Law_law_859 : decode code 859 = .ok (.iadd, 1) := by decide +kernel
theorem d_Law_law_860 : decode code 860 = .ok (.iaload, 1) := by decide +kernel
theorem d_Law_law_861 : decode code 861 = .ok (.i2l, 1) := by decide +kernel
theorem d_Law_law_862 : decode code 862 = .ok (.bipush 32, 2) := by decide +kernel
theorem d_Law_law_864 : decode code 864 = .ok (.lshl, 1) := by decide +kernel
theorem d_Law_law_865 : decode code 865 = .ok (.aload_n 0, 1) := by decide +kernel
theorem d_Law_law_866 : decode code 866 = .ok (.iload_n 3, 1) := by decide +kernel
theorem d_Law_law_867 : decode code 867 = .ok (.iconst 2, 1) := by decide +kernel
theorem d_Law_law_868 : decode code 868 = .ok (.iadd, 1) := by decide +kernel
theorem d_Law_law_869 : decode code 869 = .ok (.iaload, 1) := by decide +kernel
theorem d_Law_law_870 : decode code 870 = .ok (.i2l, 1) := by decide +kernel
theorem d_Law_law_871 : decode code 871 = .ok (.ldc2_w 120, 3) := by decide +kernel
theorem d_Law_law_874 : decode code 874 = .ok (.land, 1) := by decide +kernel
theorem d_Law_law_875 : decode code 875 = .ok (.lor, 1) := by decide +kernel
theorem d_Law_law_876 : decode code 876 = .ok (.invokevirtual 126, 3) := by decide +kernel
theorem d_Law_law_879 : decode code 879 = .ok (.lcmp, 1) := by decide +kernel
theorem d_Law_law_880 : decode code 880 = .ok (.ifCond .eq 74, 3) := by decide +kernel
theorem d_Law_law_883 : decode code 883 = .ok (.iconst 0, 1) := by decide +kernel
theorem d_Law_law_884 : decode code 884 = .ok (.ireturn, 1) := by decide +kernel
theorem d_Law_law_885 : decode code 885 = .ok (.aload_n 1, 1) := by decide +kernel
theorem d_Law_law_886 : decode code 886 = .ok (.aload_n 0, 1) := by decide +kernel
theorem d_Law_law_887 : decode code 887 = .ok (.iload_n 3, 1) := by decide +kernel
theorem d_Law_law_888 : decode code 888 = .ok (.iconst 1, 1) := by decide +kernel
theorem d_Law_law_889 : decode code 889 = .ok (.iadd, 1) := by decide +kernel
theorem d_Law_law_890 : decode code 890 = .ok (.iaload, 1) := by decide +kernel
theorem d_Law_law_891 : decode code 891 = .ok (.invokevirtual 127, 3) := by decide +kernel
theorem d_Law_law_894 : decode code 894 = .ok (.aload_n 2, 1) := by decide +kernel
theorem d_Law_law_895 : decode code 895 = .ok (.aload_n 0, 1) := by decide +kernel
theorem d_Law_law_896 : decode code 896 = .ok (.iload_n 3, 1) := by decide +kernel
theorem d_Law_law_897 : decode code 897 = .ok (.iconst 1, 1) := by decide +kernel
theorem d_Law_law_898 : decode code 898 = .ok (.iadd, 1) := by decide +kernel
theorem d_Law_law_899 : decode code 899 = .ok (.iaload, 1) := by decide +kernel
theorem d_Law_law_900 : decode code 900 = .ok (.invokevirtual 130, 3) := by decide +kernel
theorem d_Law_law_903 : decode code 903 = .ok (.if_icmp .eq 51, 3) := by decide +kernel
theorem d_Law_law_906 : decode code 906 = .ok (.iconst 0, 1) := by decide +kernel
theorem d_Law_law_907 : decode code 907 = .ok (.ireturn, 1) := by decide +kernel
theorem d_Law_law_908 : decode code 908 = .ok (.aload_n 1, 1) := by decide +kernel
theorem d_Law_law_909 : decode code 909 = .ok (.aload_n 0, 1) := by decide +kernel
theorem d_Law_law_910 : decode code 910 = .ok (.iload_n 3, 1) := by decide +kernel
theorem d_Law_law_911 : decode code 911 = .ok (.iconst 1, 1) := by decide +kernel
theorem d_Law_law_912 : decode code 912 = .ok (.iadd, 1) := by decide +kernel
theorem d_Law_law_913 : decode code 913 = .ok (.iaload, 1) := by decide +kernel
theorem d_Law_law_914 : decode code 914 = .ok (.invokevirtual 131, 3) := by decide +kernel
theorem d_Law_law_917 : decode code 917 = .ok (.aload_n 2, 1) := by decide +kernel
theorem d_Law_law_918 : decode code 918 = .ok (.aload_n 0, 1) := by decide +kernel
theorem d_Law_law_919 : decode code 919 = .ok (.iload_n 3, 1) := by decide +kernel
theorem d_Law_law_920 : decode code 920 = .ok (.iconst 1, 1) := by decide +kernel
theorem d_Law_law_921 : decode code 921 = .ok (.iadd, 1) := by decide +kernel
theorem d_Law_law_922 : decode code 922 = .ok (.iaload, 1) := by decide +kernel
theorem d_Law_law_923 : decode code 923 = .ok (.invokevirtual 134, 3) := by decide +kernel
theorem d_Law_law_926 : decode code 926 = .ok (.if_icmp .eq 28, 3) := by decide +kernel
theorem d_Law_law_929 : decode code 929 = .ok (.iconst 0, 1) := by decide +kernel
theorem d_Law_law_930 : decode code 930 = .ok (.ireturn, 1) := by decide +kernel
theorem d_Law_law_931 : decode code 931 = .ok (.aload_n 1, 1) := by decide +kernel
theorem d_Law_law_932 : decode code 932 = .ok (.aload_n 0, 1) := by decide +kernel
theorem d_Law_law_933 : decode code 933 = .ok (.iload_n 3, 1) := by decide +kernel
theorem d_Law_law_934 : decode code 934 = .ok (.iconst 1, 1) := by decide +kernel
theorem d_Law_law_935 : decode code 935 = .ok (.iadd, 1) := by decide +kernel
theorem d_Law_law_936 : decode code 936 = .ok (.iaload, 1) := by decide +kernel
theorem d_Law_law_937 : decode code 937 = .ok (.invokevirtual 135, 3) := by decide +kernel
theorem d_Law_law_940 : decode code 940 = .ok (.aload_n 2, 1) := by decide +kernel
theorem d_Law_law_941 : decode code 941 = .ok (.aload_n 0, 1) := by decide +kernel
theorem d_Law_law_942 : decode code 942 = .ok (.iload_n 3, 1) := by decide +kernel
theorem d_Law_law_943 : decode code 943 = .ok (.iconst 1, 1) := by decide +kernel
theorem d_Law_law_944 : decode code 944 = .ok (.iadd, 1) := by decide +kernel
theorem d_Law_law_945 : decode code 945 = .ok (.iaload, 1) := by decide +kernel
theorem d_Law_law_946 : decode code 946 = .ok (.invokevirtual 138, 3) := by decide +kernel
theorem d_Law_law_949 : decode code 949 = .ok (.if_icmp .eq 5, 3) := by decide +kernel
theorem d_Law_law_952 : decode code 952 = .ok (.iconst 0, 1) := by decide +kernel
theorem d_Law_law_953 : decode code 953 = .ok (.ireturn, 1) := by decide +kernel
theorem d_Law_law_954 : decode code 954 = .ok (.iinc 3 5, 3) := by decide +kernel
theorem d_Law_law_957 : decode code 957 = .ok (.goto (-939), 3) := by decide +kernel
theorem d_Law_law_960 : decode code 960 = .ok (.iconst 1, 1) := by decide +kernel
theorem d_Law_law_961 : decode code 961 = .ok (.ireturn, 1) := by decide +kernel
theorem d_PM_init_0 : decode b_PM_init 0 = .ok (.aload_n 0, 1) := by decide +kernel
theorem d_PM_init_1 : decode b_PM_init 1 = .ok (.invokespecial 1, 3) := by decide +kernel
theorem d_PM_init_4 : decode b_PM_init 4 = .ok (.aload_n 0, 1) := by decide +kernel
theorem d_PM_init_5 : decode b_PM_init 5 = .ok (.bipush 48, 2) := by decide +kernel
theorem d_PM_init_7 : decode b_PM_init 7 = .ok (.newarray .int, 2) := by decide +kernel
theorem d_PM_init_9 : decode b_PM_init 9 = .ok (.putfield 7, 3) := by decide +kernel
theorem d_PM_init_12 : decode b_PM_init 12 = .ok (.aload_n 0, 1) := by decide +kernel
theorem d_PM_init_13 : decode b_PM_init 13 = .ok (.bipush 12, 2) := by decide +kernel
theorem d_PM_init_15 : decode b_PM_init 15 = .ok (.newarray .int, 2) := by decide +kernel
theorem d_PM_init_17 : decode b_PM_init 17 = .ok (.putfield 13, 3) := by decide +kernel
theorem d_PM_init_20 : decode b_PM_init 20 = .ok (.aload_n 0, 1) := by decide +kernel
theorem d_PM_init_21 : decode b_PM_init 21 = .ok (.bipush 30, 2) := by decide +kernel
theorem d_PM_init_23 : decode b_PM_init 23 = .ok (.newarray .int, 2) := by decide +kernel
theorem d_PM_init_25 : decode b_PM_init 25 = .ok (.putfield 16, 3) := by decide +kernel
theorem d_PM_init_28 : decode b_PM_init 28 = .ok (.aload_n 0, 1) := by decide +kernel
theorem d_PM_init_29 : decode b_PM_init 29 = .ok (.bipush 12, 2) := by decide +kernel
theorem d_PM_init_31 : decode b_PM_init 31 = .ok (.newarray .int, 2) := by decide +kernel
theorem d_PM_init_33 : decode b_PM_init 33 = .ok (.putfield 19, 3) := by decide +kernel
theorem d_PM_init_36 : decode b_PM_init 36 = .ok (.aload_n 0, 1) := by decide +kernel
theorem d_PM_init_37 : decode b_PM_init 37 = .ok (.bipush 30, 2) := by decide +kernel
theorem d_PM_init_39 : decode b_PM_init 39 = .ok (.newarray .int, 2) := by decide +kernel
theorem d_PM_init_41 : decode b_PM_init 41 = .ok (.putfield 22, 3) := by decide +kernel
theorem d_PM_init_44 : decode b_PM_init 44 = .ok (.aload_n 0, 1) := by decide +kernel
theorem d_PM_init_45 : decode b_PM_init 45 = .ok (.bipush 16, 2) := by decide +kernel
theorem d_PM_init_47 : decode b_PM_init 47 = .ok (.newarray .int, 2) := by decide +kernel
theorem d_PM_init_49 : decode b_PM_init 49 = .ok (.putfield 25, 3) := by decide +kernel
theorem d_PM_init_52 : decode b_PM_init 52 = .ok (.aload_n 0, 1) := by decide +kernel
theorem d_PM_init_53 : decode b_PM_init 53 = .ok (.bipush 16, 2) := by decide +kernel
theorem d_PM_init_55 : decode b_PM_init 55 = .ok (.newarray .int, 2) := by decide +kernel
theorem d_PM_init_57 : decode b_PM_init 57 = .ok (.putfield 28, 3) := by decide +kernel
theorem d_PM_init_60 : decode b_PM_init 60 = .ok (.aload_n 0, 1) := by decide +kernel
theorem d_PM_init_61 : decode b_PM_init 61 = .ok (.sipush 224, 3) := by decide +kernel
theorem d_PM_init_64 : decode b_PM_init 64 = .ok (.newarray .int, 2) := by decide +kernel
theorem d_PM_init_66 : decode b_PM_init 66 = .ok (.putfield 31, 3) := by decide +kernel
theorem d_PM_init_69 : decode b_PM_init 69 = .ok (.aload_n 0, 1) := by decide +kernel
theorem d_PM_init_70 : decode b_PM_init 70 = .ok (.bipush 32, 2) := by decide +kernel
theorem d_PM_init_72 : decode b_PM_init 72 = .ok (.newarray .int, 2) := by decide +kernel
theorem d_PM_init_74 : decode b_PM_init 74 = .ok (.putfield 34, 3) := by decide +kernel
theorem d_PM_init_77 : decode b_PM_init 77 = .ok (.aload_n 0, 1) := by decide +kernel
theorem d_PM_init_78 : decode b_PM_init 78 = .ok (.iconst 2, 1) := by decide +kernel
theorem d_PM_init_79 : decode b_PM_init 79 = .ok (.newarray .boolean, 2) := by decide +kernel
theorem d_PM_init_81 : decode b_PM_init 81 = .ok (.putfield 37, 3) := by decide +kernel
theorem d_PM_init_84 : decode b_PM_init 84 = .ok (.aload_n 0, 1) := by decide +kernel
theorem d_PM_init_85 : decode b_PM_init 85 = .ok (.bipush 6, 2) := by decide +kernel
theorem d_PM_init_87 : decode b_PM_init 87 = .ok (.newarray .int, 2) := by decide +kernel
theorem d_PM_init_89 : decode b_PM_init 89 = .ok (.putfield 41, 3) := by decide +kernel
theorem d_PM_init_92 : decode b_PM_init 92 = .ok (.aload_n 0, 1) := by decide +kernel
theorem d_PM_init_93 : decode b_PM_init 93 = .ok (.bipush 6, 2) := by decide +kernel
theorem d_PM_init_95 : decode b_PM_init 95 = .ok (.newarray .int, 2) := by decide +kernel
theorem d_PM_init_97 : decode b_PM_init 97 = .ok (.putfield 44, 3) := by decide +kernel
theorem d_PM_init_100 : decode b_PM_init 100 = .ok (.aload_n 0, 1) := by decide +kernel
theorem d_PM_init_101 : decode b_PM_init 101 = .ok (.bipush 6, 2) := by decide +kernel
theorem d_PM_init_103 : decode b_PM_init 103 = .ok (.newarray .int, 2) := by decide +kernel
theorem d_PM_init_105 : decode b_PM_init 105 = .ok (.putfield 47, 3) := by decide +kernel
theorem d_PM_init_108 : decode b_PM_init 108 = .ok (.aload_n 0, 1) := by decide +kernel
theorem d_PM_init_109 : decode b_PM_init 109 = .ok (.bipush 6, 2) := by decide +kernel
theorem d_PM_init_111 : decode b_PM_init 111 = .ok (.newarray .int, 2) := by decide +kernel
theorem d_PM_init_113 : decode b_PM_init 113 = .ok (.putfield 50, 3) := by decide +kernel
theorem d_PM_init_116 : decode b_PM_init 116 = .ok (.aload_n 0, 1) := by decide +kernel
theorem d_PM_init_117 : decode b_PM_init 117 = .ok (.bipush 16, 2) := by decide +kernel
theorem d_PM_init_119 : decode b_PM_init 119 = .ok (.newarray .int, 2) := by decide +kernel
theorem d_PM_init_121 : decode b_PM_init 121 = .ok (.putfield 53, 3) := by decide +kernel
theorem d_PM_init_124 : decode b_PM_init 124 = .ok (.aload_n 0, 1) := by decide +kernel
theorem d_PM_init_125 : decode b_PM_init 125 = .ok (.iconst 4, 1) := by decide +kernel
theorem d_PM_init_126 : decode b_PM_init 126 = .ok (.newarray .int, 2) := by decide +kernel
theorem d_PM_init_128 : decode b_PM_init 128 = .ok (.putfield 56, 3) := by decide +kernel
theorem d_PM_init_131 : decode b_PM_init 131 = .ok (.iconst 0, 1) := by decide +kernel
theorem d_PM_init_132 : decode b_PM_init 132 = .ok (.istore_n 1, 1) := by decide +kernel
theorem d_PM_init_133 : decode b_PM_init 133 = .ok (.iload_n 1, 1) := by decide +kernel
theorem d_PM_init_134 : decode b_PM_init 134 = .ok (.iconst 5, 1) := by decide +kernel
theorem d_PM_init_135 : decode b_PM_init 135 = .ok (.if_icmp .ge 20, 3) := by decide +kernel
theorem d_PM_init_138 : decode b_PM_init 138 = .ok (.aload_n 0, 1) := by decide +kernel
theorem d_PM_init_139 : decode b_PM_init 139 = .ok (.getfield 25, 3) := by decide +kernel
theorem d_PM_init_142 : decode b_PM_init 142 = .ok (.bipush 10, 2) := by decide +kernel
theorem d_PM_init_144 : decode b_PM_init 144 = .ok (.iload_n 1, 1) := by decide +kernel
theorem d_PM_init_145 : decode b_PM_init 145 = .ok (.iadd, 1) := by decide +kernel
theorem d_PM_init_146 : decode b_PM_init 146 = .ok (.bipush (-9), 2) := by decide +kernel
theorem d_PM_init_148 : decode b_PM_init 148 = .ok (.iastore, 1) := by decide +kernel
theorem d_PM_init_149 : decode b_PM_init 149 = .ok (.iinc 1 1, 3) := by decide +kernel
theorem d_PM_init_152 : decode b_PM_init 152 = .ok (.goto (-19), 3) := by decide +kernel
theorem d_PM_init_155 : decode b_PM_init 155 = .ok (.return_, 1) := by decide +kernel

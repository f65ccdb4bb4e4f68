theorem d_PM_about_0 : decode b_PM_about 0 = .ok (.aload_n 0, 1) := by decide +kernel
theorem d_PM_about_1 : decode b_PM_about 1 = .ok (.iconst 0, 1) := by decide +kernel
theorem d_PM_about_2 : decode b_PM_about 2 = .ok (.putfield 59, 3) := by decide +kernel
theorem d_PM_about_5 : decode b_PM_about 5 = .ok (.aload_n 0, 1) := by decide +kernel
theorem d_PM_about_6 : decode b_PM_about 6 = .ok (.aload_n 0, 1) := by decide +kernel
theorem d_PM_about_7 : decode b_PM_about 7 = .ok (.getfield 25, 3) := by decide +kernel
theorem d_PM_about_10 : decode b_PM_about 10 = .ok (.invokevirtual 112, 3) := by decide +kernel
theorem d_PM_about_13 : decode b_PM_about 13 = .ok (.iconst 0, 1) := by decide +kernel
theorem d_PM_about_14 : decode b_PM_about 14 = .ok (.istore_n 2, 1) := by decide +kernel
theorem d_PM_about_15 : decode b_PM_about 15 = .ok (.iconst 0, 1) := by decide +kernel
theorem d_PM_about_16 : decode b_PM_about 16 = .ok (.istore_n 3, 1) := by decide +kernel
theorem d_PM_about_17 : decode b_PM_about 17 = .ok (.iload_n 3, 1) := by decide +kernel
theorem d_PM_about_18 : decode b_PM_about 18 = .ok (.aload_n 0, 1) := by decide +kernel
theorem d_PM_about_19 : decode b_PM_about 19 = .ok (.getfield 25, 3) := by decide +kernel
theorem d_PM_about_22 : decode b_PM_about 22 = .ok (.iconst 4, 1) := by decide +kernel
theorem d_PM_about_23 : decode b_PM_about 23 = .ok (.iaload, 1) := by decide +kernel
theorem d_PM_about_24 : decode b_PM_about 24 = .ok (.if_icmp .ge 25, 3) := by decide +kernel
theorem d_PM_about_27 : decode b_PM_about 27 = .ok (.bipush 10, 2) := by decide +kernel
theorem d_PM_about_29 : decode b_PM_about 29 = .ok (.iload_n 2, 1) := by decide +kernel
theorem d_PM_about_30 : decode b_PM_about 30 = .ok (.imul, 1) := by decide +kernel
theorem d_PM_about_31 : decode b_PM_about 31 = .ok (.aload_n 0, 1) := by decide +kernel
theorem d_PM_about_32 : decode b_PM_about 32 = .ok (.getfield 25, 3) := by decide +kernel
theorem d_PM_about_35 : decode b_PM_about 35 = .ok (.iconst 5, 1) := by decide +kernel
theorem d_PM_about_36 : decode b_PM_about 36 = .ok (.iload_n 3, 1) := by decide +kernel
theorem d_PM_about_37 : decode b_PM_about 37 = .ok (.iadd, 1) := by decide +kernel
theorem d_PM_about_38 : decode b_PM_about 38 = .ok (.iaload, 1) := by decide +kernel
theorem d_PM_about_39 : decode b_PM_about 39 = .ok (.iadd, 1) := by decide +kernel
theorem d_PM_about_40 : decode b_PM_about 40 = .ok (.iconst 1, 1) := by decide +kernel
theorem d_PM_about_41 : decode b_PM_about 41 = .ok (.iadd, 1) := by decide +kernel
theorem d_PM_about_42 : decode b_PM_about 42 = .ok (.istore_n 2, 1) := by decide +kernel
theorem d_PM_about_43 : decode b_PM_about 43 = .ok (.iinc 3 1, 3) := by decide +kernel
theorem d_PM_about_46 : decode b_PM_about 46 = .ok (.goto (-29), 3) := by decide +kernel
theorem d_PM_about_49 : decode b_PM_about 49 = .ok (.iload_n 1, 1) := by decide +kernel
theorem d_PM_about_50 : decode b_PM_about 50 = .ok (.tableswitch 91 0 7 #[46, 51, 59, 61, 68, 76, 81, 86], 46) := by decide +kernel
theorem d_PM_about_96 : decode b_PM_about 96 = .ok (.aload_n 0, 1) := by decide +kernel
theorem d_PM_about_97 : decode b_PM_about 97 = .ok (.getfield 63, 3) := by decide +kernel
theorem d_PM_about_100 : decode b_PM_about 100 = .ok (.ireturn, 1) := by decide +kernel
theorem d_PM_about_101 : decode b_PM_about 101 = .ok (.aload_n 0, 1) := by decide +kernel
theorem d_PM_about_102 : decode b_PM_about 102 = .ok (.getfield 25, 3) := by decide +kernel
theorem d_PM_about_105 : decode b_PM_about 105 = .ok (.invokestatic 116, 3) := by decide +kernel
theorem d_PM_about_108 : decode b_PM_about 108 = .ok (.ireturn, 1) := by decide +kernel
theorem d_PM_about_109 : decode b_PM_about 109 = .ok (.iload_n 2, 1) := by decide +kernel
theorem d_PM_about_110 : decode b_PM_about 110 = .ok (.ireturn, 1) := by decide +kernel
theorem d_PM_about_111 : decode b_PM_about 111 = .ok (.aload_n 0, 1) := by decide +kernel
theorem d_PM_about_112 : decode b_PM_about 112 = .ok (.bipush 15, 2) := by decide +kernel
theorem d_PM_about_114 : decode b_PM_about 114 = .ok (.invokevirtual 120, 3) := by decide +kernel
theorem d_PM_about_117 : decode b_PM_about 117 = .ok (.ireturn, 1) := by decide +kernel
theorem d_PM_about_118 : decode b_PM_about 118 = .ok (.aload_n 0, 1) := by decide +kernel
theorem d_PM_about_119 : decode b_PM_about 119 = .ok (.getfield 25, 3) := by decide +kernel
theorem d_PM_about_122 : decode b_PM_about 122 = .ok (.bipush 15, 2) := by decide +kernel
theorem d_PM_about_124 : decode b_PM_about 124 = .ok (.iaload, 1) := by decide +kernel
theorem d_PM_about_125 : decode b_PM_about 125 = .ok (.ireturn, 1) := by decide +kernel
theorem d_PM_about_126 : decode b_PM_about 126 = .ok (.aload_n 0, 1) := by decide +kernel
theorem d_PM_about_127 : decode b_PM_about 127 = .ok (.getfield 102, 3) := by decide +kernel
theorem d_PM_about_130 : decode b_PM_about 130 = .ok (.ireturn, 1) := by decide +kernel
theorem d_PM_about_131 : decode b_PM_about 131 = .ok (.aload_n 0, 1) := by decide +kernel
theorem d_PM_about_132 : decode b_PM_about 132 = .ok (.getfield 124, 3) := by decide +kernel
theorem d_PM_about_135 : decode b_PM_about 135 = .ok (.ireturn, 1) := by decide +kernel
theorem d_PM_about_136 : decode b_PM_about 136 = .ok (.aload_n 0, 1) := by decide +kernel
theorem d_PM_about_137 : decode b_PM_about 137 = .ok (.getfield 74, 3) := by decide +kernel
theorem d_PM_about_140 : decode b_PM_about 140 = .ok (.ireturn, 1) := by decide +kernel
theorem d_PM_about_141 : decode b_PM_about 141 = .ok (.bipush (-2), 2) := by decide +kernel
theorem d_PM_about_143 : decode b_PM_about 143 = .ok (.ireturn, 1) := by decide +kernel
theorem d_PM_again_0 : decode b_PM_again 0 = .ok (.aload_n 0, 1) := by decide +kernel
theorem d_PM_again_1 : decode b_PM_again 1 = .ok (.iconst 0, 1) := by decide +kernel
theorem d_PM_again_2 : decode b_PM_again 2 = .ok (.putfield 59, 3) := by decide +kernel
theorem d_PM_again_5 : decode b_PM_again 5 = .ok (.iload_n 1, 1) := by decide +kernel
theorem d_PM_again_6 : decode b_PM_again 6 = .ok (.i2l, 1) := by decide +kernel
theorem d_PM_again_7 : decode b_PM_again 7 = .ok (.lconst 0, 1) := by decide +kernel
theorem d_PM_again_8 : decode b_PM_again 8 = .ok (.lconst 1, 1) := by decide +kernel
theorem d_PM_again_9 : decode b_PM_again 9 = .ok (.invokestatic 66, 3) := by decide +kernel
theorem d_PM_again_12 : decode b_PM_again 12 = .ok (.ifCond .ne 5, 3) := by decide +kernel
theorem d_PM_again_15 : decode b_PM_again 15 = .ok (.iconst (-1), 1) := by decide +kernel
theorem d_PM_again_16 : decode b_PM_again 16 = .ok (.ireturn, 1) := by decide +kernel
theorem d_PM_again_17 : decode b_PM_again 17 = .ok (.aload_n 0, 1) := by decide +kernel
theorem d_PM_again_18 : decode b_PM_again 18 = .ok (.getfield 37, 3) := by decide +kernel
theorem d_PM_again_21 : decode b_PM_again 21 = .ok (.iload_n 1, 1) := by decide +kernel
theorem d_PM_again_22 : decode b_PM_again 22 = .ok (.baload, 1) := by decide +kernel
theorem d_PM_again_23 : decode b_PM_again 23 = .ok (.ifCond .ne 6, 3) := by decide +kernel
theorem d_PM_again_26 : decode b_PM_again 26 = .ok (.bipush (-3), 2) := by decide +kernel
theorem d_PM_again_28 : decode b_PM_again 28 = .ok (.ireturn, 1) := by decide +kernel
theorem d_PM_again_29 : decode b_PM_again 29 = .ok (.iconst 0, 1) := by decide +kernel
theorem d_PM_again_30 : decode b_PM_again 30 = .ok (.istore_n 2, 1) := by decide +kernel
theorem d_PM_again_31 : decode b_PM_again 31 = .ok (.iload_n 2, 1) := by decide +kernel
theorem d_PM_again_32 : decode b_PM_again 32 = .ok (.bipush 16, 2) := by decide +kernel
theorem d_PM_again_34 : decode b_PM_again 34 = .ok (.if_icmp .ge 26, 3) := by decide +kernel
theorem d_PM_again_37 : decode b_PM_again 37 = .ok (.aload_n 0, 1) := by decide +kernel
theorem d_PM_again_38 : decode b_PM_again 38 = .ok (.getfield 25, 3) := by decide +kernel
theorem d_PM_again_41 : decode b_PM_again 41 = .ok (.iload_n 2, 1) := by decide +kernel
theorem d_PM_again_42 : decode b_PM_again 42 = .ok (.aload_n 0, 1) := by decide +kernel
theorem d_PM_again_43 : decode b_PM_again 43 = .ok (.getfield 34, 3) := by decide +kernel
theorem d_PM_again_46 : decode b_PM_again 46 = .ok (.bipush 16, 2) := by decide +kernel
theorem d_PM_again_48 : decode b_PM_again 48 = .ok (.iload_n 1, 1) := by decide +kernel
theorem d_PM_again_49 : decode b_PM_again 49 = .ok (.imul, 1) := by decide +kernel
theorem d_PM_again_50 : decode b_PM_again 50 = .ok (.iload_n 2, 1) := by decide +kernel
theorem d_PM_again_51 : decode b_PM_again 51 = .ok (.iadd, 1) := by decide +kernel
theorem d_PM_again_52 : decode b_PM_again 52 = .ok (.iaload, 1) := by decide +kernel
theorem d_PM_again_53 : decode b_PM_again 53 = .ok (.iastore, 1) := by decide +kernel
theorem d_PM_again_54 : decode b_PM_again 54 = .ok (.iinc 2 1, 3) := by decide +kernel
theorem d_PM_again_57 : decode b_PM_again 57 = .ok (.goto (-26), 3) := by decide +kernel
theorem d_PM_again_60 : decode b_PM_again 60 = .ok (.aload_n 0, 1) := by decide +kernel
theorem d_PM_again_61 : decode b_PM_again 61 = .ok (.iconst 0, 1) := by decide +kernel
theorem d_PM_again_62 : decode b_PM_again 62 = .ok (.putfield 102, 3) := by decide +kernel
theorem d_PM_again_65 : decode b_PM_again 65 = .ok (.aload_n 0, 1) := by decide +kernel
theorem d_PM_again_66 : decode b_PM_again 66 = .ok (.getfield 25, 3) := by decide +kernel
theorem d_PM_again_69 : decode b_PM_again 69 = .ok (.bipush 15, 2) := by decide +kernel
theorem d_PM_again_71 : decode b_PM_again 71 = .ok (.iaload, 1) := by decide +kernel
theorem d_PM_again_72 : decode b_PM_again 72 = .ok (.ireturn, 1) := by decide +kernel
theorem d_PM_begin_0 : decode b_PM_begin 0 = .ok (.iconst 0, 1) := by decide +kernel
theorem d_PM_begin_1 : decode b_PM_begin 1 = .ok (.istore_n 1, 1) := by decide +kernel
theorem d_PM_begin_2 : decode b_PM_begin 2 = .ok (.iload_n 1, 1) := by decide +kernel
theorem d_PM_begin_3 : decode b_PM_begin 3 = .ok (.bipush 16, 2) := by decide +kernel
theorem d_PM_begin_5 : decode b_PM_begin 5 = .ok (.if_icmp .ge 21, 3) := by decide +kernel
theorem d_PM_begin_8 : decode b_PM_begin 8 = .ok (.aload_n 0, 1) := by decide +kernel
theorem d_PM_begin_9 : decode b_PM_begin 9 = .ok (.getfield 28, 3) := by decide +kernel
theorem d_PM_begin_12 : decode b_PM_begin 12 = .ok (.iload_n 1, 1) := by decide +kernel
theorem d_PM_begin_13 : decode b_PM_begin 13 = .ok (.aload_n 0, 1) := by decide +kernel
theorem d_PM_begin_14 : decode b_PM_begin 14 = .ok (.getfield 25, 3) := by decide +kernel
theorem d_PM_begin_17 : decode b_PM_begin 17 = .ok (.iload_n 1, 1) := by decide +kernel
theorem d_PM_begin_18 : decode b_PM_begin 18 = .ok (.iaload, 1) := by decide +kernel
theorem d_PM_begin_19 : decode b_PM_begin 19 = .ok (.iastore, 1) := by decide +kernel
theorem d_PM_begin_20 : decode b_PM_begin 20 = .ok (.iinc 1 1, 3) := by decide +kernel
theorem d_PM_begin_23 : decode b_PM_begin 23 = .ok (.goto (-21), 3) := by decide +kernel
theorem d_PM_begin_26 : decode b_PM_begin 26 = .ok (.return_, 1) := by decide +kernel
theorem d_PM_best_0 : decode b_PM_best 0 = .ok (.aload_n 0, 1) := by decide +kernel
theorem d_PM_best_1 : decode b_PM_best 1 = .ok (.iconst 0, 1) := by decide +kernel
theorem d_PM_best_2 : decode b_PM_best 2 = .ok (.putfield 59, 3) := by decide +kernel
theorem d_PM_best_5 : decode b_PM_best 5 = .ok (.iload_n 1, 1) := by decide +kernel
theorem d_PM_best_6 : decode b_PM_best 6 = .ok (.i2l, 1) := by decide +kernel
theorem d_PM_best_7 : decode b_PM_best 7 = .ok (.lconst 0, 1) := by decide +kernel
theorem d_PM_best_8 : decode b_PM_best 8 = .ok (.lconst 1, 1) := by decide +kernel
theorem d_PM_best_9 : decode b_PM_best 9 = .ok (.invokestatic 66, 3) := by decide +kernel
theorem d_PM_best_12 : decode b_PM_best 12 = .ok (.ifCond .ne 6, 3) := by decide +kernel
theorem d_PM_best_15 : decode b_PM_best 15 = .ok (.bipush (-2), 2) := by decide +kernel
theorem d_PM_best_17 : decode b_PM_best 17 = .ok (.ireturn, 1) := by decide +kernel
theorem d_PM_best_18 : decode b_PM_best 18 = .ok (.aload_n 0, 1) := by decide +kernel
theorem d_PM_best_19 : decode b_PM_best 19 = .ok (.invokevirtual 174, 3) := by decide +kernel
theorem d_PM_best_22 : decode b_PM_best 22 = .ok (.iload_n 1, 1) := by decide +kernel
theorem d_PM_best_23 : decode b_PM_best 23 = .ok (.ifCond .ne 10, 3) := by decide +kernel
theorem d_PM_best_26 : decode b_PM_best 26 = .ok (.aload_n 0, 1) := by decide +kernel
theorem d_PM_best_27 : decode b_PM_best 27 = .ok (.getfield 171, 3) := by decide +kernel
theorem d_PM_best_30 : decode b_PM_best 30 = .ok (.goto 7, 3) := by decide +kernel
theorem d_PM_best_33 : decode b_PM_best 33 = .ok (.aload_n 0, 1) := by decide +kernel
theorem d_PM_best_34 : decode b_PM_best 34 = .ok (.getfield 156, 3) := by decide +kernel
theorem d_PM_best_37 : decode b_PM_best 37 = .ok (.ireturn, 1) := by decide +kernel
theorem d_PM_cabman_0 : decode b_PM_cabman 0 = .ok (.aload_n 0, 1) := by decide +kernel
theorem d_PM_cabman_1 : decode b_PM_cabman 1 = .ok (.iconst 0, 1) := by decide +kernel
theorem d_PM_cabman_2 : decode b_PM_cabman 2 = .ok (.putfield 59, 3) := by decide +kernel
theorem d_PM_cabman_5 : decode b_PM_cabman 5 = .ok (.aload_n 0, 1) := by decide +kernel
theorem d_PM_cabman_6 : decode b_PM_cabman 6 = .ok (.iload_n 1, 1) := by decide +kernel
theorem d_PM_cabman_7 : decode b_PM_cabman 7 = .ok (.invokevirtual 133, 3) := by decide +kernel
theorem d_PM_cabman_10 : decode b_PM_cabman 10 = .ok (.ifCond .eq 5, 3) := by decide +kernel
theorem d_PM_cabman_13 : decode b_PM_cabman 13 = .ok (.iconst (-1), 1) := by decide +kernel
theorem d_PM_cabman_14 : decode b_PM_cabman 14 = .ok (.ireturn, 1) := by decide +kernel
theorem d_PM_cabman_15 : decode b_PM_cabman 15 = .ok (.iload_n 2, 1) := by decide +kernel
theorem d_PM_cabman_16 : decode b_PM_cabman 16 = .ok (.i2l, 1) := by decide +kernel
theorem d_PM_cabman_17 : decode b_PM_cabman 17 = .ok (.lconst 0, 1) := by decide +kernel
theorem d_PM_cabman_18 : decode b_PM_cabman 18 = .ok (.ldc2_w 136, 3) := by decide +kernel
theorem d_PM_cabman_21 : decode b_PM_cabman 21 = .ok (.invokestatic 66, 3) := by decide +kernel
theorem d_PM_cabman_24 : decode b_PM_cabman 24 = .ok (.ifCond .eq 17, 3) := by decide +kernel
theorem d_PM_cabman_27 : decode b_PM_cabman 27 = .ok (.aload_n 0, 1) := by decide +kernel
theorem d_PM_cabman_28 : decode b_PM_cabman 28 = .ok (.getfield 16, 3) := by decide +kernel
theorem d_PM_cabman_31 : decode b_PM_cabman 31 = .ok (.bipush 6, 2) := by decide +kernel
theorem d_PM_cabman_33 : decode b_PM_cabman 33 = .ok (.iload_n 1, 1) := by decide +kernel
theorem d_PM_cabman_34 : decode b_PM_cabman 34 = .ok (.imul, 1) := by decide +kernel
theorem d_PM_cabman_35 : decode b_PM_cabman 35 = .ok (.iload_n 2, 1) := by decide +kernel
theorem d_PM_cabman_36 : decode b_PM_cabman 36 = .ok (.iadd, 1) := by decide +kernel
theorem d_PM_cabman_37 : decode b_PM_cabman 37 = .ok (.iaload, 1) := by decide +kernel
theorem d_PM_cabman_38 : decode b_PM_cabman 38 = .ok (.goto 23, 3) := by decide +kernel
theorem d_PM_cabman_41 : decode b_PM_cabman 41 = .ok (.iload_n 2, 1) := by decide +kernel
theorem d_PM_cabman_42 : decode b_PM_cabman 42 = .ok (.bipush 6, 2) := by decide +kernel
theorem d_PM_cabman_44 : decode b_PM_cabman 44 = .ok (.if_icmp .ne 15, 3) := by decide +kernel
theorem d_PM_cabman_47 : decode b_PM_cabman 47 = .ok (.aload_n 0, 1) := by decide +kernel
theorem d_PM_cabman_48 : decode b_PM_cabman 48 = .ok (.getfield 25, 3) := by decide +kernel
theorem d_PM_cabman_51 : decode b_PM_cabman 51 = .ok (.bipush 10, 2) := by decide +kernel
theorem d_PM_cabman_53 : decode b_PM_cabman 53 = .ok (.iload_n 1, 1) := by decide +kernel
theorem d_PM_cabman_54 : decode b_PM_cabman 54 = .ok (.iadd, 1) := by decide +kernel
theorem d_PM_cabman_55 : decode b_PM_cabman 55 = .ok (.iaload, 1) := by decide +kernel
theorem d_PM_cabman_56 : decode b_PM_cabman 56 = .ok (.goto 5, 3) := by decide +kernel
theorem d_PM_cabman_59 : decode b_PM_cabman 59 = .ok (.bipush (-2), 2) := by decide +kernel
theorem d_PM_cabman_61 : decode b_PM_cabman 61 = .ok (.ireturn, 1) := by decide +kernel
theorem d_PM_call_0 : decode b_PM_call 0 = .ok (.aload_n 0, 1) := by decide +kernel
theorem d_PM_call_1 : decode b_PM_call 1 = .ok (.iconst 0, 1) := by decide +kernel
theorem d_PM_call_2 : decode b_PM_call 2 = .ok (.putfield 59, 3) := by decide +kernel
theorem d_PM_call_5 : decode b_PM_call 5 = .ok (.aload_n 0, 1) := by decide +kernel
theorem d_PM_call_6 : decode b_PM_call 6 = .ok (.iload_n 1, 1) := by decide +kernel
theorem d_PM_call_7 : decode b_PM_call 7 = .ok (.invokevirtual 153, 3) := by decide +kernel
theorem d_PM_call_10 : decode b_PM_call 10 = .ok (.ifCond .eq 12, 3) := by decide +kernel
theorem d_PM_call_13 : decode b_PM_call 13 = .ok (.aload_n 0, 1) := by decide +kernel
theorem d_PM_call_14 : decode b_PM_call 14 = .ok (.bipush 15, 2) := by decide +kernel
theorem d_PM_call_16 : decode b_PM_call 16 = .ok (.invokevirtual 120, 3) := by decide +kernel
theorem d_PM_call_19 : decode b_PM_call 19 = .ok (.goto 5, 3) := by decide +kernel
theorem d_PM_call_22 : decode b_PM_call 22 = .ok (.bipush (-2), 2) := by decide +kernel
theorem d_PM_call_24 : decode b_PM_call 24 = .ok (.ireturn, 1) := by decide +kernel
theorem d_PM_calledOf_0 : decode b_PM_calledOf 0 = .ok (.iconst 0, 1) := by decide +kernel
theorem d_PM_calledOf_1 : decode b_PM_calledOf 1 = .ok (.istore_n 2, 1) := by decide +kernel
theorem d_PM_calledOf_2 : decode b_PM_calledOf 2 = .ok (.iconst 0, 1) := by decide +kernel
theorem d_PM_calledOf_3 : decode b_PM_calledOf 3 = .ok (.istore_n 3, 1) := by decide +kernel
theorem d_PM_calledOf_4 : decode b_PM_calledOf 4 = .ok (.iload_n 3, 1) := by decide +kernel
theorem d_PM_calledOf_5 : decode b_PM_calledOf 5 = .ok (.aload_n 0, 1) := by decide +kernel
theorem d_PM_calledOf_6 : decode b_PM_calledOf 6 = .ok (.getfield 63, 3) := by decide +kernel
theorem d_PM_calledOf_9 : decode b_PM_calledOf 9 = .ok (.if_icmp .ge 28, 3) := by decide +kernel
theorem d_PM_calledOf_12 : decode b_PM_calledOf 12 = .ok (.iload_n 2, 1) := by decide +kernel
theorem d_PM_calledOf_13 : decode b_PM_calledOf 13 = .ok (.aload_n 0, 1) := by decide +kernel
theorem d_PM_calledOf_14 : decode b_PM_calledOf 14 = .ok (.iload_n 3, 1) := by decide +kernel
theorem d_PM_calledOf_15 : decode b_PM_calledOf 15 = .ok (.iload_n 1, 1) := by decide +kernel
theorem d_PM_calledOf_16 : decode b_PM_calledOf 16 = .ok (.invokevirtual 109, 3) := by decide +kernel
theorem d_PM_calledOf_19 : decode b_PM_calledOf 19 = .ok (.ifCond .eq 9, 3) := by decide +kernel
theorem d_PM_calledOf_22 : decode b_PM_calledOf 22 = .ok (.iconst 1, 1) := by decide +kernel
theorem d_PM_calledOf_23 : decode b_PM_calledOf 23 = .ok (.iload_n 3, 1) := by decide +kernel
theorem d_PM_calledOf_24 : decode b_PM_calledOf 24 = .ok (.ishl, 1) := by decide +kernel
theorem d_PM_calledOf_25 : decode b_PM_calledOf 25 = .ok (.goto 4, 3) := by decide +kernel
theorem d_PM_calledOf_28 : decode b_PM_calledOf 28 = .ok (.iconst 0, 1) := by decide +kernel
theorem d_PM_calledOf_29 : decode b_PM_calledOf 29 = .ok (.ior, 1) := by decide +kernel
theorem d_PM_calledOf_30 : decode b_PM_calledOf 30 = .ok (.istore_n 2, 1) := by decide +kernel
theorem d_PM_calledOf_31 : decode b_PM_calledOf 31 = .ok (.iinc 3 1, 3) := by decide +kernel
theorem d_PM_calledOf_34 : decode b_PM_calledOf 34 = .ok (.goto (-30), 3) := by decide +kernel
theorem d_PM_calledOf_37 : decode b_PM_calledOf 37 = .ok (.iload_n 2, 1) := by decide +kernel
theorem d_PM_calledOf_38 : decode b_PM_calledOf 38 = .ok (.ireturn, 1) := by decide +kernel
theorem d_PM_clean_0 : decode b_PM_clean 0 = .ok (.aload_n 0, 1) := by decide +kernel
theorem d_PM_clean_1 : decode b_PM_clean 1 = .ok (.iconst 0, 1) := by decide +kernel
theorem d_PM_clean_2 : decode b_PM_clean 2 = .ok (.putfield 59, 3) := by decide +kernel
theorem d_PM_clean_5 : decode b_PM_clean 5 = .ok (.iload_n 1, 1) := by decide +kernel
theorem d_PM_clean_6 : decode b_PM_clean 6 = .ok (.invokestatic 127, 3) := by decide +kernel
theorem d_PM_clean_9 : decode b_PM_clean 9 = .ok (.ifCond .eq 5, 3) := by decide +kernel
theorem d_PM_clean_12 : decode b_PM_clean 12 = .ok (.iconst (-1), 1) := by decide +kernel
theorem d_PM_clean_13 : decode b_PM_clean 13 = .ok (.ireturn, 1) := by decide +kernel
theorem d_PM_clean_14 : decode b_PM_clean 14 = .ok (.aload_n 0, 1) := by decide +kernel
theorem d_PM_clean_15 : decode b_PM_clean 15 = .ok (.getfield 25, 3) := by decide +kernel
theorem d_PM_clean_18 : decode b_PM_clean 18 = .ok (.iconst 0, 1) := by decide +kernel
theorem d_PM_clean_19 : decode b_PM_clean 19 = .ok (.iload_n 1, 1) := by decide +kernel
theorem d_PM_clean_20 : decode b_PM_clean 20 = .ok (.iadd, 1) := by decide +kernel
theorem d_PM_clean_21 : decode b_PM_clean 21 = .ok (.iaload, 1) := by decide +kernel
theorem d_PM_clean_22 : decode b_PM_clean 22 = .ok (.iconst 2, 1) := by decide +kernel
theorem d_PM_clean_23 : decode b_PM_clean 23 = .ok (.if_icmp .ne 6, 3) := by decide +kernel
theorem d_PM_clean_26 : decode b_PM_clean 26 = .ok (.bipush (-3), 2) := by decide +kernel
theorem d_PM_clean_28 : decode b_PM_clean 28 = .ok (.ireturn, 1) := by decide +kernel
theorem d_PM_clean_29 : decode b_PM_clean 29 = .ok (.aload_n 0, 1) := by decide +kernel
theorem d_PM_clean_30 : decode b_PM_clean 30 = .ok (.invokevirtual 142, 3) := by decide +kernel
theorem d_PM_clean_33 : decode b_PM_clean 33 = .ok (.aload_n 0, 1) := by decide +kernel
theorem d_PM_clean_34 : decode b_PM_clean 34 = .ok (.getfield 25, 3) := by decide +kernel
theorem d_PM_clean_37 : decode b_PM_clean 37 = .ok (.iconst 0, 1) := by decide +kernel
theorem d_PM_clean_38 : decode b_PM_clean 38 = .ok (.iload_n 1, 1) := by decide +kernel
theorem d_PM_clean_39 : decode b_PM_clean 39 = .ok (.iadd, 1) := by decide +kernel
theorem d_PM_clean_40 : decode b_PM_clean 40 = .ok (.dup2, 1) := by decide +kernel
theorem d_PM_clean_41 : decode b_PM_clean 41 = .ok (.iaload, 1) := by decide +kernel
theorem d_PM_clean_42 : decode b_PM_clean 42 = .ok (.iconst 1, 1) := by decide +kernel
theorem d_PM_clean_43 : decode b_PM_clean 43 = .ok (.iadd, 1) := by decide +kernel
theorem d_PM_clean_44 : decode b_PM_clean 44 = .ok (.iastore, 1) := by decide +kernel
theorem d_PM_clean_45 : decode b_PM_clean 45 = .ok (.aload_n 0, 1) := by decide +kernel
theorem d_PM_clean_46 : decode b_PM_clean 46 = .ok (.getfield 13, 3) := by decide +kernel
theorem d_PM_clean_49 : decode b_PM_clean 49 = .ok (.iconst 3, 1) := by decide +kernel
theorem d_PM_clean_50 : decode b_PM_clean 50 = .ok (.iload_n 1, 1) := by decide +kernel
theorem d_PM_clean_51 : decode b_PM_clean 51 = .ok (.imul, 1) := by decide +kernel
theorem d_PM_clean_52 : decode b_PM_clean 52 = .ok (.aload_n 0, 1) := by decide +kernel
theorem d_PM_clean_53 : decode b_PM_clean 53 = .ok (.getfield 25, 3) := by decide +kernel
theorem d_PM_clean_56 : decode b_PM_clean 56 = .ok (.iconst 0, 1) := by decide +kernel
theorem d_PM_clean_57 : decode b_PM_clean 57 = .ok (.iload_n 1, 1) := by decide +kernel
theorem d_PM_clean_58 : decode b_PM_clean 58 = .ok (.iadd, 1) := by decide +kernel
theorem d_PM_clean_59 : decode b_PM_clean 59 = .ok (.iaload, 1) := by decide +kernel
theorem d_PM_clean_60 : decode b_PM_clean 60 = .ok (.iadd, 1) := by decide +kernel
theorem d_PM_clean_61 : decode b_PM_clean 61 = .ok (.iaload, 1) := by decide +kernel
theorem d_PM_clean_62 : decode b_PM_clean 62 = .ok (.ireturn, 1) := by decide +kernel
theorem d_PM_divisor_0 : decode b_PM_divisor 0 = .ok (.iload_n 0, 1) := by decide +kernel
theorem d_PM_divisor_1 : decode b_PM_divisor 1 = .ok (.ifCond .ge 8, 3) := by decide +kernel
theorem d_PM_divisor_4 : decode b_PM_divisor 4 = .ok (.iload_n 0, 1) := by decide +kernel
theorem d_PM_divisor_5 : decode b_PM_divisor 5 = .ok (.ineg, 1) := by decide +kernel
theorem d_PM_divisor_6 : decode b_PM_divisor 6 = .ok (.goto 4, 3) := by decide +kernel
theorem d_PM_divisor_9 : decode b_PM_divisor 9 = .ok (.iload_n 0, 1) := by decide +kernel
theorem d_PM_divisor_10 : decode b_PM_divisor 10 = .ok (.istore_n 2, 1) := by decide +kernel
theorem d_PM_divisor_11 : decode b_PM_divisor 11 = .ok (.iload_n 1, 1) := by decide +kernel
theorem d_PM_divisor_12 : decode b_PM_divisor 12 = .ok (.istore_n 3, 1) := by decide +kernel
theorem d_PM_divisor_13 : decode b_PM_divisor 13 = .ok (.iload_n 3, 1) := by decide +kernel
theorem d_PM_divisor_14 : decode b_PM_divisor 14 = .ok (.ifCond .eq 16, 3) := by decide +kernel
theorem d_PM_divisor_17 : decode b_PM_divisor 17 = .ok (.iload_n 2, 1) := by decide +kernel
theorem d_PM_divisor_18 : decode b_PM_divisor 18 = .ok (.iload_n 3, 1) := by decide +kernel
theorem d_PM_divisor_19 : decode b_PM_divisor 19 = .ok (.irem, 1) := by decide +kernel
theorem d_PM_divisor_20 : decode b_PM_divisor 20 = .ok (.istore 4, 2) := by decide +kernel
theorem d_PM_divisor_22 : decode b_PM_divisor 22 = .ok (.iload_n 3, 1) := by decide +kernel
theorem d_PM_divisor_23 : decode b_PM_divisor 23 = .ok (.istore_n 2, 1) := by decide +kernel
theorem d_PM_divisor_24 : decode b_PM_divisor 24 = .ok (.iload 4, 2) := by decide +kernel
theorem d_PM_divisor_26 : decode b_PM_divisor 26 = .ok (.istore_n 3, 1) := by decide +kernel
theorem d_PM_divisor_27 : decode b_PM_divisor 27 = .ok (.goto (-14), 3) := by decide +kernel
theorem d_PM_divisor_30 : decode b_PM_divisor 30 = .ok (.iload_n 2, 1) := by decide +kernel
theorem d_PM_divisor_31 : decode b_PM_divisor 31 = .ok (.ireturn, 1) := by decide +kernel
theorem d_PM_does_0 : decode b_PM_does 0 = .ok (.iload_n 1, 1) := by decide +kernel
theorem d_PM_does_1 : decode b_PM_does 1 = .ok (.bipush 10, 2) := by decide +kernel
theorem d_PM_does_3 : decode b_PM_does 3 = .ok (.idiv, 1) := by decide +kernel
theorem d_PM_does_4 : decode b_PM_does 4 = .ok (.istore_n 2, 1) := by decide +kernel
theorem d_PM_does_5 : decode b_PM_does 5 = .ok (.iload_n 1, 1) := by decide +kernel
theorem d_PM_does_6 : decode b_PM_does 6 = .ok (.bipush 10, 2) := by decide +kernel
theorem d_PM_does_8 : decode b_PM_does 8 = .ok (.irem, 1) := by decide +kernel
theorem d_PM_does_9 : decode b_PM_does 9 = .ok (.istore_n 3, 1) := by decide +kernel
theorem d_PM_does_10 : decode b_PM_does 10 = .ok (.iload_n 1, 1) := by decide +kernel
theorem d_PM_does_11 : decode b_PM_does 11 = .ok (.ifCond .ne 13, 3) := by decide +kernel
theorem d_PM_does_14 : decode b_PM_does 14 = .ok (.aload_n 0, 1) := by decide +kernel
theorem d_PM_does_15 : decode b_PM_does 15 = .ok (.aload_n 0, 1) := by decide +kernel
theorem d_PM_does_16 : decode b_PM_does 16 = .ok (.getfield 28, 3) := by decide +kernel
theorem d_PM_does_19 : decode b_PM_does 19 = .ok (.invokevirtual 145, 3) := by decide +kernel
theorem d_PM_does_22 : decode b_PM_does 22 = .ok (.iconst 1, 1) := by decide +kernel
theorem d_PM_does_23 : decode b_PM_does 23 = .ok (.ireturn, 1) := by decide +kernel
theorem d_PM_does_24 : decode b_PM_does 24 = .ok (.iload_n 1, 1) := by decide +kernel
theorem d_PM_does_25 : decode b_PM_does 25 = .ok (.bipush 30, 2) := by decide +kernel
theorem d_PM_does_27 : decode b_PM_does 27 = .ok (.if_icmp .ne 27, 3) := by decide +kernel
theorem d_PM_does_30 : decode b_PM_does 30 = .ok (.aload_n 0, 1) := by decide +kernel
theorem d_PM_does_31 : decode b_PM_does 31 = .ok (.getfield 28, 3) := by decide +kernel
theorem d_PM_does_34 : decode b_PM_does 34 = .ok (.iconst 4, 1) := by decide +kernel
theorem d_PM_does_35 : decode b_PM_does 35 = .ok (.iaload, 1) := by decide +kernel
theorem d_PM_does_36 : decode b_PM_does 36 = .ok (.ifCond .le 18, 3) := by decide +kernel
theorem d_PM_does_39 : decode b_PM_does 39 = .ok (.aload_n 0, 1) := by decide +kernel
theorem d_PM_does_40 : decode b_PM_does 40 = .ok (.getfield 28, 3) := by decide +kernel
theorem d_PM_does_43 : decode b_PM_does 43 = .ok (.aload_n 0, 1) := by decide +kernel
theorem d_PM_does_44 : decode b_PM_does 44 = .ok (.getfield 28, 3) := by decide +kernel
theorem d_PM_does_47 : decode b_PM_does 47 = .ok (.iconst 5, 1) := by decide +kernel
theorem d_PM_does_48 : decode b_PM_does 48 = .ok (.iaload, 1) := by decide +kernel
theorem d_PM_does_49 : decode b_PM_does 49 = .ok (.invokestatic 138, 3) := by decide +kernel
theorem d_PM_does_52 : decode b_PM_does 52 = .ok (.iconst 1, 1) := by decide +kernel
theorem d_PM_does_53 : decode b_PM_does 53 = .ok (.ireturn, 1) := by decide +kernel
theorem d_PM_does_54 : decode b_PM_does 54 = .ok (.iload_n 3, 1) := by decide +kernel
theorem d_PM_does_55 : decode b_PM_does 55 = .ok (.invokestatic 127, 3) := by decide +kernel
theorem d_PM_does_58 : decode b_PM_does 58 = .ok (.ifCond .ne 36, 3) := by decide +kernel
theorem d_PM_does_61 : decode b_PM_does 61 = .ok (.iload_n 2, 1) := by decide +kernel
theorem d_PM_does_62 : decode b_PM_does 62 = .ok (.i2l, 1) := by decide +kernel
theorem d_PM_does_63 : decode b_PM_does 63 = .ok (.lconst 1, 1) := by decide +kernel
theorem d_PM_does_64 : decode b_PM_does 64 = .ok (.ldc2_w 131, 3) := by decide +kernel
theorem d_PM_does_67 : decode b_PM_does 67 = .ok (.invokestatic 66, 3) := by decide +kernel
theorem d_PM_does_70 : decode b_PM_does 70 = .ok (.ifCond .eq 24, 3) := by decide +kernel
theorem d_PM_does_73 : decode b_PM_does 73 = .ok (.aload_n 0, 1) := by decide +kernel
theorem d_PM_does_74 : decode b_PM_does 74 = .ok (.getfield 28, 3) := by decide +kernel
theorem d_PM_does_77 : decode b_PM_does 77 = .ok (.iconst 0, 1) := by decide +kernel
theorem d_PM_does_78 : decode b_PM_does 78 = .ok (.iload_n 3, 1) := by decide +kernel
theorem d_PM_does_79 : decode b_PM_does 79 = .ok (.iadd, 1) := by decide +kernel
theorem d_PM_does_80 : decode b_PM_does 80 = .ok (.iaload, 1) := by decide +kernel
theorem d_PM_does_81 : decode b_PM_does 81 = .ok (.iload_n 2, 1) := by decide +kernel
theorem d_PM_does_82 : decode b_PM_does 82 = .ok (.iconst 1, 1) := by decide +kernel
theorem d_PM_does_83 : decode b_PM_does 83 = .ok (.if_icmp .ne 7, 3) := by decide +kernel
theorem d_PM_does_86 : decode b_PM_does 86 = .ok (.iconst 2, 1) := by decide +kernel
theorem d_PM_does_87 : decode b_PM_does 87 = .ok (.goto 4, 3) := by decide +kernel
theorem d_PM_does_90 : decode b_PM_does 90 = .ok (.iconst 0, 1) := by decide +kernel
theorem d_PM_does_91 : decode b_PM_does 91 = .ok (.if_icmp .ne 5, 3) := by decide +kernel
theorem d_PM_does_94 : decode b_PM_does 94 = .ok (.iconst 0, 1) := by decide +kernel
theorem d_PM_does_95 : decode b_PM_does 95 = .ok (.ireturn, 1) := by decide +kernel
theorem d_PM_does_96 : decode b_PM_does 96 = .ok (.aload_n 0, 1) := by decide +kernel
theorem d_PM_does_97 : decode b_PM_does 97 = .ok (.getfield 28, 3) := by decide +kernel
theorem d_PM_does_100 : decode b_PM_does 100 = .ok (.iconst 0, 1) := by decide +kernel
theorem d_PM_does_101 : decode b_PM_does 101 = .ok (.iload_n 3, 1) := by decide +kernel
theorem d_PM_does_102 : decode b_PM_does 102 = .ok (.iadd, 1) := by decide +kernel
theorem d_PM_does_103 : decode b_PM_does 103 = .ok (.dup2, 1) := by decide +kernel
theorem d_PM_does_104 : decode b_PM_does 104 = .ok (.iaload, 1) := by decide +kernel
theorem d_PM_does_105 : decode b_PM_does 105 = .ok (.iload_n 2, 1) := by decide +kernel
theorem d_PM_does_106 : decode b_PM_does 106 = .ok (.iconst 1, 1) := by decide +kernel
theorem d_PM_does_107 : decode b_PM_does 107 = .ok (.if_icmp .ne 7, 3) := by decide +kernel
theorem d_PM_does_110 : decode b_PM_does 110 = .ok (.iconst 1, 1) := by decide +kernel
theorem d_PM_does_111 : decode b_PM_does 111 = .ok (.goto 4, 3) := by decide +kernel
theorem d_PM_does_114 : decode b_PM_does 114 = .ok (.iconst (-1), 1) := by decide +kernel
theorem d_PM_does_115 : decode b_PM_does 115 = .ok (.iadd, 1) := by decide +kernel
theorem d_PM_does_116 : decode b_PM_does 116 = .ok (.iastore, 1) := by decide +kernel
theorem d_PM_does_117 : decode b_PM_does 117 = .ok (.iconst 1, 1) := by decide +kernel
theorem d_PM_does_118 : decode b_PM_does 118 = .ok (.ireturn, 1) := by decide +kernel
theorem d_PM_fault_0 : decode b_PM_fault 0 = .ok (.aload_n 0, 1) := by decide +kernel
theorem d_PM_fault_1 : decode b_PM_fault 1 = .ok (.iconst 0, 1) := by decide +kernel
theorem d_PM_fault_2 : decode b_PM_fault 2 = .ok (.putfield 59, 3) := by decide +kernel
theorem d_PM_fault_5 : decode b_PM_fault 5 = .ok (.aload_n 0, 1) := by decide +kernel
theorem d_PM_fault_6 : decode b_PM_fault 6 = .ok (.invokevirtual 94, 3) := by decide +kernel
theorem d_PM_fault_9 : decode b_PM_fault 9 = .ok (.ireturn, 1) := by decide +kernel
theorem d_PM_figure_0 : decode b_PM_figure 0 = .ok (.aload_n 0, 1) := by decide +kernel
theorem d_PM_figure_1 : decode b_PM_figure 1 = .ok (.getfield 77, 3) := by decide +kernel
theorem d_PM_figure_4 : decode b_PM_figure 4 = .ok (.aload_n 0, 1) := by decide +kernel
theorem d_PM_figure_5 : decode b_PM_figure 5 = .ok (.getfield 74, 3) := by decide +kernel
theorem d_PM_figure_8 : decode b_PM_figure 8 = .ok (.if_icmp .eq 26, 3) := by decide +kernel
theorem d_PM_figure_11 : decode b_PM_figure 11 = .ok (.aload_n 0, 1) := by decide +kernel
theorem d_PM_figure_12 : decode b_PM_figure 12 = .ok (.getfield 7, 3) := by decide +kernel
theorem d_PM_figure_15 : decode b_PM_figure 15 = .ok (.aload_n 0, 1) := by decide +kernel
theorem d_PM_figure_16 : decode b_PM_figure 16 = .ok (.getfield 77, 3) := by decide +kernel
theorem d_PM_figure_19 : decode b_PM_figure 19 = .ok (.iaload, 1) := by decide +kernel
theorem d_PM_figure_20 : decode b_PM_figure 20 = .ok (.bipush 48, 2) := by decide +kernel
theorem d_PM_figure_22 : decode b_PM_figure 22 = .ok (.isub, 1) := by decide +kernel
theorem d_PM_figure_23 : decode b_PM_figure 23 = .ok (.i2l, 1) := by decide +kernel
theorem d_PM_figure_24 : decode b_PM_figure 24 = .ok (.iload_n 1, 1) := by decide +kernel
theorem d_PM_figure_25 : decode b_PM_figure 25 = .ok (.i2l, 1) := by decide +kernel
theorem d_PM_figure_26 : decode b_PM_figure 26 = .ok (.iload_n 2, 1) := by decide +kernel
theorem d_PM_figure_27 : decode b_PM_figure 27 = .ok (.i2l, 1) := by decide +kernel
theorem d_PM_figure_28 : decode b_PM_figure 28 = .ok (.invokestatic 66, 3) := by decide +kernel
theorem d_PM_figure_31 : decode b_PM_figure 31 = .ok (.ifCond .ne 6, 3) := by decide +kernel
theorem d_PM_figure_34 : decode b_PM_figure 34 = .ok (.bipush (-9), 2) := by decide +kernel
theorem d_PM_figure_36 : decode b_PM_figure 36 = .ok (.ireturn, 1) := by decide +kernel
theorem d_PM_figure_37 : decode b_PM_figure 37 = .ok (.aload_n 0, 1) := by decide +kernel
theorem d_PM_figure_38 : decode b_PM_figure 38 = .ok (.dup, 1) := by decide +kernel
theorem d_PM_figure_39 : decode b_PM_figure 39 = .ok (.getfield 77, 3) := by decide +kernel
theorem d_PM_figure_42 : decode b_PM_figure 42 = .ok (.iconst 1, 1) := by decide +kernel
theorem d_PM_figure_43 : decode b_PM_figure 43 = .ok (.iadd, 1) := by decide +kernel
theorem d_PM_figure_44 : decode b_PM_figure 44 = .ok (.putfield 77, 3) := by decide +kernel
theorem d_PM_figure_47 : decode b_PM_figure 47 = .ok (.aload_n 0, 1) := by decide +kernel
theorem d_PM_figure_48 : decode b_PM_figure 48 = .ok (.getfield 7, 3) := by decide +kernel
theorem d_PM_figure_51 : decode b_PM_figure 51 = .ok (.aload_n 0, 1) := by decide +kernel
theorem d_PM_figure_52 : decode b_PM_figure 52 = .ok (.getfield 77, 3) := by decide +kernel
theorem d_PM_figure_55 : decode b_PM_figure 55 = .ok (.iconst 1, 1) := by decide +kernel
theorem d_PM_figure_56 : decode b_PM_figure 56 = .ok (.isub, 1) := by decide +kernel
theorem d_PM_figure_57 : decode b_PM_figure 57 = .ok (.iaload, 1) := by decide +kernel
theorem d_PM_figure_58 : decode b_PM_figure 58 = .ok (.bipush 48, 2) := by decide +kernel
theorem d_PM_figure_60 : decode b_PM_figure 60 = .ok (.isub, 1) := by decide +kernel
theorem d_PM_figure_61 : decode b_PM_figure 61 = .ok (.ireturn, 1) := by decide +kernel
theorem d_PM_figuresOf_0 : decode b_PM_figuresOf 0 = .ok (.sipush 1000, 3) := by decide +kernel
theorem d_PM_figuresOf_3 : decode b_PM_figuresOf 3 = .ok (.iload_n 0, 1) := by decide +kernel
theorem d_PM_figuresOf_4 : decode b_PM_figuresOf 4 = .ok (.bipush 27, 2) := by decide +kernel
theorem d_PM_figuresOf_6 : decode b_PM_figuresOf 6 = .ok (.idiv, 1) := by decide +kernel
theorem d_PM_figuresOf_7 : decode b_PM_figuresOf 7 = .ok (.imul, 1) := by decide +kernel
theorem d_PM_figuresOf_8 : decode b_PM_figuresOf 8 = .ok (.bipush 100, 2) := by decide +kernel
theorem d_PM_figuresOf_10 : decode b_PM_figuresOf 10 = .ok (.iload_n 0, 1) := by decide +kernel
theorem d_PM_figuresOf_11 : decode b_PM_figuresOf 11 = .ok (.bipush 9, 2) := by decide +kernel
theorem d_PM_figuresOf_13 : decode b_PM_figuresOf 13 = .ok (.idiv, 1) := by decide +kernel
theorem d_PM_figuresOf_14 : decode b_PM_figuresOf 14 = .ok (.iconst 3, 1) := by decide +kernel
theorem d_PM_figuresOf_15 : decode b_PM_figuresOf 15 = .ok (.irem, 1) := by decide +kernel
theorem d_PM_figuresOf_16 : decode b_PM_figuresOf 16 = .ok (.imul, 1) := by decide +kernel
theorem d_PM_figuresOf_17 : decode b_PM_figuresOf 17 = .ok (.iadd, 1) := by decide +kernel
theorem d_PM_figuresOf_18 : decode b_PM_figuresOf 18 = .ok (.bipush 10, 2) := by decide +kernel
theorem d_PM_figuresOf_20 : decode b_PM_figuresOf 20 = .ok (.iload_n 0, 1) := by decide +kernel
theorem d_PM_figuresOf_21 : decode b_PM_figuresOf 21 = .ok (.iconst 3, 1) := by decide +kernel
theorem d_PM_figuresOf_22 : decode b_PM_figuresOf 22 = .ok (.idiv, 1) := by decide +kernel
theorem d_PM_figuresOf_23 : decode b_PM_figuresOf 23 = .ok (.iconst 3, 1) := by decide +kernel
theorem d_PM_figuresOf_24 : decode b_PM_figuresOf 24 = .ok (.irem, 1) := by decide +kernel
theorem d_PM_figuresOf_25 : decode b_PM_figuresOf 25 = .ok (.imul, 1) := by decide +kernel
theorem d_PM_figuresOf_26 : decode b_PM_figuresOf 26 = .ok (.iadd, 1) := by decide +kernel
theorem d_PM_figuresOf_27 : decode b_PM_figuresOf 27 = .ok (.iload_n 0, 1) := by decide +kernel
theorem d_PM_figuresOf_28 : decode b_PM_figuresOf 28 = .ok (.iconst 3, 1) := by decide +kernel
theorem d_PM_figuresOf_29 : decode b_PM_figuresOf 29 = .ok (.irem, 1) := by decide +kernel
theorem d_PM_figuresOf_30 : decode b_PM_figuresOf 30 = .ok (.iadd, 1) := by decide +kernel
theorem d_PM_figuresOf_31 : decode b_PM_figuresOf 31 = .ok (.ireturn, 1) := by decide +kernel
theorem d_PM_findBest_0 : decode b_PM_findBest 0 = .ok (.aload_n 0, 1) := by decide +kernel
theorem d_PM_findBest_1 : decode b_PM_findBest 1 = .ok (.bipush (-9), 2) := by decide +kernel
theorem d_PM_findBest_3 : decode b_PM_findBest 3 = .ok (.putfield 156, 3) := by decide +kernel
theorem d_PM_findBest_6 : decode b_PM_findBest 6 = .ok (.iconst 0, 1) := by decide +kernel
theorem d_PM_findBest_7 : decode b_PM_findBest 7 = .ok (.istore_n 1, 1) := by decide +kernel
theorem d_PM_findBest_8 : decode b_PM_findBest 8 = .ok (.iload_n 1, 1) := by decide +kernel
theorem d_PM_findBest_9 : decode b_PM_findBest 9 = .ok (.bipush 81, 2) := by decide +kernel
theorem d_PM_findBest_11 : decode b_PM_findBest 11 = .ok (.if_icmp .ge 78, 3) := by decide +kernel
theorem d_PM_findBest_14 : decode b_PM_findBest 14 = .ok (.aload_n 0, 1) := by decide +kernel
theorem d_PM_findBest_15 : decode b_PM_findBest 15 = .ok (.iload_n 1, 1) := by decide +kernel
theorem d_PM_findBest_16 : decode b_PM_findBest 16 = .ok (.invokestatic 159, 3) := by decide +kernel
theorem d_PM_findBest_19 : decode b_PM_findBest 19 = .ok (.invokevirtual 153, 3) := by decide +kernel
theorem d_PM_findBest_22 : decode b_PM_findBest 22 = .ok (.ifCond .eq 61, 3) := by decide +kernel
theorem d_PM_findBest_25 : decode b_PM_findBest 25 = .ok (.aload_n 0, 1) := by decide +kernel
theorem d_PM_findBest_26 : decode b_PM_findBest 26 = .ok (.bipush 15, 2) := by decide +kernel
theorem d_PM_findBest_28 : decode b_PM_findBest 28 = .ok (.invokevirtual 120, 3) := by decide +kernel
theorem d_PM_findBest_31 : decode b_PM_findBest 31 = .ok (.invokestatic 162, 3) := by decide +kernel
theorem d_PM_findBest_34 : decode b_PM_findBest 34 = .ok (.istore_n 2, 1) := by decide +kernel
theorem d_PM_findBest_35 : decode b_PM_findBest 35 = .ok (.iload_n 2, 1) := by decide +kernel
theorem d_PM_findBest_36 : decode b_PM_findBest 36 = .ok (.aload_n 0, 1) := by decide +kernel
theorem d_PM_findBest_37 : decode b_PM_findBest 37 = .ok (.getfield 156, 3) := by decide +kernel
theorem d_PM_findBest_40 : decode b_PM_findBest 40 = .ok (.if_icmp .gt 22, 3) := by decide +kernel
theorem d_PM_findBest_43 : decode b_PM_findBest 43 = .ok (.iload_n 2, 1) := by decide +kernel
theorem d_PM_findBest_44 : decode b_PM_findBest 44 = .ok (.aload_n 0, 1) := by decide +kernel
theorem d_PM_findBest_45 : decode b_PM_findBest 45 = .ok (.getfield 156, 3) := by decide +kernel
theorem d_PM_findBest_48 : decode b_PM_findBest 48 = .ok (.if_icmp .ne 35, 3) := by decide +kernel
theorem d_PM_findBest_51 : decode b_PM_findBest 51 = .ok (.iload_n 1, 1) := by decide +kernel
theorem d_PM_findBest_52 : decode b_PM_findBest 52 = .ok (.invokestatic 165, 3) := by decide +kernel
theorem d_PM_findBest_55 : decode b_PM_findBest 55 = .ok (.aload_n 0, 1) := by decide +kernel
theorem d_PM_findBest_56 : decode b_PM_findBest 56 = .ok (.getfield 168, 3) := by decide +kernel
theorem d_PM_findBest_59 : decode b_PM_findBest 59 = .ok (.if_icmp .ge 24, 3) := by decide +kernel
theorem d_PM_findBest_62 : decode b_PM_findBest 62 = .ok (.aload_n 0, 1) := by decide +kernel
theorem d_PM_findBest_63 : decode b_PM_findBest 63 = .ok (.iload_n 2, 1) := by decide +kernel
theorem d_PM_findBest_64 : decode b_PM_findBest 64 = .ok (.putfield 156, 3) := by decide +kernel
theorem d_PM_findBest_67 : decode b_PM_findBest 67 = .ok (.aload_n 0, 1) := by decide +kernel
theorem d_PM_findBest_68 : decode b_PM_findBest 68 = .ok (.iload_n 1, 1) := by decide +kernel
theorem d_PM_findBest_69 : decode b_PM_findBest 69 = .ok (.invokestatic 165, 3) := by decide +kernel
theorem d_PM_findBest_72 : decode b_PM_findBest 72 = .ok (.putfield 168, 3) := by decide +kernel
theorem d_PM_findBest_75 : decode b_PM_findBest 75 = .ok (.aload_n 0, 1) := by decide +kernel
theorem d_PM_findBest_76 : decode b_PM_findBest 76 = .ok (.iload_n 1, 1) := by decide +kernel
theorem d_PM_findBest_77 : decode b_PM_findBest 77 = .ok (.invokestatic 159, 3) := by decide +kernel
theorem d_PM_findBest_80 : decode b_PM_findBest 80 = .ok (.putfield 171, 3) := by decide +kernel
theorem d_PM_findBest_83 : decode b_PM_findBest 83 = .ok (.iinc 1 1, 3) := by decide +kernel
theorem d_PM_findBest_86 : decode b_PM_findBest 86 = .ok (.goto (-78), 3) := by decide +kernel
theorem d_PM_findBest_89 : decode b_PM_findBest 89 = .ok (.return_, 1) := by decide +kernel
theorem d_PM_findRests_0 : decode b_PM_findRests 0 = .ok (.aload_n 0, 1) := by decide +kernel
theorem d_PM_findRests_1 : decode b_PM_findRests 1 = .ok (.iconst 0, 1) := by decide +kernel
theorem d_PM_findRests_2 : decode b_PM_findRests 2 = .ok (.putfield 210, 3) := by decide +kernel
theorem d_PM_findRests_5 : decode b_PM_findRests 5 = .ok (.aload_n 0, 1) := by decide +kernel
theorem d_PM_findRests_6 : decode b_PM_findRests 6 = .ok (.bipush (-9), 2) := by decide +kernel
theorem d_PM_findRests_8 : decode b_PM_findRests 8 = .ok (.putfield 213, 3) := by decide +kernel
theorem d_PM_findRests_11 : decode b_PM_findRests 11 = .ok (.iconst 0, 1) := by decide +kernel
theorem d_PM_findRests_12 : decode b_PM_findRests 12 = .ok (.istore_n 3, 1) := by decide +kernel
theorem d_PM_findRests_13 : decode b_PM_findRests 13 = .ok (.iload_n 3, 1) := by decide +kernel
theorem d_PM_findRests_14 : decode b_PM_findRests 14 = .ok (.iconst 4, 1) := by decide +kernel
theorem d_PM_findRests_15 : decode b_PM_findRests 15 = .ok (.if_icmp .ge 142, 3) := by decide +kernel
theorem d_PM_findRests_18 : decode b_PM_findRests 18 = .ok (.iconst 0, 1) := by decide +kernel
theorem d_PM_findRests_19 : decode b_PM_findRests 19 = .ok (.istore 4, 2) := by decide +kernel
theorem d_PM_findRests_21 : decode b_PM_findRests 21 = .ok (.iload 4, 2) := by decide +kernel
theorem d_PM_findRests_23 : decode b_PM_findRests 23 = .ok (.iconst 4, 1) := by decide +kernel
theorem d_PM_findRests_24 : decode b_PM_findRests 24 = .ok (.if_icmp .ge 127, 3) := by decide +kernel
theorem d_PM_findRests_27 : decode b_PM_findRests 27 = .ok (.iconst 1, 1) := by decide +kernel
theorem d_PM_findRests_28 : decode b_PM_findRests 28 = .ok (.istore 5, 2) := by decide +kernel
theorem d_PM_findRests_30 : decode b_PM_findRests 30 = .ok (.iconst 0, 1) := by decide +kernel
theorem d_PM_findRests_31 : decode b_PM_findRests 31 = .ok (.istore 6, 2) := by decide +kernel
theorem d_PM_findRests_33 : decode b_PM_findRests 33 = .ok (.iload 6, 2) := by decide +kernel
theorem d_PM_findRests_35 : decode b_PM_findRests 35 = .ok (.iconst 4, 1) := by decide +kernel
theorem d_PM_findRests_36 : decode b_PM_findRests 36 = .ok (.if_icmp .ge 60, 3) := by decide +kernel
theorem d_PM_findRests_39 : decode b_PM_findRests 39 = .ok (.iload 5, 2) := by decide +kernel
theorem d_PM_findRests_41 : decode b_PM_findRests 41 = .ok (.ifCond .eq 46, 3) := by decide +kernel
theorem d_PM_findRests_44 : decode b_PM_findRests 44 = .ok (.aload_n 0, 1) := by decide +kernel
theorem d_PM_findRests_45 : decode b_PM_findRests 45 = .ok (.iload_n 1, 1) := by decide +kernel
theorem d_PM_findRests_46 : decode b_PM_findRests 46 = .ok (.iload 6, 2) := by decide +kernel
theorem d_PM_findRests_48 : decode b_PM_findRests 48 = .ok (.iload 4, 2) := by decide +kernel
theorem d_PM_findRests_50 : decode b_PM_findRests 50 = .ok (.invokevirtual 216, 3) := by decide +kernel
theorem d_PM_findRests_53 : decode b_PM_findRests 53 = .ok (.aload_n 0, 1) := by decide +kernel
theorem d_PM_findRests_54 : decode b_PM_findRests 54 = .ok (.iload_n 1, 1) := by decide +kernel
theorem d_PM_findRests_55 : decode b_PM_findRests 55 = .ok (.iload_n 3, 1) := by decide +kernel
theorem d_PM_findRests_56 : decode b_PM_findRests 56 = .ok (.iload 4, 2) := by decide +kernel
theorem d_PM_findRests_58 : decode b_PM_findRests 58 = .ok (.invokevirtual 216, 3) := by decide +kernel
theorem d_PM_findRests_61 : decode b_PM_findRests 61 = .ok (.if_icmp .gt 26, 3) := by decide +kernel
theorem d_PM_findRests_64 : decode b_PM_findRests 64 = .ok (.aload_n 0, 1) := by decide +kernel
theorem d_PM_findRests_65 : decode b_PM_findRests 65 = .ok (.iload_n 2, 1) := by decide +kernel
theorem d_PM_findRests_66 : decode b_PM_findRests 66 = .ok (.iload 6, 2) := by decide +kernel
theorem d_PM_findRests_68 : decode b_PM_findRests 68 = .ok (.iload_n 3, 1) := by decide +kernel
theorem d_PM_findRests_69 : decode b_PM_findRests 69 = .ok (.invokevirtual 216, 3) := by decide +kernel
theorem d_PM_findRests_72 : decode b_PM_findRests 72 = .ok (.aload_n 0, 1) := by decide +kernel
theorem d_PM_findRests_73 : decode b_PM_findRests 73 = .ok (.iload_n 2, 1) := by decide +kernel
theorem d_PM_findRests_74 : decode b_PM_findRests 74 = .ok (.iload 4, 2) := by decide +kernel
theorem d_PM_findRests_76 : decode b_PM_findRests 76 = .ok (.iload_n 3, 1) := by decide +kernel
theorem d_PM_findRests_77 : decode b_PM_findRests 77 = .ok (.invokevirtual 216, 3) := by decide +kernel
theorem d_PM_findRests_80 : decode b_PM_findRests 80 = .ok (.if_icmp .gt 7, 3) := by decide +kernel
theorem d_PM_findRests_83 : decode b_PM_findRests 83 = .ok (.iconst 1, 1) := by decide +kernel
theorem d_PM_findRests_84 : decode b_PM_findRests 84 = .ok (.goto 4, 3) := by decide +kernel
theorem d_PM_findRests_87 : decode b_PM_findRests 87 = .ok (.iconst 0, 1) := by decide +kernel
theorem d_PM_findRests_88 : decode b_PM_findRests 88 = .ok (.istore 5, 2) := by decide +kernel
theorem d_PM_findRests_90 : decode b_PM_findRests 90 = .ok (.iinc 6 1, 3) := by decide +kernel
theorem d_PM_findRests_93 : decode b_PM_findRests 93 = .ok (.goto (-60), 3) := by decide +kernel
theorem d_PM_findRests_96 : decode b_PM_findRests 96 = .ok (.aload_n 0, 1) := by decide +kernel
theorem d_PM_findRests_97 : decode b_PM_findRests 97 = .ok (.iload 5, 2) := by decide +kernel
theorem d_PM_findRests_99 : decode b_PM_findRests 99 = .ok (.ifCond .eq 20, 3) := by decide +kernel
theorem d_PM_findRests_102 : decode b_PM_findRests 102 = .ok (.aload_n 0, 1) := by decide +kernel
theorem d_PM_findRests_103 : decode b_PM_findRests 103 = .ok (.getfield 210, 3) := by decide +kernel
theorem d_PM_findRests_106 : decode b_PM_findRests 106 = .ok (.ifCond .ne 13, 3) := by decide +kernel
theorem d_PM_findRests_109 : decode b_PM_findRests 109 = .ok (.bipush 10, 2) := by decide +kernel
theorem d_PM_findRests_111 : decode b_PM_findRests 111 = .ok (.iload_n 3, 1) := by decide +kernel
theorem d_PM_findRests_112 : decode b_PM_findRests 112 = .ok (.imul, 1) := by decide +kernel
theorem d_PM_findRests_113 : decode b_PM_findRests 113 = .ok (.iload 4, 2) := by decide +kernel
theorem d_PM_findRests_115 : decode b_PM_findRests 115 = .ok (.iadd, 1) := by decide +kernel
theorem d_PM_findRests_116 : decode b_PM_findRests 116 = .ok (.goto 7, 3) := by decide +kernel
theorem d_PM_findRests_119 : decode b_PM_findRests 119 = .ok (.aload_n 0, 1) := by decide +kernel
theorem d_PM_findRests_120 : decode b_PM_findRests 120 = .ok (.getfield 213, 3) := by decide +kernel
theorem d_PM_findRests_123 : decode b_PM_findRests 123 = .ok (.putfield 213, 3) := by decide +kernel
theorem d_PM_findRests_126 : decode b_PM_findRests 126 = .ok (.aload_n 0, 1) := by decide +kernel
theorem d_PM_findRests_127 : decode b_PM_findRests 127 = .ok (.dup, 1) := by decide +kernel
theorem d_PM_findRests_128 : decode b_PM_findRests 128 = .ok (.getfield 210, 3) := by decide +kernel
theorem d_PM_findRests_131 : decode b_PM_findRests 131 = .ok (.iload 5, 2) := by decide +kernel
theorem d_PM_findRests_133 : decode b_PM_findRests 133 = .ok (.ifCond .eq 7, 3) := by decide +kernel
theorem d_PM_findRests_136 : decode b_PM_findRests 136 = .ok (.iconst 1, 1) := by decide +kernel
theorem d_PM_findRests_137 : decode b_PM_findRests 137 = .ok (.goto 4, 3) := by decide +kernel
theorem d_PM_findRests_140 : decode b_PM_findRests 140 = .ok (.iconst 0, 1) := by decide +kernel
theorem d_PM_findRests_141 : decode b_PM_findRests 141 = .ok (.iadd, 1) := by decide +kernel
theorem d_PM_findRests_142 : decode b_PM_findRests 142 = .ok (.putfield 210, 3) := by decide +kernel
theorem d_PM_findRests_145 : decode b_PM_findRests 145 = .ok (.iinc 4 1, 3) := by decide +kernel
theorem d_PM_findRests_148 : decode b_PM_findRests 148 = .ok (.goto (-127), 3) := by decide +kernel
theorem d_PM_findRests_151 : decode b_PM_findRests 151 = .ok (.iinc 3 1, 3) := by decide +kernel
theorem d_PM_findRests_154 : decode b_PM_findRests 154 = .ok (.goto (-141), 3) := by decide +kernel
theorem d_PM_findRests_157 : decode b_PM_findRests 157 = .ok (.return_, 1) := by decide +kernel
theorem d_PM_findStrokes_0 : decode b_PM_findStrokes 0 = .ok (.aload_n 0, 1) := by decide +kernel
theorem d_PM_findStrokes_1 : decode b_PM_findStrokes 1 = .ok (.bipush (-9), 2) := by decide +kernel
theorem d_PM_findStrokes_3 : decode b_PM_findStrokes 3 = .ok (.putfield 171, 3) := by decide +kernel
theorem d_PM_findStrokes_6 : decode b_PM_findStrokes 6 = .ok (.aload_n 0, 1) := by decide +kernel
theorem d_PM_findStrokes_7 : decode b_PM_findStrokes 7 = .ok (.bipush (-9), 2) := by decide +kernel
theorem d_PM_findStrokes_9 : decode b_PM_findStrokes 9 = .ok (.putfield 168, 3) := by decide +kernel
theorem d_PM_findStrokes_12 : decode b_PM_findStrokes 12 = .ok (.iconst 0, 1) := by decide +kernel
theorem d_PM_findStrokes_13 : decode b_PM_findStrokes 13 = .ok (.istore_n 2, 1) := by decide +kernel
theorem d_PM_findStrokes_14 : decode b_PM_findStrokes 14 = .ok (.iload_n 2, 1) := by decide +kernel
theorem d_PM_findStrokes_15 : decode b_PM_findStrokes 15 = .ok (.bipush 81, 2) := by decide +kernel
theorem d_PM_findStrokes_17 : decode b_PM_findStrokes 17 = .ok (.if_icmp .ge 94, 3) := by decide +kernel
theorem d_PM_findStrokes_20 : decode b_PM_findStrokes 20 = .ok (.aload_n 0, 1) := by decide +kernel
theorem d_PM_findStrokes_21 : decode b_PM_findStrokes 21 = .ok (.getfield 171, 3) := by decide +kernel
theorem d_PM_findStrokes_24 : decode b_PM_findStrokes 24 = .ok (.bipush (-9), 2) := by decide +kernel
theorem d_PM_findStrokes_26 : decode b_PM_findStrokes 26 = .ok (.if_icmp .eq 14, 3) := by decide +kernel
theorem d_PM_findStrokes_29 : decode b_PM_findStrokes 29 = .ok (.iload_n 2, 1) := by decide +kernel
theorem d_PM_findStrokes_30 : decode b_PM_findStrokes 30 = .ok (.invokestatic 165, 3) := by decide +kernel
theorem d_PM_findStrokes_33 : decode b_PM_findStrokes 33 = .ok (.aload_n 0, 1) := by decide +kernel
theorem d_PM_findStrokes_34 : decode b_PM_findStrokes 34 = .ok (.getfield 168, 3) := by decide +kernel
theorem d_PM_findStrokes_37 : decode b_PM_findStrokes 37 = .ok (.if_icmp .ge 7, 3) := by decide +kernel
theorem d_PM_findStrokes_40 : decode b_PM_findStrokes 40 = .ok (.iconst 1, 1) := by decide +kernel
theorem d_PM_findStrokes_41 : decode b_PM_findStrokes 41 = .ok (.goto 4, 3) := by decide +kernel
theorem d_PM_findStrokes_44 : decode b_PM_findStrokes 44 = .ok (.iconst 0, 1) := by decide +kernel
theorem d_PM_findStrokes_45 : decode b_PM_findStrokes 45 = .ok (.istore_n 3, 1) := by decide +kernel
theorem d_PM_findStrokes_46 : decode b_PM_findStrokes 46 = .ok (.iload_n 3, 1) := by decide +kernel
theorem d_PM_findStrokes_47 : decode b_PM_findStrokes 47 = .ok (.ifCond .eq 58, 3) := by decide +kernel
theorem d_PM_findStrokes_50 : decode b_PM_findStrokes 50 = .ok (.aload_n 0, 1) := by decide +kernel
theorem d_PM_findStrokes_51 : decode b_PM_findStrokes 51 = .ok (.iload_n 2, 1) := by decide +kernel
theorem d_PM_findStrokes_52 : decode b_PM_findStrokes 52 = .ok (.invokestatic 159, 3) := by decide +kernel
theorem d_PM_findStrokes_55 : decode b_PM_findStrokes 55 = .ok (.invokevirtual 153, 3) := by decide +kernel
theorem d_PM_findStrokes_58 : decode b_PM_findStrokes 58 = .ok (.ifCond .eq 47, 3) := by decide +kernel
theorem d_PM_findStrokes_61 : decode b_PM_findStrokes 61 = .ok (.iload_n 1, 1) := by decide +kernel
theorem d_PM_findStrokes_62 : decode b_PM_findStrokes 62 = .ok (.bipush (-9), 2) := by decide +kernel
theorem d_PM_findStrokes_64 : decode b_PM_findStrokes 64 = .ok (.if_icmp .ne 15, 3) := by decide +kernel
theorem d_PM_findStrokes_67 : decode b_PM_findStrokes 67 = .ok (.aload_n 0, 1) := by decide +kernel
theorem d_PM_findStrokes_68 : decode b_PM_findStrokes 68 = .ok (.bipush 15, 2) := by decide +kernel
theorem d_PM_findStrokes_70 : decode b_PM_findStrokes 70 = .ok (.invokevirtual 120, 3) := by decide +kernel
theorem d_PM_findStrokes_73 : decode b_PM_findStrokes 73 = .ok (.ifCond .ne 32, 3) := by decide +kernel
theorem d_PM_findStrokes_76 : decode b_PM_findStrokes 76 = .ok (.goto 13, 3) := by decide +kernel
theorem d_PM_findStrokes_79 : decode b_PM_findStrokes 79 = .ok (.aload_n 0, 1) := by decide +kernel
theorem d_PM_findStrokes_80 : decode b_PM_findStrokes 80 = .ok (.iload_n 1, 1) := by decide +kernel
theorem d_PM_findStrokes_81 : decode b_PM_findStrokes 81 = .ok (.bipush 15, 2) := by decide +kernel
theorem d_PM_findStrokes_83 : decode b_PM_findStrokes 83 = .ok (.invokevirtual 109, 3) := by decide +kernel
theorem d_PM_findStrokes_86 : decode b_PM_findStrokes 86 = .ok (.ifCond .eq 19, 3) := by decide +kernel
theorem d_PM_findStrokes_89 : decode b_PM_findStrokes 89 = .ok (.aload_n 0, 1) := by decide +kernel
theorem d_PM_findStrokes_90 : decode b_PM_findStrokes 90 = .ok (.iload_n 2, 1) := by decide +kernel
theorem d_PM_findStrokes_91 : decode b_PM_findStrokes 91 = .ok (.invokestatic 159, 3) := by decide +kernel
theorem d_PM_findStrokes_94 : decode b_PM_findStrokes 94 = .ok (.putfield 171, 3) := by decide +kernel
theorem d_PM_findStrokes_97 : decode b_PM_findStrokes 97 = .ok (.aload_n 0, 1) := by decide +kernel
theorem d_PM_findStrokes_98 : decode b_PM_findStrokes 98 = .ok (.iload_n 2, 1) := by decide +kernel
theorem d_PM_findStrokes_99 : decode b_PM_findStrokes 99 = .ok (.invokestatic 165, 3) := by decide +kernel
theorem d_PM_findStrokes_102 : decode b_PM_findStrokes 102 = .ok (.putfield 168, 3) := by decide +kernel
theorem d_PM_findStrokes_105 : decode b_PM_findStrokes 105 = .ok (.iinc 2 1, 3) := by decide +kernel
theorem d_PM_findStrokes_108 : decode b_PM_findStrokes 108 = .ok (.goto (-94), 3) := by decide +kernel
theorem d_PM_findStrokes_111 : decode b_PM_findStrokes 111 = .ok (.return_, 1) := by decide +kernel
theorem d_PM_findUnder_0 : decode b_PM_findUnder 0 = .ok (.aload_n 0, 1) := by decide +kernel
theorem d_PM_findUnder_1 : decode b_PM_findUnder 1 = .ok (.iconst 0, 1) := by decide +kernel
theorem d_PM_findUnder_2 : decode b_PM_findUnder 2 = .ok (.putfield 201, 3) := by decide +kernel
theorem d_PM_findUnder_5 : decode b_PM_findUnder 5 = .ok (.aload_n 0, 1) := by decide +kernel
theorem d_PM_findUnder_6 : decode b_PM_findUnder 6 = .ok (.bipush (-9), 2) := by decide +kernel
theorem d_PM_findUnder_8 : decode b_PM_findUnder 8 = .ok (.putfield 204, 3) := by decide +kernel
theorem d_PM_findUnder_11 : decode b_PM_findUnder 11 = .ok (.iconst 0, 1) := by decide +kernel
theorem d_PM_findUnder_12 : decode b_PM_findUnder 12 = .ok (.istore_n 2, 1) := by decide +kernel
theorem d_PM_findUnder_13 : decode b_PM_findUnder 13 = .ok (.iload_n 2, 1) := by decide +kernel
theorem d_PM_findUnder_14 : decode b_PM_findUnder 14 = .ok (.bipush 27, 2) := by decide +kernel
theorem d_PM_findUnder_16 : decode b_PM_findUnder 16 = .ok (.if_icmp .ge 180, 3) := by decide +kernel
theorem d_PM_findUnder_19 : decode b_PM_findUnder 19 = .ok (.iconst 1, 1) := by decide +kernel
theorem d_PM_findUnder_20 : decode b_PM_findUnder 20 = .ok (.istore_n 3, 1) := by decide +kernel
theorem d_PM_findUnder_21 : decode b_PM_findUnder 21 = .ok (.iconst 0, 1) := by decide +kernel
theorem d_PM_findUnder_22 : decode b_PM_findUnder 22 = .ok (.istore 4, 2) := by decide +kernel
theorem d_PM_findUnder_24 : decode b_PM_findUnder 24 = .ok (.iload 4, 2) := by decide +kernel
theorem d_PM_findUnder_26 : decode b_PM_findUnder 26 = .ok (.aload_n 0, 1) := by decide +kernel
theorem d_PM_findUnder_27 : decode b_PM_findUnder 27 = .ok (.getfield 124, 3) := by decide +kernel
theorem d_PM_findUnder_30 : decode b_PM_findUnder 30 = .ok (.if_icmp .ge 119, 3) := by decide +kernel
theorem d_PM_findUnder_33 : decode b_PM_findUnder 33 = .ok (.iload_n 3, 1) := by decide +kernel
theorem d_PM_findUnder_34 : decode b_PM_findUnder 34 = .ok (.ifCond .eq 115, 3) := by decide +kernel
theorem d_PM_findUnder_37 : decode b_PM_findUnder 37 = .ok (.aload_n 0, 1) := by decide +kernel
theorem d_PM_findUnder_38 : decode b_PM_findUnder 38 = .ok (.getfield 44, 3) := by decide +kernel
theorem d_PM_findUnder_41 : decode b_PM_findUnder 41 = .ok (.iload 4, 2) := by decide +kernel
theorem d_PM_findUnder_43 : decode b_PM_findUnder 43 = .ok (.iaload, 1) := by decide +kernel
theorem d_PM_findUnder_44 : decode b_PM_findUnder 44 = .ok (.iload_n 1, 1) := by decide +kernel
theorem d_PM_findUnder_45 : decode b_PM_findUnder 45 = .ok (.if_icmp .ne 21, 3) := by decide +kernel
theorem d_PM_findUnder_48 : decode b_PM_findUnder 48 = .ok (.aload_n 0, 1) := by decide +kernel
theorem d_PM_findUnder_49 : decode b_PM_findUnder 49 = .ok (.aload_n 0, 1) := by decide +kernel
theorem d_PM_findUnder_50 : decode b_PM_findUnder 50 = .ok (.getfield 41, 3) := by decide +kernel
theorem d_PM_findUnder_53 : decode b_PM_findUnder 53 = .ok (.iload 4, 2) := by decide +kernel
theorem d_PM_findUnder_55 : decode b_PM_findUnder 55 = .ok (.iaload, 1) := by decide +kernel
theorem d_PM_findUnder_56 : decode b_PM_findUnder 56 = .ok (.invokevirtual 133, 3) := by decide +kernel
theorem d_PM_findUnder_59 : decode b_PM_findUnder 59 = .ok (.ifCond .ne 7, 3) := by decide +kernel
theorem d_PM_findUnder_62 : decode b_PM_findUnder 62 = .ok (.iconst 1, 1) := by decide +kernel
theorem d_PM_findUnder_63 : decode b_PM_findUnder 63 = .ok (.goto 4, 3) := by decide +kernel
theorem d_PM_findUnder_66 : decode b_PM_findUnder 66 = .ok (.iconst 0, 1) := by decide +kernel
theorem d_PM_findUnder_67 : decode b_PM_findUnder 67 = .ok (.istore 5, 2) := by decide +kernel
theorem d_PM_findUnder_69 : decode b_PM_findUnder 69 = .ok (.aload_n 0, 1) := by decide +kernel
theorem d_PM_findUnder_70 : decode b_PM_findUnder 70 = .ok (.aload_n 0, 1) := by decide +kernel
theorem d_PM_findUnder_71 : decode b_PM_findUnder 71 = .ok (.getfield 25, 3) := by decide +kernel
theorem d_PM_findUnder_74 : decode b_PM_findUnder 74 = .ok (.invokevirtual 112, 3) := by decide +kernel
theorem d_PM_findUnder_77 : decode b_PM_findUnder 77 = .ok (.aload_n 0, 1) := by decide +kernel
theorem d_PM_findUnder_78 : decode b_PM_findUnder 78 = .ok (.getfield 56, 3) := by decide +kernel
theorem d_PM_findUnder_81 : decode b_PM_findUnder 81 = .ok (.iload_n 1, 1) := by decide +kernel
theorem d_PM_findUnder_82 : decode b_PM_findUnder 82 = .ok (.iload_n 2, 1) := by decide +kernel
theorem d_PM_findUnder_83 : decode b_PM_findUnder 83 = .ok (.iconst 3, 1) := by decide +kernel
theorem d_PM_findUnder_84 : decode b_PM_findUnder 84 = .ok (.iconst 2, 1) := by decide +kernel
theorem d_PM_findUnder_85 : decode b_PM_findUnder 85 = .ok (.aload_n 0, 1) := by decide +kernel
theorem d_PM_findUnder_86 : decode b_PM_findUnder 86 = .ok (.getfield 47, 3) := by decide +kernel
theorem d_PM_findUnder_89 : decode b_PM_findUnder 89 = .ok (.iload 4, 2) := by decide +kernel
theorem d_PM_findUnder_91 : decode b_PM_findUnder 91 = .ok (.iaload, 1) := by decide +kernel
theorem d_PM_findUnder_92 : decode b_PM_findUnder 92 = .ok (.isub, 1) := by decide +kernel
theorem d_PM_findUnder_93 : decode b_PM_findUnder 93 = .ok (.invokestatic 150, 3) := by decide +kernel
theorem d_PM_findUnder_96 : decode b_PM_findUnder 96 = .ok (.idiv, 1) := by decide +kernel
theorem d_PM_findUnder_97 : decode b_PM_findUnder 97 = .ok (.iconst 3, 1) := by decide +kernel
theorem d_PM_findUnder_98 : decode b_PM_findUnder 98 = .ok (.irem, 1) := by decide +kernel
theorem d_PM_findUnder_99 : decode b_PM_findUnder 99 = .ok (.iastore, 1) := by decide +kernel
theorem d_PM_findUnder_100 : decode b_PM_findUnder 100 = .ok (.iload 5, 2) := by decide +kernel
theorem d_PM_findUnder_102 : decode b_PM_findUnder 102 = .ok (.ifCond .eq 35, 3) := by decide +kernel
theorem d_PM_findUnder_105 : decode b_PM_findUnder 105 = .ok (.aload_n 0, 1) := by decide +kernel
theorem d_PM_findUnder_106 : decode b_PM_findUnder 106 = .ok (.aload_n 0, 1) := by decide +kernel
theorem d_PM_findUnder_107 : decode b_PM_findUnder 107 = .ok (.getfield 41, 3) := by decide +kernel
theorem d_PM_findUnder_110 : decode b_PM_findUnder 110 = .ok (.iload 4, 2) := by decide +kernel
theorem d_PM_findUnder_112 : decode b_PM_findUnder 112 = .ok (.iaload, 1) := by decide +kernel
theorem d_PM_findUnder_113 : decode b_PM_findUnder 113 = .ok (.bipush 15, 2) := by decide +kernel
theorem d_PM_findUnder_115 : decode b_PM_findUnder 115 = .ok (.invokevirtual 109, 3) := by decide +kernel
theorem d_PM_findUnder_118 : decode b_PM_findUnder 118 = .ok (.aload_n 0, 1) := by decide +kernel
theorem d_PM_findUnder_119 : decode b_PM_findUnder 119 = .ok (.getfield 50, 3) := by decide +kernel
theorem d_PM_findUnder_122 : decode b_PM_findUnder 122 = .ok (.iload 4, 2) := by decide +kernel
theorem d_PM_findUnder_124 : decode b_PM_findUnder 124 = .ok (.iaload, 1) := by decide +kernel
theorem d_PM_findUnder_125 : decode b_PM_findUnder 125 = .ok (.iconst 1, 1) := by decide +kernel
theorem d_PM_findUnder_126 : decode b_PM_findUnder 126 = .ok (.if_icmp .ne 7, 3) := by decide +kernel
theorem d_PM_findUnder_129 : decode b_PM_findUnder 129 = .ok (.iconst 1, 1) := by decide +kernel
theorem d_PM_findUnder_130 : decode b_PM_findUnder 130 = .ok (.goto 4, 3) := by decide +kernel
theorem d_PM_findUnder_133 : decode b_PM_findUnder 133 = .ok (.iconst 0, 1) := by decide +kernel
theorem d_PM_findUnder_134 : decode b_PM_findUnder 134 = .ok (.if_icmp .ne 7, 3) := by decide +kernel
theorem d_PM_findUnder_137 : decode b_PM_findUnder 137 = .ok (.iconst 1, 1) := by decide +kernel
theorem d_PM_findUnder_138 : decode b_PM_findUnder 138 = .ok (.goto 4, 3) := by decide +kernel
theorem d_PM_findUnder_141 : decode b_PM_findUnder 141 = .ok (.iconst 0, 1) := by decide +kernel
theorem d_PM_findUnder_142 : decode b_PM_findUnder 142 = .ok (.istore_n 3, 1) := by decide +kernel
theorem d_PM_findUnder_143 : decode b_PM_findUnder 143 = .ok (.iinc 4 1, 3) := by decide +kernel
theorem d_PM_findUnder_146 : decode b_PM_findUnder 146 = .ok (.goto (-122), 3) := by decide +kernel
theorem d_PM_findUnder_149 : decode b_PM_findUnder 149 = .ok (.aload_n 0, 1) := by decide +kernel
theorem d_PM_findUnder_150 : decode b_PM_findUnder 150 = .ok (.iload_n 3, 1) := by decide +kernel
theorem d_PM_findUnder_151 : decode b_PM_findUnder 151 = .ok (.ifCond .eq 14, 3) := by decide +kernel
theorem d_PM_findUnder_154 : decode b_PM_findUnder 154 = .ok (.aload_n 0, 1) := by decide +kernel
theorem d_PM_findUnder_155 : decode b_PM_findUnder 155 = .ok (.getfield 201, 3) := by decide +kernel
theorem d_PM_findUnder_158 : decode b_PM_findUnder 158 = .ok (.ifCond .ne 7, 3) := by decide +kernel
theorem d_PM_findUnder_161 : decode b_PM_findUnder 161 = .ok (.iload_n 2, 1) := by decide +kernel
theorem d_PM_findUnder_162 : decode b_PM_findUnder 162 = .ok (.goto 7, 3) := by decide +kernel
theorem d_PM_findUnder_165 : decode b_PM_findUnder 165 = .ok (.aload_n 0, 1) := by decide +kernel
theorem d_PM_findUnder_166 : decode b_PM_findUnder 166 = .ok (.getfield 204, 3) := by decide +kernel
theorem d_PM_findUnder_169 : decode b_PM_findUnder 169 = .ok (.putfield 204, 3) := by decide +kernel
theorem d_PM_findUnder_172 : decode b_PM_findUnder 172 = .ok (.aload_n 0, 1) := by decide +kernel
theorem d_PM_findUnder_173 : decode b_PM_findUnder 173 = .ok (.dup, 1) := by decide +kernel
theorem d_PM_findUnder_174 : decode b_PM_findUnder 174 = .ok (.getfield 201, 3) := by decide +kernel
theorem d_PM_findUnder_177 : decode b_PM_findUnder 177 = .ok (.iload_n 3, 1) := by decide +kernel
theorem d_PM_findUnder_178 : decode b_PM_findUnder 178 = .ok (.ifCond .eq 7, 3) := by decide +kernel
theorem d_PM_findUnder_181 : decode b_PM_findUnder 181 = .ok (.iconst 1, 1) := by decide +kernel
theorem d_PM_findUnder_182 : decode b_PM_findUnder 182 = .ok (.goto 4, 3) := by decide +kernel
theorem d_PM_findUnder_185 : decode b_PM_findUnder 185 = .ok (.iconst 0, 1) := by decide +kernel
theorem d_PM_findUnder_186 : decode b_PM_findUnder 186 = .ok (.iadd, 1) := by decide +kernel
theorem d_PM_findUnder_187 : decode b_PM_findUnder 187 = .ok (.putfield 201, 3) := by decide +kernel
theorem d_PM_findUnder_190 : decode b_PM_findUnder 190 = .ok (.iinc 2 1, 3) := by decide +kernel
theorem d_PM_findUnder_193 : decode b_PM_findUnder 193 = .ok (.goto (-180), 3) := by decide +kernel
theorem d_PM_findUnder_196 : decode b_PM_findUnder 196 = .ok (.return_, 1) := by decide +kernel

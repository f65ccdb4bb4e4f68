theorem d_PR_init_0 : decode b_PR_init 0 = .ok (.aload_n 0, 1) := by decide +kernel
theorem d_PR_init_1 : decode b_PR_init 1 = .ok (.invokespecial 3, 3) := by decide +kernel
theorem d_PR_init_4 : decode b_PR_init 4 = .ok (.aload_n 0, 1) := by decide +kernel
theorem d_PR_init_5 : decode b_PR_init 5 = .ok (.new 9, 3) := by decide +kernel
theorem d_PR_init_8 : decode b_PR_init 8 = .ok (.dup, 1) := by decide +kernel
theorem d_PR_init_9 : decode b_PR_init 9 = .ok (.invokespecial 11, 3) := by decide +kernel
theorem d_PR_init_12 : decode b_PR_init 12 = .ok (.putfield 12, 3) := by decide +kernel
theorem d_PR_init_15 : decode b_PR_init 15 = .ok (.aload_n 0, 1) := by decide +kernel
theorem d_PR_init_16 : decode b_PR_init 16 = .ok (.new 16, 3) := by decide +kernel
theorem d_PR_init_19 : decode b_PR_init 19 = .ok (.dup, 1) := by decide +kernel
theorem d_PR_init_20 : decode b_PR_init 20 = .ok (.invokespecial 18, 3) := by decide +kernel
theorem d_PR_init_23 : decode b_PR_init 23 = .ok (.putfield 19, 3) := by decide +kernel
theorem d_PR_init_26 : decode b_PR_init 26 = .ok (.aload_n 0, 1) := by decide +kernel
theorem d_PR_init_27 : decode b_PR_init 27 = .ok (.new 23, 3) := by decide +kernel
theorem d_PR_init_30 : decode b_PR_init 30 = .ok (.dup, 1) := by decide +kernel
theorem d_PR_init_31 : decode b_PR_init 31 = .ok (.invokespecial 25, 3) := by decide +kernel
theorem d_PR_init_34 : decode b_PR_init 34 = .ok (.putfield 26, 3) := by decide +kernel
theorem d_PR_init_37 : decode b_PR_init 37 = .ok (.aload_n 0, 1) := by decide +kernel
theorem d_PR_init_38 : decode b_PR_init 38 = .ok (.new 23, 3) := by decide +kernel
theorem d_PR_init_41 : decode b_PR_init 41 = .ok (.dup, 1) := by decide +kernel
theorem d_PR_init_42 : decode b_PR_init 42 = .ok (.invokespecial 25, 3) := by decide +kernel
theorem d_PR_init_45 : decode b_PR_init 45 = .ok (.putfield 30, 3) := by decide +kernel
theorem d_PR_init_48 : decode b_PR_init 48 = .ok (.aload_n 0, 1) := by decide +kernel
theorem d_PR_init_49 : decode b_PR_init 49 = .ok (.new 33, 3) := by decide +kernel
theorem d_PR_init_52 : decode b_PR_init 52 = .ok (.dup, 1) := by decide +kernel
theorem d_PR_init_53 : decode b_PR_init 53 = .ok (.invokespecial 35, 3) := by decide +kernel
theorem d_PR_init_56 : decode b_PR_init 56 = .ok (.putfield 36, 3) := by decide +kernel
theorem d_PR_init_59 : decode b_PR_init 59 = .ok (.aload_n 0, 1) := by decide +kernel
theorem d_PR_init_60 : decode b_PR_init 60 = .ok (.new 40, 3) := by decide +kernel
theorem d_PR_init_63 : decode b_PR_init 63 = .ok (.dup, 1) := by decide +kernel
theorem d_PR_init_64 : decode b_PR_init 64 = .ok (.bipush 14, 2) := by decide +kernel
theorem d_PR_init_66 : decode b_PR_init 66 = .ok (.invokespecial 42, 3) := by decide +kernel
theorem d_PR_init_69 : decode b_PR_init 69 = .ok (.putfield 45, 3) := by decide +kernel
theorem d_PR_init_72 : decode b_PR_init 72 = .ok (.aload_n 0, 1) := by decide +kernel
theorem d_PR_init_73 : decode b_PR_init 73 = .ok (.new 40, 3) := by decide +kernel
theorem d_PR_init_76 : decode b_PR_init 76 = .ok (.dup, 1) := by decide +kernel
theorem d_PR_init_77 : decode b_PR_init 77 = .ok (.iconst 2, 1) := by decide +kernel
theorem d_PR_init_78 : decode b_PR_init 78 = .ok (.invokespecial 42, 3) := by decide +kernel
theorem d_PR_init_81 : decode b_PR_init 81 = .ok (.putfield 49, 3) := by decide +kernel
theorem d_PR_init_84 : decode b_PR_init 84 = .ok (.aload_n 0, 1) := by decide +kernel
theorem d_PR_init_85 : decode b_PR_init 85 = .ok (.new 52, 3) := by decide +kernel
theorem d_PR_init_88 : decode b_PR_init 88 = .ok (.dup, 1) := by decide +kernel
theorem d_PR_init_89 : decode b_PR_init 89 = .ok (.invokespecial 54, 3) := by decide +kernel
theorem d_PR_init_92 : decode b_PR_init 92 = .ok (.putfield 55, 3) := by decide +kernel
theorem d_PR_init_95 : decode b_PR_init 95 = .ok (.aload_n 0, 1) := by decide +kernel
theorem d_PR_init_96 : decode b_PR_init 96 = .ok (.iconst 0, 1) := by decide +kernel
theorem d_PR_init_97 : decode b_PR_init 97 = .ok (.putfield 59, 3) := by decide +kernel
theorem d_PR_init_100 : decode b_PR_init 100 = .ok (.aload_n 0, 1) := by decide +kernel
theorem d_PR_init_101 : decode b_PR_init 101 = .ok (.iconst 0, 1) := by decide +kernel
theorem d_PR_init_102 : decode b_PR_init 102 = .ok (.putfield 63, 3) := by decide +kernel
theorem d_PR_init_105 : decode b_PR_init 105 = .ok (.aload_n 0, 1) := by decide +kernel
theorem d_PR_init_106 : decode b_PR_init 106 = .ok (.lconst 0, 1) := by decide +kernel
theorem d_PR_init_107 : decode b_PR_init 107 = .ok (.putfield 66, 3) := by decide +kernel
theorem d_PR_init_110 : decode b_PR_init 110 = .ok (.return_, 1) := by decide +kernel
theorem d_PR_about_0 : decode b_PR_about 0 = .ok (.iload_n 1, 1) := by decide +kernel
theorem d_PR_about_1 : decode b_PR_about 1 = .ok (.tableswitch 109 0 7 #[47, 55, 63, 71, 80, 88, 93, 101], 47) := by decide +kernel
theorem d_PR_about_48 : decode b_PR_about 48 = .ok (.aload_n 0, 1) := by decide +kernel
theorem d_PR_about_49 : decode b_PR_about 49 = .ok (.getfield 19, 3) := by decide +kernel
theorem d_PR_about_52 : decode b_PR_about 52 = .ok (.getfield 88, 3) := by decide +kernel
theorem d_PR_about_55 : decode b_PR_about 55 = .ok (.ireturn, 1) := by decide +kernel
theorem d_PR_about_56 : decode b_PR_about 56 = .ok (.aload_n 0, 1) := by decide +kernel
theorem d_PR_about_57 : decode b_PR_about 57 = .ok (.getfield 26, 3) := by decide +kernel
theorem d_PR_about_60 : decode b_PR_about 60 = .ok (.invokevirtual 91, 3) := by decide +kernel
theorem d_PR_about_63 : decode b_PR_about 63 = .ok (.ireturn, 1) := by decide +kernel
theorem d_PR_about_64 : decode b_PR_about 64 = .ok (.aload_n 0, 1) := by decide +kernel
theorem d_PR_about_65 : decode b_PR_about 65 = .ok (.getfield 26, 3) := by decide +kernel
theorem d_PR_about_68 : decode b_PR_about 68 = .ok (.invokevirtual 94, 3) := by decide +kernel
theorem d_PR_about_71 : decode b_PR_about 71 = .ok (.ireturn, 1) := by decide +kernel
theorem d_PR_about_72 : decode b_PR_about 72 = .ok (.aload_n 0, 1) := by decide +kernel
theorem d_PR_about_73 : decode b_PR_about 73 = .ok (.aload_n 0, 1) := by decide +kernel
theorem d_PR_about_74 : decode b_PR_about 74 = .ok (.getfield 26, 3) := by decide +kernel
theorem d_PR_about_77 : decode b_PR_about 77 = .ok (.invokevirtual 97, 3) := by decide +kernel
theorem d_PR_about_80 : decode b_PR_about 80 = .ok (.ireturn, 1) := by decide +kernel
theorem d_PR_about_81 : decode b_PR_about 81 = .ok (.aload_n 0, 1) := by decide +kernel
theorem d_PR_about_82 : decode b_PR_about 82 = .ok (.getfield 26, 3) := by decide +kernel
theorem d_PR_about_85 : decode b_PR_about 85 = .ok (.getfield 101, 3) := by decide +kernel
theorem d_PR_about_88 : decode b_PR_about 88 = .ok (.ireturn, 1) := by decide +kernel
theorem d_PR_about_89 : decode b_PR_about 89 = .ok (.aload_n 0, 1) := by decide +kernel
theorem d_PR_about_90 : decode b_PR_about 90 = .ok (.getfield 59, 3) := by decide +kernel
theorem d_PR_about_93 : decode b_PR_about 93 = .ok (.ireturn, 1) := by decide +kernel
theorem d_PR_about_94 : decode b_PR_about 94 = .ok (.aload_n 0, 1) := by decide +kernel
theorem d_PR_about_95 : decode b_PR_about 95 = .ok (.getfield 55, 3) := by decide +kernel
theorem d_PR_about_98 : decode b_PR_about 98 = .ok (.getfield 104, 3) := by decide +kernel
theorem d_PR_about_101 : decode b_PR_about 101 = .ok (.ireturn, 1) := by decide +kernel
theorem d_PR_about_102 : decode b_PR_about 102 = .ok (.aload_n 0, 1) := by decide +kernel
theorem d_PR_about_103 : decode b_PR_about 103 = .ok (.getfield 12, 3) := by decide +kernel
theorem d_PR_about_106 : decode b_PR_about 106 = .ok (.getfield 74, 3) := by decide +kernel
theorem d_PR_about_109 : decode b_PR_about 109 = .ok (.ireturn, 1) := by decide +kernel
theorem d_PR_about_110 : decode b_PR_about 110 = .ok (.bipush (-2), 2) := by decide +kernel
theorem d_PR_about_112 : decode b_PR_about 112 = .ok (.ireturn, 1) := by decide +kernel
theorem d_PR_again_0 : decode b_PR_again 0 = .ok (.iload_n 1, 1) := by decide +kernel
theorem d_PR_again_1 : decode b_PR_again 1 = .ok (.ifCond .lt 8, 3) := by decide +kernel
theorem d_PR_again_4 : decode b_PR_again 4 = .ok (.iload_n 1, 1) := by decide +kernel
theorem d_PR_again_5 : decode b_PR_again 5 = .ok (.iconst 2, 1) := by decide +kernel
theorem d_PR_again_6 : decode b_PR_again 6 = .ok (.if_icmp .lt 5, 3) := by decide +kernel
theorem d_PR_again_9 : decode b_PR_again 9 = .ok (.iconst (-1), 1) := by decide +kernel
theorem d_PR_again_10 : decode b_PR_again 10 = .ok (.ireturn, 1) := by decide +kernel
theorem d_PR_again_11 : decode b_PR_again 11 = .ok (.aload_n 0, 1) := by decide +kernel
theorem d_PR_again_12 : decode b_PR_again 12 = .ok (.getfield 63, 3) := by decide +kernel
theorem d_PR_again_15 : decode b_PR_again 15 = .ok (.iload_n 1, 1) := by decide +kernel
theorem d_PR_again_16 : decode b_PR_again 16 = .ok (.ishr, 1) := by decide +kernel
theorem d_PR_again_17 : decode b_PR_again 17 = .ok (.iconst 1, 1) := by decide +kernel
theorem d_PR_again_18 : decode b_PR_again 18 = .ok (.iand, 1) := by decide +kernel
theorem d_PR_again_19 : decode b_PR_again 19 = .ok (.ifCond .ne 6, 3) := by decide +kernel
theorem d_PR_again_22 : decode b_PR_again 22 = .ok (.bipush (-3), 2) := by decide +kernel
theorem d_PR_again_24 : decode b_PR_again 24 = .ok (.ireturn, 1) := by decide +kernel
theorem d_PR_again_25 : decode b_PR_again 25 = .ok (.aload_n 0, 1) := by decide +kernel
theorem d_PR_again_26 : decode b_PR_again 26 = .ok (.getfield 49, 3) := by decide +kernel
theorem d_PR_again_29 : decode b_PR_again 29 = .ok (.iload_n 1, 1) := by decide +kernel
theorem d_PR_again_30 : decode b_PR_again 30 = .ok (.aload_n 0, 1) := by decide +kernel
theorem d_PR_again_31 : decode b_PR_again 31 = .ok (.getfield 26, 3) := by decide +kernel
theorem d_PR_again_34 : decode b_PR_again 34 = .ok (.invokevirtual 164, 3) := by decide +kernel
theorem d_PR_again_37 : decode b_PR_again 37 = .ok (.aload_n 0, 1) := by decide +kernel
theorem d_PR_again_38 : decode b_PR_again 38 = .ok (.iconst 0, 1) := by decide +kernel
theorem d_PR_again_39 : decode b_PR_again 39 = .ok (.putfield 59, 3) := by decide +kernel
theorem d_PR_again_42 : decode b_PR_again 42 = .ok (.aload_n 0, 1) := by decide +kernel
theorem d_PR_again_43 : decode b_PR_again 43 = .ok (.getfield 26, 3) := by decide +kernel
theorem d_PR_again_46 : decode b_PR_again 46 = .ok (.getfield 101, 3) := by decide +kernel
theorem d_PR_again_49 : decode b_PR_again 49 = .ok (.ireturn, 1) := by decide +kernel
theorem d_PR_asCleaning_0 : decode b_PR_asCleaning 0 = .ok (.iload_n 0, 1) := by decide +kernel
theorem d_PR_asCleaning_1 : decode b_PR_asCleaning 1 = .ok (.bipush 27, 2) := by decide +kernel
theorem d_PR_asCleaning_3 : decode b_PR_asCleaning 3 = .ok (.idiv, 1) := by decide +kernel
theorem d_PR_asCleaning_4 : decode b_PR_asCleaning 4 = .ok (.sipush 1000, 3) := by decide +kernel
theorem d_PR_asCleaning_7 : decode b_PR_asCleaning 7 = .ok (.imul, 1) := by decide +kernel
theorem d_PR_asCleaning_8 : decode b_PR_asCleaning 8 = .ok (.iload_n 0, 1) := by decide +kernel
theorem d_PR_asCleaning_9 : decode b_PR_asCleaning 9 = .ok (.bipush 9, 2) := by decide +kernel
theorem d_PR_asCleaning_11 : decode b_PR_asCleaning 11 = .ok (.idiv, 1) := by decide +kernel
theorem d_PR_asCleaning_12 : decode b_PR_asCleaning 12 = .ok (.iconst 3, 1) := by decide +kernel
theorem d_PR_asCleaning_13 : decode b_PR_asCleaning 13 = .ok (.irem, 1) := by decide +kernel
theorem d_PR_asCleaning_14 : decode b_PR_asCleaning 14 = .ok (.bipush 100, 2) := by decide +kernel
theorem d_PR_asCleaning_16 : decode b_PR_asCleaning 16 = .ok (.imul, 1) := by decide +kernel
theorem d_PR_asCleaning_17 : decode b_PR_asCleaning 17 = .ok (.iadd, 1) := by decide +kernel
theorem d_PR_asCleaning_18 : decode b_PR_asCleaning 18 = .ok (.iload_n 0, 1) := by decide +kernel
theorem d_PR_asCleaning_19 : decode b_PR_asCleaning 19 = .ok (.iconst 3, 1) := by decide +kernel
theorem d_PR_asCleaning_20 : decode b_PR_asCleaning 20 = .ok (.idiv, 1) := by decide +kernel
theorem d_PR_asCleaning_21 : decode b_PR_asCleaning 21 = .ok (.iconst 3, 1) := by decide +kernel
theorem d_PR_asCleaning_22 : decode b_PR_asCleaning 22 = .ok (.irem, 1) := by decide +kernel
theorem d_PR_asCleaning_23 : decode b_PR_asCleaning 23 = .ok (.bipush 10, 2) := by decide +kernel
theorem d_PR_asCleaning_25 : decode b_PR_asCleaning 25 = .ok (.imul, 1) := by decide +kernel
theorem d_PR_asCleaning_26 : decode b_PR_asCleaning 26 = .ok (.iadd, 1) := by decide +kernel
theorem d_PR_asCleaning_27 : decode b_PR_asCleaning 27 = .ok (.iload_n 0, 1) := by decide +kernel
theorem d_PR_asCleaning_28 : decode b_PR_asCleaning 28 = .ok (.iconst 3, 1) := by decide +kernel
theorem d_PR_asCleaning_29 : decode b_PR_asCleaning 29 = .ok (.irem, 1) := by decide +kernel
theorem d_PR_asCleaning_30 : decode b_PR_asCleaning 30 = .ok (.iadd, 1) := by decide +kernel
theorem d_PR_asCleaning_31 : decode b_PR_asCleaning 31 = .ok (.ireturn, 1) := by decide +kernel
theorem d_PR_attempt_0 : decode b_PR_attempt 0 = .ok (.iload_n 2, 1) := by decide +kernel
theorem d_PR_attempt_1 : decode b_PR_attempt 1 = .ok (.tableswitch 113 0 3 #[31, 50, 71, 92], 31) := by decide +kernel
theorem d_PR_attempt_32 : decode b_PR_attempt 32 = .ok (.iload_n 3, 1) := by decide +kernel
theorem d_PR_attempt_33 : decode b_PR_attempt 33 = .ok (.ifCond .ne 8, 3) := by decide +kernel
theorem d_PR_attempt_36 : decode b_PR_attempt 36 = .ok (.aload_n 0, 1) := by decide +kernel
theorem d_PR_attempt_37 : decode b_PR_attempt 37 = .ok (.aload_n 1, 1) := by decide +kernel
theorem d_PR_attempt_38 : decode b_PR_attempt 38 = .ok (.invokevirtual 137, 3) := by decide +kernel
theorem d_PR_attempt_41 : decode b_PR_attempt 41 = .ok (.iload_n 3, 1) := by decide +kernel
theorem d_PR_attempt_42 : decode b_PR_attempt 42 = .ok (.ifCond .ne 7, 3) := by decide +kernel
theorem d_PR_attempt_45 : decode b_PR_attempt 45 = .ok (.iconst 1, 1) := by decide +kernel
theorem d_PR_attempt_46 : decode b_PR_attempt 46 = .ok (.goto 4, 3) := by decide +kernel
theorem d_PR_attempt_49 : decode b_PR_attempt 49 = .ok (.iconst 0, 1) := by decide +kernel
theorem d_PR_attempt_50 : decode b_PR_attempt 50 = .ok (.ireturn, 1) := by decide +kernel
theorem d_PR_attempt_51 : decode b_PR_attempt 51 = .ok (.iload_n 3, 1) := by decide +kernel
theorem d_PR_attempt_52 : decode b_PR_attempt 52 = .ok (.invokestatic 105, 3) := by decide +kernel
theorem d_PR_attempt_55 : decode b_PR_attempt 55 = .ok (.ifCond .eq 15, 3) := by decide +kernel
theorem d_PR_attempt_58 : decode b_PR_attempt 58 = .ok (.aload_n 1, 1) := by decide +kernel
theorem d_PR_attempt_59 : decode b_PR_attempt 59 = .ok (.iload_n 3, 1) := by decide +kernel
theorem d_PR_attempt_60 : decode b_PR_attempt 60 = .ok (.invokevirtual 149, 3) := by decide +kernel
theorem d_PR_attempt_63 : decode b_PR_attempt 63 = .ok (.ifCond .eq 7, 3) := by decide +kernel
theorem d_PR_attempt_66 : decode b_PR_attempt 66 = .ok (.iconst 1, 1) := by decide +kernel
theorem d_PR_attempt_67 : decode b_PR_attempt 67 = .ok (.goto 4, 3) := by decide +kernel
theorem d_PR_attempt_70 : decode b_PR_attempt 70 = .ok (.iconst 0, 1) := by decide +kernel
theorem d_PR_attempt_71 : decode b_PR_attempt 71 = .ok (.ireturn, 1) := by decide +kernel
theorem d_PR_attempt_72 : decode b_PR_attempt 72 = .ok (.iload_n 3, 1) := by decide +kernel
theorem d_PR_attempt_73 : decode b_PR_attempt 73 = .ok (.invokestatic 105, 3) := by decide +kernel
theorem d_PR_attempt_76 : decode b_PR_attempt 76 = .ok (.ifCond .eq 15, 3) := by decide +kernel
theorem d_PR_attempt_79 : decode b_PR_attempt 79 = .ok (.aload_n 1, 1) := by decide +kernel
theorem d_PR_attempt_80 : decode b_PR_attempt 80 = .ok (.iload_n 3, 1) := by decide +kernel
theorem d_PR_attempt_81 : decode b_PR_attempt 81 = .ok (.invokevirtual 155, 3) := by decide +kernel
theorem d_PR_attempt_84 : decode b_PR_attempt 84 = .ok (.ifCond .eq 7, 3) := by decide +kernel
theorem d_PR_attempt_87 : decode b_PR_attempt 87 = .ok (.iconst 1, 1) := by decide +kernel
theorem d_PR_attempt_88 : decode b_PR_attempt 88 = .ok (.goto 4, 3) := by decide +kernel
theorem d_PR_attempt_91 : decode b_PR_attempt 91 = .ok (.iconst 0, 1) := by decide +kernel
theorem d_PR_attempt_92 : decode b_PR_attempt 92 = .ok (.ireturn, 1) := by decide +kernel
theorem d_PR_attempt_93 : decode b_PR_attempt 93 = .ok (.iload_n 3, 1) := by decide +kernel
theorem d_PR_attempt_94 : decode b_PR_attempt 94 = .ok (.ifCond .ne 18, 3) := by decide +kernel
theorem d_PR_attempt_97 : decode b_PR_attempt 97 = .ok (.aload_n 1, 1) := by decide +kernel
theorem d_PR_attempt_98 : decode b_PR_attempt 98 = .ok (.aload_n 1, 1) := by decide +kernel
theorem d_PR_attempt_99 : decode b_PR_attempt 99 = .ok (.invokevirtual 158, 3) := by decide +kernel
theorem d_PR_attempt_102 : decode b_PR_attempt 102 = .ok (.invokevirtual 161, 3) := by decide +kernel
theorem d_PR_attempt_105 : decode b_PR_attempt 105 = .ok (.ifCond .eq 7, 3) := by decide +kernel
theorem d_PR_attempt_108 : decode b_PR_attempt 108 = .ok (.iconst 1, 1) := by decide +kernel
theorem d_PR_attempt_109 : decode b_PR_attempt 109 = .ok (.goto 4, 3) := by decide +kernel
theorem d_PR_attempt_112 : decode b_PR_attempt 112 = .ok (.iconst 0, 1) := by decide +kernel
theorem d_PR_attempt_113 : decode b_PR_attempt 113 = .ok (.ireturn, 1) := by decide +kernel
theorem d_PR_attempt_114 : decode b_PR_attempt 114 = .ok (.iconst 0, 1) := by decide +kernel
theorem d_PR_attempt_115 : decode b_PR_attempt 115 = .ok (.ireturn, 1) := by decide +kernel
theorem d_PR_best_0 : decode b_PR_best 0 = .ok (.iload_n 1, 1) := by decide +kernel
theorem d_PR_best_1 : decode b_PR_best 1 = .ok (.invokestatic 171, 3) := by decide +kernel
theorem d_PR_best_4 : decode b_PR_best 4 = .ok (.ifCond .ne 6, 3) := by decide +kernel
theorem d_PR_best_7 : decode b_PR_best 7 = .ok (.bipush (-2), 2) := by decide +kernel
theorem d_PR_best_9 : decode b_PR_best 9 = .ok (.ireturn, 1) := by decide +kernel
theorem d_PR_best_10 : decode b_PR_best 10 = .ok (.iconst 0, 1) := by decide +kernel
theorem d_PR_best_11 : decode b_PR_best 11 = .ok (.istore_n 2, 1) := by decide +kernel
theorem d_PR_best_12 : decode b_PR_best 12 = .ok (.aload_n 0, 1) := by decide +kernel
theorem d_PR_best_13 : decode b_PR_best 13 = .ok (.iload_n 2, 1) := by decide +kernel
theorem d_PR_best_14 : decode b_PR_best 14 = .ok (.invokevirtual 168, 3) := by decide +kernel
theorem d_PR_best_17 : decode b_PR_best 17 = .ok (.invokestatic 141, 3) := by decide +kernel
theorem d_PR_best_20 : decode b_PR_best 20 = .ok (.istore_n 3, 1) := by decide +kernel
theorem d_PR_best_21 : decode b_PR_best 21 = .ok (.iconst 1, 1) := by decide +kernel
theorem d_PR_best_22 : decode b_PR_best 22 = .ok (.istore 4, 2) := by decide +kernel
theorem d_PR_best_24 : decode b_PR_best 24 = .ok (.iload 4, 2) := by decide +kernel
theorem d_PR_best_26 : decode b_PR_best 26 = .ok (.bipush 81, 2) := by decide +kernel
theorem d_PR_best_28 : decode b_PR_best 28 = .ok (.if_icmp .ge 71, 3) := by decide +kernel
theorem d_PR_best_31 : decode b_PR_best 31 = .ok (.iload 4, 2) := by decide +kernel
theorem d_PR_best_33 : decode b_PR_best 33 = .ok (.invokestatic 174, 3) := by decide +kernel
theorem d_PR_best_36 : decode b_PR_best 36 = .ok (.istore 5, 2) := by decide +kernel
theorem d_PR_best_38 : decode b_PR_best 38 = .ok (.aload_n 0, 1) := by decide +kernel
theorem d_PR_best_39 : decode b_PR_best 39 = .ok (.iload 5, 2) := by decide +kernel
theorem d_PR_best_41 : decode b_PR_best 41 = .ok (.invokevirtual 168, 3) := by decide +kernel
theorem d_PR_best_44 : decode b_PR_best 44 = .ok (.istore 6, 2) := by decide +kernel
theorem d_PR_best_46 : decode b_PR_best 46 = .ok (.iload 6, 2) := by decide +kernel
theorem d_PR_best_48 : decode b_PR_best 48 = .ok (.bipush (-2), 2) := by decide +kernel
theorem d_PR_best_50 : decode b_PR_best 50 = .ok (.if_icmp .ne 6, 3) := by decide +kernel
theorem d_PR_best_53 : decode b_PR_best 53 = .ok (.goto 40, 3) := by decide +kernel
theorem d_PR_best_56 : decode b_PR_best 56 = .ok (.iload 6, 2) := by decide +kernel
theorem d_PR_best_58 : decode b_PR_best 58 = .ok (.invokestatic 141, 3) := by decide +kernel
theorem d_PR_best_61 : decode b_PR_best 61 = .ok (.istore 7, 2) := by decide +kernel
theorem d_PR_best_63 : decode b_PR_best 63 = .ok (.iload 7, 2) := by decide +kernel
theorem d_PR_best_65 : decode b_PR_best 65 = .ok (.iload_n 3, 1) := by decide +kernel
theorem d_PR_best_66 : decode b_PR_best 66 = .ok (.if_icmp .gt 21, 3) := by decide +kernel
theorem d_PR_best_69 : decode b_PR_best 69 = .ok (.iload 7, 2) := by decide +kernel
theorem d_PR_best_71 : decode b_PR_best 71 = .ok (.iload_n 3, 1) := by decide +kernel
theorem d_PR_best_72 : decode b_PR_best 72 = .ok (.if_icmp .ne 21, 3) := by decide +kernel
theorem d_PR_best_75 : decode b_PR_best 75 = .ok (.iload 5, 2) := by decide +kernel
theorem d_PR_best_77 : decode b_PR_best 77 = .ok (.invokestatic 177, 3) := by decide +kernel
theorem d_PR_best_80 : decode b_PR_best 80 = .ok (.iload_n 2, 1) := by decide +kernel
theorem d_PR_best_81 : decode b_PR_best 81 = .ok (.invokestatic 177, 3) := by decide +kernel
theorem d_PR_best_84 : decode b_PR_best 84 = .ok (.if_icmp .ge 9, 3) := by decide +kernel
theorem d_PR_best_87 : decode b_PR_best 87 = .ok (.iload 5, 2) := by decide +kernel
theorem d_PR_best_89 : decode b_PR_best 89 = .ok (.istore_n 2, 1) := by decide +kernel
theorem d_PR_best_90 : decode b_PR_best 90 = .ok (.iload 7, 2) := by decide +kernel
theorem d_PR_best_92 : decode b_PR_best 92 = .ok (.istore_n 3, 1) := by decide +kernel
theorem d_PR_best_93 : decode b_PR_best 93 = .ok (.iinc 4 1, 3) := by decide +kernel
theorem d_PR_best_96 : decode b_PR_best 96 = .ok (.goto (-72), 3) := by decide +kernel
theorem d_PR_best_99 : decode b_PR_best 99 = .ok (.iload_n 1, 1) := by decide +kernel
theorem d_PR_best_100 : decode b_PR_best 100 = .ok (.ifCond .ne 7, 3) := by decide +kernel
theorem d_PR_best_103 : decode b_PR_best 103 = .ok (.iload_n 2, 1) := by decide +kernel
theorem d_PR_best_104 : decode b_PR_best 104 = .ok (.goto 4, 3) := by decide +kernel
theorem d_PR_best_107 : decode b_PR_best 107 = .ok (.iload_n 3, 1) := by decide +kernel
theorem d_PR_best_108 : decode b_PR_best 108 = .ok (.ireturn, 1) := by decide +kernel
theorem d_PR_cabman_0 : decode b_PR_cabman 0 = .ok (.aload_n 0, 1) := by decide +kernel
theorem d_PR_cabman_1 : decode b_PR_cabman 1 = .ok (.getfield 19, 3) := by decide +kernel
theorem d_PR_cabman_4 : decode b_PR_cabman 4 = .ok (.iload_n 1, 1) := by decide +kernel
theorem d_PR_cabman_5 : decode b_PR_cabman 5 = .ok (.invokevirtual 119, 3) := by decide +kernel
theorem d_PR_cabman_8 : decode b_PR_cabman 8 = .ok (.ifCond .ne 5, 3) := by decide +kernel
theorem d_PR_cabman_11 : decode b_PR_cabman 11 = .ok (.iconst (-1), 1) := by decide +kernel
theorem d_PR_cabman_12 : decode b_PR_cabman 12 = .ok (.ireturn, 1) := by decide +kernel
theorem d_PR_cabman_13 : decode b_PR_cabman 13 = .ok (.iload_n 2, 1) := by decide +kernel
theorem d_PR_cabman_14 : decode b_PR_cabman 14 = .ok (.tableswitch 81 0 6 #[42, 51, 60, 60, 60, 60, 72], 42) := by decide +kernel
theorem d_PR_cabman_56 : decode b_PR_cabman 56 = .ok (.aload_n 0, 1) := by decide +kernel
theorem d_PR_cabman_57 : decode b_PR_cabman 57 = .ok (.getfield 19, 3) := by decide +kernel
theorem d_PR_cabman_60 : decode b_PR_cabman 60 = .ok (.iload_n 1, 1) := by decide +kernel
theorem d_PR_cabman_61 : decode b_PR_cabman 61 = .ok (.invokevirtual 122, 3) := by decide +kernel
theorem d_PR_cabman_64 : decode b_PR_cabman 64 = .ok (.ireturn, 1) := by decide +kernel
theorem d_PR_cabman_65 : decode b_PR_cabman 65 = .ok (.aload_n 0, 1) := by decide +kernel
theorem d_PR_cabman_66 : decode b_PR_cabman 66 = .ok (.getfield 19, 3) := by decide +kernel
theorem d_PR_cabman_69 : decode b_PR_cabman 69 = .ok (.iload_n 1, 1) := by decide +kernel
theorem d_PR_cabman_70 : decode b_PR_cabman 70 = .ok (.invokevirtual 125, 3) := by decide +kernel
theorem d_PR_cabman_73 : decode b_PR_cabman 73 = .ok (.ireturn, 1) := by decide +kernel
theorem d_PR_cabman_74 : decode b_PR_cabman 74 = .ok (.aload_n 0, 1) := by decide +kernel
theorem d_PR_cabman_75 : decode b_PR_cabman 75 = .ok (.getfield 19, 3) := by decide +kernel
theorem d_PR_cabman_78 : decode b_PR_cabman 78 = .ok (.iload_n 1, 1) := by decide +kernel
theorem d_PR_cabman_79 : decode b_PR_cabman 79 = .ok (.iload_n 2, 1) := by decide +kernel
theorem d_PR_cabman_80 : decode b_PR_cabman 80 = .ok (.iconst 2, 1) := by decide +kernel
theorem d_PR_cabman_81 : decode b_PR_cabman 81 = .ok (.isub, 1) := by decide +kernel
theorem d_PR_cabman_82 : decode b_PR_cabman 82 = .ok (.invokevirtual 128, 3) := by decide +kernel
theorem d_PR_cabman_85 : decode b_PR_cabman 85 = .ok (.ireturn, 1) := by decide +kernel
theorem d_PR_cabman_86 : decode b_PR_cabman 86 = .ok (.aload_n 0, 1) := by decide +kernel
theorem d_PR_cabman_87 : decode b_PR_cabman 87 = .ok (.getfield 26, 3) := by decide +kernel
theorem d_PR_cabman_90 : decode b_PR_cabman 90 = .ok (.iload_n 1, 1) := by decide +kernel
theorem d_PR_cabman_91 : decode b_PR_cabman 91 = .ok (.invokevirtual 131, 3) := by decide +kernel
theorem d_PR_cabman_94 : decode b_PR_cabman 94 = .ok (.ireturn, 1) := by decide +kernel
theorem d_PR_cabman_95 : decode b_PR_cabman 95 = .ok (.bipush (-2), 2) := by decide +kernel
theorem d_PR_cabman_97 : decode b_PR_cabman 97 = .ok (.ireturn, 1) := by decide +kernel
theorem d_PR_call_0 : decode b_PR_call 0 = .ok (.aload_n 0, 1) := by decide +kernel
theorem d_PR_call_1 : decode b_PR_call 1 = .ok (.iload_n 1, 1) := by decide +kernel
theorem d_PR_call_2 : decode b_PR_call 2 = .ok (.invokevirtual 168, 3) := by decide +kernel
theorem d_PR_call_5 : decode b_PR_call 5 = .ok (.ireturn, 1) := by decide +kernel
theorem d_PR_clean_0 : decode b_PR_clean 0 = .ok (.iload_n 1, 1) := by decide +kernel
theorem d_PR_clean_1 : decode b_PR_clean 1 = .ok (.invokestatic 105, 3) := by decide +kernel
theorem d_PR_clean_4 : decode b_PR_clean 4 = .ok (.ifCond .ne 5, 3) := by decide +kernel
theorem d_PR_clean_7 : decode b_PR_clean 7 = .ok (.iconst (-1), 1) := by decide +kernel
theorem d_PR_clean_8 : decode b_PR_clean 8 = .ok (.ireturn, 1) := by decide +kernel
theorem d_PR_clean_9 : decode b_PR_clean 9 = .ok (.aload_n 0, 1) := by decide +kernel
theorem d_PR_clean_10 : decode b_PR_clean 10 = .ok (.getfield 26, 3) := by decide +kernel
theorem d_PR_clean_13 : decode b_PR_clean 13 = .ok (.iload_n 1, 1) := by decide +kernel
theorem d_PR_clean_14 : decode b_PR_clean 14 = .ok (.invokevirtual 146, 3) := by decide +kernel
theorem d_PR_clean_17 : decode b_PR_clean 17 = .ok (.ifCond .ne 6, 3) := by decide +kernel
theorem d_PR_clean_20 : decode b_PR_clean 20 = .ok (.bipush (-3), 2) := by decide +kernel
theorem d_PR_clean_22 : decode b_PR_clean 22 = .ok (.ireturn, 1) := by decide +kernel
theorem d_PR_clean_23 : decode b_PR_clean 23 = .ok (.aload_n 0, 1) := by decide +kernel
theorem d_PR_clean_24 : decode b_PR_clean 24 = .ok (.invokevirtual 134, 3) := by decide +kernel
theorem d_PR_clean_27 : decode b_PR_clean 27 = .ok (.aload_n 0, 1) := by decide +kernel
theorem d_PR_clean_28 : decode b_PR_clean 28 = .ok (.getfield 26, 3) := by decide +kernel
theorem d_PR_clean_31 : decode b_PR_clean 31 = .ok (.iload_n 1, 1) := by decide +kernel
theorem d_PR_clean_32 : decode b_PR_clean 32 = .ok (.invokevirtual 149, 3) := by decide +kernel
theorem d_PR_clean_35 : decode b_PR_clean 35 = .ok (.pop, 1) := by decide +kernel
theorem d_PR_clean_36 : decode b_PR_clean 36 = .ok (.aload_n 0, 1) := by decide +kernel
theorem d_PR_clean_37 : decode b_PR_clean 37 = .ok (.iload_n 1, 1) := by decide +kernel
theorem d_PR_clean_38 : decode b_PR_clean 38 = .ok (.invokevirtual 116, 3) := by decide +kernel
theorem d_PR_clean_41 : decode b_PR_clean 41 = .ok (.ireturn, 1) := by decide +kernel
theorem d_PR_doingAt_0 : decode b_PR_doingAt 0 = .ok (.iload_n 1, 1) := by decide +kernel
theorem d_PR_doingAt_1 : decode b_PR_doingAt 1 = .ok (.istore_n 3, 1) := by decide +kernel
theorem d_PR_doingAt_2 : decode b_PR_doingAt 2 = .ok (.iload_n 2, 1) := by decide +kernel
theorem d_PR_doingAt_3 : decode b_PR_doingAt 3 = .ok (.iconst 1, 1) := by decide +kernel
theorem d_PR_doingAt_4 : decode b_PR_doingAt 4 = .ok (.iadd, 1) := by decide +kernel
theorem d_PR_doingAt_5 : decode b_PR_doingAt 5 = .ok (.istore 4, 2) := by decide +kernel
theorem d_PR_doingAt_7 : decode b_PR_doingAt 7 = .ok (.iload 4, 2) := by decide +kernel
theorem d_PR_doingAt_9 : decode b_PR_doingAt 9 = .ok (.iload_n 0, 1) := by decide +kernel
theorem d_PR_doingAt_10 : decode b_PR_doingAt 10 = .ok (.if_icmp .ge 14, 3) := by decide +kernel
theorem d_PR_doingAt_13 : decode b_PR_doingAt 13 = .ok (.iload_n 3, 1) := by decide +kernel
theorem d_PR_doingAt_14 : decode b_PR_doingAt 14 = .ok (.bipush 100, 2) := by decide +kernel
theorem d_PR_doingAt_16 : decode b_PR_doingAt 16 = .ok (.idiv, 1) := by decide +kernel
theorem d_PR_doingAt_17 : decode b_PR_doingAt 17 = .ok (.istore_n 3, 1) := by decide +kernel
theorem d_PR_doingAt_18 : decode b_PR_doingAt 18 = .ok (.iinc 4 1, 3) := by decide +kernel
theorem d_PR_doingAt_21 : decode b_PR_doingAt 21 = .ok (.goto (-14), 3) := by decide +kernel
theorem d_PR_doingAt_24 : decode b_PR_doingAt 24 = .ok (.iload_n 3, 1) := by decide +kernel
theorem d_PR_doingAt_25 : decode b_PR_doingAt 25 = .ok (.ireturn, 1) := by decide +kernel
theorem d_PR_fault_0 : decode b_PR_fault 0 = .ok (.aload_n 0, 1) := by decide +kernel
theorem d_PR_fault_1 : decode b_PR_fault 1 = .ok (.getfield 12, 3) := by decide +kernel
theorem d_PR_fault_4 : decode b_PR_fault 4 = .ok (.invokevirtual 77, 3) := by decide +kernel
theorem d_PR_fault_7 : decode b_PR_fault 7 = .ok (.ireturn, 1) := by decide +kernel
theorem d_PR_finger_0 : decode b_PR_finger 0 = .ok (.iload_n 1, 1) := by decide +kernel
theorem d_PR_finger_1 : decode b_PR_finger 1 = .ok (.invokestatic 105, 3) := by decide +kernel
theorem d_PR_finger_4 : decode b_PR_finger 4 = .ok (.ifCond .ne 5, 3) := by decide +kernel
theorem d_PR_finger_7 : decode b_PR_finger 7 = .ok (.iconst (-1), 1) := by decide +kernel
theorem d_PR_finger_8 : decode b_PR_finger 8 = .ok (.ireturn, 1) := by decide +kernel
theorem d_PR_finger_9 : decode b_PR_finger 9 = .ok (.iload_n 2, 1) := by decide +kernel
theorem d_PR_finger_10 : decode b_PR_finger 10 = .ok (.ifCond .lt 8, 3) := by decide +kernel
theorem d_PR_finger_13 : decode b_PR_finger 13 = .ok (.iload_n 2, 1) := by decide +kernel
theorem d_PR_finger_14 : decode b_PR_finger 14 = .ok (.iconst 4, 1) := by decide +kernel
theorem d_PR_finger_15 : decode b_PR_finger 15 = .ok (.if_icmp .le 6, 3) := by decide +kernel
theorem d_PR_finger_18 : decode b_PR_finger 18 = .ok (.bipush (-2), 2) := by decide +kernel
theorem d_PR_finger_20 : decode b_PR_finger 20 = .ok (.ireturn, 1) := by decide +kernel
theorem d_PR_finger_21 : decode b_PR_finger 21 = .ok (.iload_n 2, 1) := by decide +kernel
theorem d_PR_finger_22 : decode b_PR_finger 22 = .ok (.iconst 3, 1) := by decide +kernel
theorem d_PR_finger_23 : decode b_PR_finger 23 = .ok (.if_icmp .ge 13, 3) := by decide +kernel
theorem d_PR_finger_26 : decode b_PR_finger 26 = .ok (.aload_n 0, 1) := by decide +kernel
theorem d_PR_finger_27 : decode b_PR_finger 27 = .ok (.getfield 19, 3) := by decide +kernel
theorem d_PR_finger_30 : decode b_PR_finger 30 = .ok (.iload_n 1, 1) := by decide +kernel
theorem d_PR_finger_31 : decode b_PR_finger 31 = .ok (.iload_n 2, 1) := by decide +kernel
theorem d_PR_finger_32 : decode b_PR_finger 32 = .ok (.invokevirtual 108, 3) := by decide +kernel
theorem d_PR_finger_35 : decode b_PR_finger 35 = .ok (.ireturn, 1) := by decide +kernel
theorem d_PR_finger_36 : decode b_PR_finger 36 = .ok (.iload_n 2, 1) := by decide +kernel
theorem d_PR_finger_37 : decode b_PR_finger 37 = .ok (.iconst 3, 1) := by decide +kernel
theorem d_PR_finger_38 : decode b_PR_finger 38 = .ok (.if_icmp .ne 14, 3) := by decide +kernel
theorem d_PR_finger_41 : decode b_PR_finger 41 = .ok (.aload_n 0, 1) := by decide +kernel
theorem d_PR_finger_42 : decode b_PR_finger 42 = .ok (.getfield 26, 3) := by decide +kernel
theorem d_PR_finger_45 : decode b_PR_finger 45 = .ok (.iload_n 1, 1) := by decide +kernel
theorem d_PR_finger_46 : decode b_PR_finger 46 = .ok (.invokevirtual 112, 3) := by decide +kernel
theorem d_PR_finger_49 : decode b_PR_finger 49 = .ok (.goto 8, 3) := by decide +kernel
theorem d_PR_finger_52 : decode b_PR_finger 52 = .ok (.aload_n 0, 1) := by decide +kernel
theorem d_PR_finger_53 : decode b_PR_finger 53 = .ok (.iload_n 1, 1) := by decide +kernel
theorem d_PR_finger_54 : decode b_PR_finger 54 = .ok (.invokevirtual 116, 3) := by decide +kernel
theorem d_PR_finger_57 : decode b_PR_finger 57 = .ok (.ireturn, 1) := by decide +kernel
theorem d_PR_fraction_0 : decode b_PR_fraction 0 = .ok (.iload_n 0, 1) := by decide +kernel
theorem d_PR_fraction_1 : decode b_PR_fraction 1 = .ok (.istore_n 3, 1) := by decide +kernel
theorem d_PR_fraction_2 : decode b_PR_fraction 2 = .ok (.iload_n 1, 1) := by decide +kernel
theorem d_PR_fraction_3 : decode b_PR_fraction 3 = .ok (.istore 4, 2) := by decide +kernel
theorem d_PR_fraction_5 : decode b_PR_fraction 5 = .ok (.iconst 0, 1) := by decide +kernel
theorem d_PR_fraction_6 : decode b_PR_fraction 6 = .ok (.istore 5, 2) := by decide +kernel
theorem d_PR_fraction_8 : decode b_PR_fraction 8 = .ok (.iload 5, 2) := by decide +kernel
theorem d_PR_fraction_10 : decode b_PR_fraction 10 = .ok (.bipush 64, 2) := by decide +kernel
theorem d_PR_fraction_12 : decode b_PR_fraction 12 = .ok (.if_icmp .ge 27, 3) := by decide +kernel
theorem d_PR_fraction_15 : decode b_PR_fraction 15 = .ok (.iload 4, 2) := by decide +kernel
theorem d_PR_fraction_17 : decode b_PR_fraction 17 = .ok (.ifCond .eq 22, 3) := by decide +kernel
theorem d_PR_fraction_20 : decode b_PR_fraction 20 = .ok (.iload_n 3, 1) := by decide +kernel
theorem d_PR_fraction_21 : decode b_PR_fraction 21 = .ok (.iload 4, 2) := by decide +kernel
theorem d_PR_fraction_23 : decode b_PR_fraction 23 = .ok (.irem, 1) := by decide +kernel
theorem d_PR_fraction_24 : decode b_PR_fraction 24 = .ok (.istore 6, 2) := by decide +kernel
theorem d_PR_fraction_26 : decode b_PR_fraction 26 = .ok (.iload 4, 2) := by decide +kernel
theorem d_PR_fraction_28 : decode b_PR_fraction 28 = .ok (.istore_n 3, 1) := by decide +kernel
theorem d_PR_fraction_29 : decode b_PR_fraction 29 = .ok (.iload 6, 2) := by decide +kernel
theorem d_PR_fraction_31 : decode b_PR_fraction 31 = .ok (.istore 4, 2) := by decide +kernel
theorem d_PR_fraction_33 : decode b_PR_fraction 33 = .ok (.iinc 5 1, 3) := by decide +kernel
theorem d_PR_fraction_36 : decode b_PR_fraction 36 = .ok (.goto (-28), 3) := by decide +kernel
theorem d_PR_fraction_39 : decode b_PR_fraction 39 = .ok (.iload_n 3, 1) := by decide +kernel
theorem d_PR_fraction_40 : decode b_PR_fraction 40 = .ok (.ifCond .ne 5, 3) := by decide +kernel
theorem d_PR_fraction_43 : decode b_PR_fraction 43 = .ok (.iconst 0, 1) := by decide +kernel
theorem d_PR_fraction_44 : decode b_PR_fraction 44 = .ok (.ireturn, 1) := by decide +kernel
theorem d_PR_fraction_45 : decode b_PR_fraction 45 = .ok (.iload_n 2, 1) := by decide +kernel
theorem d_PR_fraction_46 : decode b_PR_fraction 46 = .ok (.ifCond .eq 7, 3) := by decide +kernel
theorem d_PR_fraction_49 : decode b_PR_fraction 49 = .ok (.iload_n 0, 1) := by decide +kernel
theorem d_PR_fraction_50 : decode b_PR_fraction 50 = .ok (.goto 4, 3) := by decide +kernel
theorem d_PR_fraction_53 : decode b_PR_fraction 53 = .ok (.iload_n 1, 1) := by decide +kernel
theorem d_PR_fraction_54 : decode b_PR_fraction 54 = .ok (.iload_n 3, 1) := by decide +kernel
theorem d_PR_fraction_55 : decode b_PR_fraction 55 = .ok (.idiv, 1) := by decide +kernel
theorem d_PR_fraction_56 : decode b_PR_fraction 56 = .ok (.ireturn, 1) := by decide +kernel
theorem d_PR_gain_0 : decode b_PR_gain 0 = .ok (.iload_n 0, 1) := by decide +kernel
theorem d_PR_gain_1 : decode b_PR_gain 1 = .ok (.iconst 2, 1) := by decide +kernel
theorem d_PR_gain_2 : decode b_PR_gain 2 = .ok (.if_icmp .ne 7, 3) := by decide +kernel
theorem d_PR_gain_5 : decode b_PR_gain 5 = .ok (.iconst 5, 1) := by decide +kernel
theorem d_PR_gain_6 : decode b_PR_gain 6 = .ok (.goto 4, 3) := by decide +kernel
theorem d_PR_gain_9 : decode b_PR_gain 9 = .ok (.iconst 4, 1) := by decide +kernel
theorem d_PR_gain_10 : decode b_PR_gain 10 = .ok (.istore_n 3, 1) := by decide +kernel
theorem d_PR_gain_11 : decode b_PR_gain 11 = .ok (.iload_n 1, 1) := by decide +kernel
theorem d_PR_gain_12 : decode b_PR_gain 12 = .ok (.iload_n 2, 1) := by decide +kernel
theorem d_PR_gain_13 : decode b_PR_gain 13 = .ok (.if_icmp .le 9, 3) := by decide +kernel
theorem d_PR_gain_16 : decode b_PR_gain 16 = .ok (.iload_n 3, 1) := by decide +kernel
theorem d_PR_gain_17 : decode b_PR_gain 17 = .ok (.iload_n 1, 1) := by decide +kernel
theorem d_PR_gain_18 : decode b_PR_gain 18 = .ok (.isub, 1) := by decide +kernel
theorem d_PR_gain_19 : decode b_PR_gain 19 = .ok (.goto 5, 3) := by decide +kernel
theorem d_PR_gain_22 : decode b_PR_gain 22 = .ok (.iload_n 1, 1) := by decide +kernel
theorem d_PR_gain_23 : decode b_PR_gain 23 = .ok (.ineg, 1) := by decide +kernel
theorem d_PR_gain_24 : decode b_PR_gain 24 = .ok (.ireturn, 1) := by decide +kernel
theorem d_PR_givesUp_0 : decode b_PR_givesUp 0 = .ok (.aload_n 0, 1) := by decide +kernel
theorem d_PR_givesUp_1 : decode b_PR_givesUp 1 = .ok (.getfield 19, 3) := by decide +kernel
theorem d_PR_givesUp_4 : decode b_PR_givesUp 4 = .ok (.iload_n 1, 1) := by decide +kernel
theorem d_PR_givesUp_5 : decode b_PR_givesUp 5 = .ok (.invokevirtual 119, 3) := by decide +kernel
theorem d_PR_givesUp_8 : decode b_PR_givesUp 8 = .ok (.ifCond .ne 5, 3) := by decide +kernel
theorem d_PR_givesUp_11 : decode b_PR_givesUp 11 = .ok (.iconst (-1), 1) := by decide +kernel
theorem d_PR_givesUp_12 : decode b_PR_givesUp 12 = .ok (.ireturn, 1) := by decide +kernel
theorem d_PR_givesUp_13 : decode b_PR_givesUp 13 = .ok (.aload_n 0, 1) := by decide +kernel
theorem d_PR_givesUp_14 : decode b_PR_givesUp 14 = .ok (.getfield 26, 3) := by decide +kernel
theorem d_PR_givesUp_17 : decode b_PR_givesUp 17 = .ok (.iload_n 1, 1) := by decide +kernel
theorem d_PR_givesUp_18 : decode b_PR_givesUp 18 = .ok (.invokevirtual 131, 3) := by decide +kernel
theorem d_PR_givesUp_21 : decode b_PR_givesUp 21 = .ok (.bipush (-9), 2) := by decide +kernel
theorem d_PR_givesUp_23 : decode b_PR_givesUp 23 = .ok (.if_icmp .ne 6, 3) := by decide +kernel
theorem d_PR_givesUp_26 : decode b_PR_givesUp 26 = .ok (.bipush (-3), 2) := by decide +kernel
theorem d_PR_givesUp_28 : decode b_PR_givesUp 28 = .ok (.ireturn, 1) := by decide +kernel
theorem d_PR_givesUp_29 : decode b_PR_givesUp 29 = .ok (.aload_n 0, 1) := by decide +kernel
theorem d_PR_givesUp_30 : decode b_PR_givesUp 30 = .ok (.getfield 30, 3) := by decide +kernel
theorem d_PR_givesUp_33 : decode b_PR_givesUp 33 = .ok (.aload_n 0, 1) := by decide +kernel
theorem d_PR_givesUp_34 : decode b_PR_givesUp 34 = .ok (.getfield 26, 3) := by decide +kernel
theorem d_PR_givesUp_37 : decode b_PR_givesUp 37 = .ok (.invokevirtual 186, 3) := by decide +kernel
theorem d_PR_givesUp_40 : decode b_PR_givesUp 40 = .ok (.iconst 1, 1) := by decide +kernel
theorem d_PR_givesUp_41 : decode b_PR_givesUp 41 = .ok (.istore_n 2, 1) := by decide +kernel
theorem d_PR_givesUp_42 : decode b_PR_givesUp 42 = .ok (.iload_n 2, 1) := by decide +kernel
theorem d_PR_givesUp_43 : decode b_PR_givesUp 43 = .ok (.bipush 20, 2) := by decide +kernel
theorem d_PR_givesUp_45 : decode b_PR_givesUp 45 = .ok (.if_icmp .gt 32, 3) := by decide +kernel
theorem d_PR_givesUp_48 : decode b_PR_givesUp 48 = .ok (.aload_n 0, 1) := by decide +kernel
theorem d_PR_givesUp_49 : decode b_PR_givesUp 49 = .ok (.aload_n 0, 1) := by decide +kernel
theorem d_PR_givesUp_50 : decode b_PR_givesUp 50 = .ok (.getfield 30, 3) := by decide +kernel
theorem d_PR_givesUp_53 : decode b_PR_givesUp 53 = .ok (.invokevirtual 137, 3) := by decide +kernel
theorem d_PR_givesUp_56 : decode b_PR_givesUp 56 = .ok (.aload_n 0, 1) := by decide +kernel
theorem d_PR_givesUp_57 : decode b_PR_givesUp 57 = .ok (.getfield 30, 3) := by decide +kernel
theorem d_PR_givesUp_60 : decode b_PR_givesUp 60 = .ok (.iload_n 1, 1) := by decide +kernel
theorem d_PR_givesUp_61 : decode b_PR_givesUp 61 = .ok (.invokevirtual 131, 3) := by decide +kernel
theorem d_PR_givesUp_64 : decode b_PR_givesUp 64 = .ok (.bipush (-9), 2) := by decide +kernel
theorem d_PR_givesUp_66 : decode b_PR_givesUp 66 = .ok (.if_icmp .ne 5, 3) := by decide +kernel
theorem d_PR_givesUp_69 : decode b_PR_givesUp 69 = .ok (.iload_n 2, 1) := by decide +kernel
theorem d_PR_givesUp_70 : decode b_PR_givesUp 70 = .ok (.ireturn, 1) := by decide +kernel
theorem d_PR_givesUp_71 : decode b_PR_givesUp 71 = .ok (.iinc 2 1, 3) := by decide +kernel
theorem d_PR_givesUp_74 : decode b_PR_givesUp 74 = .ok (.goto (-32), 3) := by decide +kernel
theorem d_PR_givesUp_77 : decode b_PR_givesUp 77 = .ok (.bipush (-9), 2) := by decide +kernel
theorem d_PR_givesUp_79 : decode b_PR_givesUp 79 = .ok (.ireturn, 1) := by decide +kernel
theorem d_PR_hailedBy_0 : decode b_PR_hailedBy 0 = .ok (.iload_n 1, 1) := by decide +kernel
theorem d_PR_hailedBy_1 : decode b_PR_hailedBy 1 = .ok (.ifCond .lt 10, 3) := by decide +kernel
theorem d_PR_hailedBy_4 : decode b_PR_hailedBy 4 = .ok (.iload_n 1, 1) := by decide +kernel
theorem d_PR_hailedBy_5 : decode b_PR_hailedBy 5 = .ok (.sipush 2222, 3) := by decide +kernel
theorem d_PR_hailedBy_8 : decode b_PR_hailedBy 8 = .ok (.if_icmp .le 6, 3) := by decide +kernel
theorem d_PR_hailedBy_11 : decode b_PR_hailedBy 11 = .ok (.bipush (-2), 2) := by decide +kernel
theorem d_PR_hailedBy_13 : decode b_PR_hailedBy 13 = .ok (.ireturn, 1) := by decide +kernel
theorem d_PR_hailedBy_14 : decode b_PR_hailedBy 14 = .ok (.iload_n 1, 1) := by decide +kernel
theorem d_PR_hailedBy_15 : decode b_PR_hailedBy 15 = .ok (.istore_n 2, 1) := by decide +kernel
theorem d_PR_hailedBy_16 : decode b_PR_hailedBy 16 = .ok (.iconst 3, 1) := by decide +kernel
theorem d_PR_hailedBy_17 : decode b_PR_hailedBy 17 = .ok (.istore_n 3, 1) := by decide +kernel
theorem d_PR_hailedBy_18 : decode b_PR_hailedBy 18 = .ok (.iload_n 3, 1) := by decide +kernel
theorem d_PR_hailedBy_19 : decode b_PR_hailedBy 19 = .ok (.ifCond .lt 56, 3) := by decide +kernel
theorem d_PR_hailedBy_22 : decode b_PR_hailedBy 22 = .ok (.aload_n 0, 1) := by decide +kernel
theorem d_PR_hailedBy_23 : decode b_PR_hailedBy 23 = .ok (.getfield 26, 3) := by decide +kernel
theorem d_PR_hailedBy_26 : decode b_PR_hailedBy 26 = .ok (.iload_n 3, 1) := by decide +kernel
theorem d_PR_hailedBy_27 : decode b_PR_hailedBy 27 = .ok (.invokevirtual 112, 3) := by decide +kernel
theorem d_PR_hailedBy_30 : decode b_PR_hailedBy 30 = .ok (.iload_n 2, 1) := by decide +kernel
theorem d_PR_hailedBy_31 : decode b_PR_hailedBy 31 = .ok (.bipush 10, 2) := by decide +kernel
theorem d_PR_hailedBy_33 : decode b_PR_hailedBy 33 = .ok (.irem, 1) := by decide +kernel
theorem d_PR_hailedBy_34 : decode b_PR_hailedBy 34 = .ok (.iadd, 1) := by decide +kernel
theorem d_PR_hailedBy_35 : decode b_PR_hailedBy 35 = .ok (.istore 4, 2) := by decide +kernel
theorem d_PR_hailedBy_37 : decode b_PR_hailedBy 37 = .ok (.iload 4, 2) := by decide +kernel
theorem d_PR_hailedBy_39 : decode b_PR_hailedBy 39 = .ok (.iconst 2, 1) := by decide +kernel
theorem d_PR_hailedBy_40 : decode b_PR_hailedBy 40 = .ok (.if_icmp .le 6, 3) := by decide +kernel
theorem d_PR_hailedBy_43 : decode b_PR_hailedBy 43 = .ok (.bipush (-2), 2) := by decide +kernel
theorem d_PR_hailedBy_45 : decode b_PR_hailedBy 45 = .ok (.ireturn, 1) := by decide +kernel
theorem d_PR_hailedBy_46 : decode b_PR_hailedBy 46 = .ok (.aload_n 0, 1) := by decide +kernel
theorem d_PR_hailedBy_47 : decode b_PR_hailedBy 47 = .ok (.getfield 36, 3) := by decide +kernel
theorem d_PR_hailedBy_50 : decode b_PR_hailedBy 50 = .ok (.iload_n 3, 1) := by decide +kernel
theorem d_PR_hailedBy_51 : decode b_PR_hailedBy 51 = .ok (.aload_n 0, 1) := by decide +kernel
theorem d_PR_hailedBy_52 : decode b_PR_hailedBy 52 = .ok (.getfield 19, 3) := by decide +kernel
theorem d_PR_hailedBy_55 : decode b_PR_hailedBy 55 = .ok (.iload_n 3, 1) := by decide +kernel
theorem d_PR_hailedBy_56 : decode b_PR_hailedBy 56 = .ok (.iload 4, 2) := by decide +kernel
theorem d_PR_hailedBy_58 : decode b_PR_hailedBy 58 = .ok (.invokevirtual 108, 3) := by decide +kernel
theorem d_PR_hailedBy_61 : decode b_PR_hailedBy 61 = .ok (.invokevirtual 247, 3) := by decide +kernel
theorem d_PR_hailedBy_64 : decode b_PR_hailedBy 64 = .ok (.iload_n 2, 1) := by decide +kernel
theorem d_PR_hailedBy_65 : decode b_PR_hailedBy 65 = .ok (.bipush 10, 2) := by decide +kernel
theorem d_PR_hailedBy_67 : decode b_PR_hailedBy 67 = .ok (.idiv, 1) := by decide +kernel
theorem d_PR_hailedBy_68 : decode b_PR_hailedBy 68 = .ok (.istore_n 2, 1) := by decide +kernel
theorem d_PR_hailedBy_69 : decode b_PR_hailedBy 69 = .ok (.iinc 3 (-1), 3) := by decide +kernel
theorem d_PR_hailedBy_72 : decode b_PR_hailedBy 72 = .ok (.goto (-54), 3) := by decide +kernel
theorem d_PR_hailedBy_75 : decode b_PR_hailedBy 75 = .ok (.aload_n 0, 1) := by decide +kernel
theorem d_PR_hailedBy_76 : decode b_PR_hailedBy 76 = .ok (.getfield 36, 3) := by decide +kernel
theorem d_PR_hailedBy_79 : decode b_PR_hailedBy 79 = .ok (.aload_n 0, 1) := by decide +kernel
theorem d_PR_hailedBy_80 : decode b_PR_hailedBy 80 = .ok (.getfield 19, 3) := by decide +kernel
theorem d_PR_hailedBy_83 : decode b_PR_hailedBy 83 = .ok (.invokevirtual 240, 3) := by decide +kernel
theorem d_PR_hailedBy_86 : decode b_PR_hailedBy 86 = .ok (.ireturn, 1) := by decide +kernel
theorem d_PR_hailedIn_0 : decode b_PR_hailedIn 0 = .ok (.aload_n 0, 1) := by decide +kernel
theorem d_PR_hailedIn_1 : decode b_PR_hailedIn 1 = .ok (.getfield 36, 3) := by decide +kernel
theorem d_PR_hailedIn_4 : decode b_PR_hailedIn 4 = .ok (.aload_n 0, 1) := by decide +kernel
theorem d_PR_hailedIn_5 : decode b_PR_hailedIn 5 = .ok (.getfield 19, 3) := by decide +kernel
theorem d_PR_hailedIn_8 : decode b_PR_hailedIn 8 = .ok (.aload_n 1, 1) := by decide +kernel
theorem d_PR_hailedIn_9 : decode b_PR_hailedIn 9 = .ok (.invokevirtual 236, 3) := by decide +kernel
theorem d_PR_hailedIn_12 : decode b_PR_hailedIn 12 = .ok (.aload_n 0, 1) := by decide +kernel
theorem d_PR_hailedIn_13 : decode b_PR_hailedIn 13 = .ok (.getfield 36, 3) := by decide +kernel
theorem d_PR_hailedIn_16 : decode b_PR_hailedIn 16 = .ok (.aload_n 0, 1) := by decide +kernel
theorem d_PR_hailedIn_17 : decode b_PR_hailedIn 17 = .ok (.getfield 19, 3) := by decide +kernel
theorem d_PR_hailedIn_20 : decode b_PR_hailedIn 20 = .ok (.invokevirtual 240, 3) := by decide +kernel
theorem d_PR_hailedIn_23 : decode b_PR_hailedIn 23 = .ok (.ireturn, 1) := by decide +kernel
theorem d_PR_hailedWhenCome_0 : decode b_PR_hailedWhenCome 0 = .ok (.iconst 0, 1) := by decide +kernel
theorem d_PR_hailedWhenCome_1 : decode b_PR_hailedWhenCome 1 = .ok (.istore_n 2, 1) := by decide +kernel
theorem d_PR_hailedWhenCome_2 : decode b_PR_hailedWhenCome 2 = .ok (.iload_n 2, 1) := by decide +kernel
theorem d_PR_hailedWhenCome_3 : decode b_PR_hailedWhenCome 3 = .ok (.iconst 4, 1) := by decide +kernel
theorem d_PR_hailedWhenCome_4 : decode b_PR_hailedWhenCome 4 = .ok (.if_icmp .ge 35, 3) := by decide +kernel
theorem d_PR_hailedWhenCome_7 : decode b_PR_hailedWhenCome 7 = .ok (.aload_n 0, 1) := by decide +kernel
theorem d_PR_hailedWhenCome_8 : decode b_PR_hailedWhenCome 8 = .ok (.getfield 36, 3) := by decide +kernel
theorem d_PR_hailedWhenCome_11 : decode b_PR_hailedWhenCome 11 = .ok (.iload_n 2, 1) := by decide +kernel
theorem d_PR_hailedWhenCome_12 : decode b_PR_hailedWhenCome 12 = .ok (.iload_n 1, 1) := by decide +kernel
theorem d_PR_hailedWhenCome_13 : decode b_PR_hailedWhenCome 13 = .ok (.iload_n 2, 1) := by decide +kernel
theorem d_PR_hailedWhenCome_14 : decode b_PR_hailedWhenCome 14 = .ok (.ishr, 1) := by decide +kernel
theorem d_PR_hailedWhenCome_15 : decode b_PR_hailedWhenCome 15 = .ok (.iconst 1, 1) := by decide +kernel
theorem d_PR_hailedWhenCome_16 : decode b_PR_hailedWhenCome 16 = .ok (.iand, 1) := by decide +kernel
theorem d_PR_hailedWhenCome_17 : decode b_PR_hailedWhenCome 17 = .ok (.iconst 1, 1) := by decide +kernel
theorem d_PR_hailedWhenCome_18 : decode b_PR_hailedWhenCome 18 = .ok (.if_icmp .ne 11, 3) := by decide +kernel
theorem d_PR_hailedWhenCome_21 : decode b_PR_hailedWhenCome 21 = .ok (.aload_n 0, 1) := by decide +kernel
theorem d_PR_hailedWhenCome_22 : decode b_PR_hailedWhenCome 22 = .ok (.iload_n 2, 1) := by decide +kernel
theorem d_PR_hailedWhenCome_23 : decode b_PR_hailedWhenCome 23 = .ok (.invokevirtual 116, 3) := by decide +kernel
theorem d_PR_hailedWhenCome_26 : decode b_PR_hailedWhenCome 26 = .ok (.goto 4, 3) := by decide +kernel
theorem d_PR_hailedWhenCome_29 : decode b_PR_hailedWhenCome 29 = .ok (.iconst (-1), 1) := by decide +kernel
theorem d_PR_hailedWhenCome_30 : decode b_PR_hailedWhenCome 30 = .ok (.invokevirtual 247, 3) := by decide +kernel
theorem d_PR_hailedWhenCome_33 : decode b_PR_hailedWhenCome 33 = .ok (.iinc 2 1, 3) := by decide +kernel
theorem d_PR_hailedWhenCome_36 : decode b_PR_hailedWhenCome 36 = .ok (.goto (-34), 3) := by decide +kernel
theorem d_PR_hailedWhenCome_39 : decode b_PR_hailedWhenCome 39 = .ok (.aload_n 0, 1) := by decide +kernel
theorem d_PR_hailedWhenCome_40 : decode b_PR_hailedWhenCome 40 = .ok (.getfield 36, 3) := by decide +kernel
theorem d_PR_hailedWhenCome_43 : decode b_PR_hailedWhenCome 43 = .ok (.aload_n 0, 1) := by decide +kernel
theorem d_PR_hailedWhenCome_44 : decode b_PR_hailedWhenCome 44 = .ok (.getfield 19, 3) := by decide +kernel
theorem d_PR_hailedWhenCome_47 : decode b_PR_hailedWhenCome 47 = .ok (.invokevirtual 240, 3) := by decide +kernel
theorem d_PR_hailedWhenCome_50 : decode b_PR_hailedWhenCome 50 = .ok (.invokestatic 141, 3) := by decide +kernel
theorem d_PR_hailedWhenCome_53 : decode b_PR_hailedWhenCome 53 = .ok (.ireturn, 1) := by decide +kernel
theorem d_PR_hall_0 : decode b_PR_hall 0 = .ok (.aload_n 0, 1) := by decide +kernel
theorem d_PR_hall_1 : decode b_PR_hall 1 = .ok (.getfield 12, 3) := by decide +kernel
theorem d_PR_hall_4 : decode b_PR_hall 4 = .ok (.invokevirtual 77, 3) := by decide +kernel
theorem d_PR_hall_7 : decode b_PR_hall 7 = .ok (.bipush (-9), 2) := by decide +kernel
theorem d_PR_hall_9 : decode b_PR_hall 9 = .ok (.if_icmp .eq 6, 3) := by decide +kernel
theorem d_PR_hall_12 : decode b_PR_hall 12 = .ok (.bipush (-3), 2) := by decide +kernel
theorem d_PR_hall_14 : decode b_PR_hall 14 = .ok (.ireturn, 1) := by decide +kernel
theorem d_PR_hall_15 : decode b_PR_hall 15 = .ok (.aload_n 0, 1) := by decide +kernel
theorem d_PR_hall_16 : decode b_PR_hall 16 = .ok (.getfield 19, 3) := by decide +kernel
theorem d_PR_hall_19 : decode b_PR_hall 19 = .ok (.aload_n 0, 1) := by decide +kernel
theorem d_PR_hall_20 : decode b_PR_hall 20 = .ok (.getfield 12, 3) := by decide +kernel
theorem d_PR_hall_23 : decode b_PR_hall 23 = .ok (.invokevirtual 81, 3) := by decide +kernel
theorem d_PR_hall_26 : decode b_PR_hall 26 = .ok (.aload_n 0, 1) := by decide +kernel
theorem d_PR_hall_27 : decode b_PR_hall 27 = .ok (.getfield 26, 3) := by decide +kernel
theorem d_PR_hall_30 : decode b_PR_hall 30 = .ok (.invokevirtual 85, 3) := by decide +kernel
theorem d_PR_hall_33 : decode b_PR_hall 33 = .ok (.aload_n 0, 1) := by decide +kernel
theorem d_PR_hall_34 : decode b_PR_hall 34 = .ok (.iconst 0, 1) := by decide +kernel
theorem d_PR_hall_35 : decode b_PR_hall 35 = .ok (.putfield 59, 3) := by decide +kernel
theorem d_PR_hall_38 : decode b_PR_hall 38 = .ok (.aload_n 0, 1) := by decide +kernel
theorem d_PR_hall_39 : decode b_PR_hall 39 = .ok (.iconst 0, 1) := by decide +kernel
theorem d_PR_hall_40 : decode b_PR_hall 40 = .ok (.putfield 63, 3) := by decide +kernel
theorem d_PR_hall_43 : decode b_PR_hall 43 = .ok (.aload_n 0, 1) := by decide +kernel
theorem d_PR_hall_44 : decode b_PR_hall 44 = .ok (.getfield 19, 3) := by decide +kernel
theorem d_PR_hall_47 : decode b_PR_hall 47 = .ok (.getfield 88, 3) := by decide +kernel
theorem d_PR_hall_50 : decode b_PR_hall 50 = .ok (.ireturn, 1) := by decide +kernel
theorem d_PR_isAsSeen_0 : decode b_PR_isAsSeen 0 = .ok (.aload_n 0, 1) := by decide +kernel
theorem d_PR_isAsSeen_1 : decode b_PR_isAsSeen 1 = .ok (.getfield 36, 3) := by decide +kernel
theorem d_PR_isAsSeen_4 : decode b_PR_isAsSeen 4 = .ok (.aload_n 0, 1) := by decide +kernel
theorem d_PR_isAsSeen_5 : decode b_PR_isAsSeen 5 = .ok (.getfield 19, 3) := by decide +kernel
theorem d_PR_isAsSeen_8 : decode b_PR_isAsSeen 8 = .ok (.aload_n 0, 1) := by decide +kernel
theorem d_PR_isAsSeen_9 : decode b_PR_isAsSeen 9 = .ok (.getfield 26, 3) := by decide +kernel
theorem d_PR_isAsSeen_12 : decode b_PR_isAsSeen 12 = .ok (.invokevirtual 236, 3) := by decide +kernel
theorem d_PR_isAsSeen_15 : decode b_PR_isAsSeen 15 = .ok (.iconst 0, 1) := by decide +kernel
theorem d_PR_isAsSeen_16 : decode b_PR_isAsSeen 16 = .ok (.istore_n 3, 1) := by decide +kernel
theorem d_PR_isAsSeen_17 : decode b_PR_isAsSeen 17 = .ok (.iload_n 3, 1) := by decide +kernel
theorem d_PR_isAsSeen_18 : decode b_PR_isAsSeen 18 = .ok (.aload_n 0, 1) := by decide +kernel
theorem d_PR_isAsSeen_19 : decode b_PR_isAsSeen 19 = .ok (.getfield 55, 3) := by decide +kernel
theorem d_PR_isAsSeen_22 : decode b_PR_isAsSeen 22 = .ok (.getfield 104, 3) := by decide +kernel
theorem d_PR_isAsSeen_25 : decode b_PR_isAsSeen 25 = .ok (.if_icmp .ge 105, 3) := by decide +kernel
theorem d_PR_isAsSeen_28 : decode b_PR_isAsSeen 28 = .ok (.aload_n 0, 1) := by decide +kernel
theorem d_PR_isAsSeen_29 : decode b_PR_isAsSeen 29 = .ok (.getfield 55, 3) := by decide +kernel
theorem d_PR_isAsSeen_32 : decode b_PR_isAsSeen 32 = .ok (.iload_n 3, 1) := by decide +kernel
theorem d_PR_isAsSeen_33 : decode b_PR_isAsSeen 33 = .ok (.iconst 0, 1) := by decide +kernel
theorem d_PR_isAsSeen_34 : decode b_PR_isAsSeen 34 = .ok (.invokevirtual 251, 3) := by decide +kernel
theorem d_PR_isAsSeen_37 : decode b_PR_isAsSeen 37 = .ok (.istore 4, 2) := by decide +kernel
theorem d_PR_isAsSeen_39 : decode b_PR_isAsSeen 39 = .ok (.aload_n 0, 1) := by decide +kernel
theorem d_PR_isAsSeen_40 : decode b_PR_isAsSeen 40 = .ok (.getfield 55, 3) := by decide +kernel
theorem d_PR_isAsSeen_43 : decode b_PR_isAsSeen 43 = .ok (.iload_n 3, 1) := by decide +kernel
theorem d_PR_isAsSeen_44 : decode b_PR_isAsSeen 44 = .ok (.iconst 1, 1) := by decide +kernel
theorem d_PR_isAsSeen_45 : decode b_PR_isAsSeen 45 = .ok (.invokevirtual 251, 3) := by decide +kernel
theorem d_PR_isAsSeen_48 : decode b_PR_isAsSeen 48 = .ok (.iload_n 1, 1) := by decide +kernel
theorem d_PR_isAsSeen_49 : decode b_PR_isAsSeen 49 = .ok (.if_icmp .ne 75, 3) := by decide +kernel
theorem d_PR_isAsSeen_52 : decode b_PR_isAsSeen 52 = .ok (.aload_n 0, 1) := by decide +kernel
theorem d_PR_isAsSeen_53 : decode b_PR_isAsSeen 53 = .ok (.getfield 19, 3) := by decide +kernel
theorem d_PR_isAsSeen_56 : decode b_PR_isAsSeen 56 = .ok (.iload 4, 2) := by decide +kernel
theorem d_PR_isAsSeen_58 : decode b_PR_isAsSeen 58 = .ok (.invokevirtual 119, 3) := by decide +kernel
theorem d_PR_isAsSeen_61 : decode b_PR_isAsSeen 61 = .ok (.ifCond .ne 6, 3) := by decide +kernel
theorem d_PR_isAsSeen_64 : decode b_PR_isAsSeen 64 = .ok (.goto 60, 3) := by decide +kernel
theorem d_PR_isAsSeen_67 : decode b_PR_isAsSeen 67 = .ok (.aload_n 0, 1) := by decide +kernel
theorem d_PR_isAsSeen_68 : decode b_PR_isAsSeen 68 = .ok (.getfield 36, 3) := by decide +kernel
theorem d_PR_isAsSeen_71 : decode b_PR_isAsSeen 71 = .ok (.iload_n 1, 1) := by decide +kernel
theorem d_PR_isAsSeen_72 : decode b_PR_isAsSeen 72 = .ok (.iload_n 2, 1) := by decide +kernel
theorem d_PR_isAsSeen_73 : decode b_PR_isAsSeen 73 = .ok (.aload_n 0, 1) := by decide +kernel
theorem d_PR_isAsSeen_74 : decode b_PR_isAsSeen 74 = .ok (.getfield 55, 3) := by decide +kernel
theorem d_PR_isAsSeen_77 : decode b_PR_isAsSeen 77 = .ok (.iload_n 3, 1) := by decide +kernel
theorem d_PR_isAsSeen_78 : decode b_PR_isAsSeen 78 = .ok (.iconst 2, 1) := by decide +kernel
theorem d_PR_isAsSeen_79 : decode b_PR_isAsSeen 79 = .ok (.invokevirtual 251, 3) := by decide +kernel
theorem d_PR_isAsSeen_82 : decode b_PR_isAsSeen 82 = .ok (.invokestatic 254, 3) := by decide +kernel
theorem d_PR_isAsSeen_85 : decode b_PR_isAsSeen 85 = .ok (.invokevirtual 247, 3) := by decide +kernel
theorem d_PR_isAsSeen_88 : decode b_PR_isAsSeen 88 = .ok (.aload_n 0, 1) := by decide +kernel
theorem d_PR_isAsSeen_89 : decode b_PR_isAsSeen 89 = .ok (.getfield 36, 3) := by decide +kernel
theorem d_PR_isAsSeen_92 : decode b_PR_isAsSeen 92 = .ok (.aload_n 0, 1) := by decide +kernel
theorem d_PR_isAsSeen_93 : decode b_PR_isAsSeen 93 = .ok (.getfield 19, 3) := by decide +kernel
theorem d_PR_isAsSeen_96 : decode b_PR_isAsSeen 96 = .ok (.iload 4, 2) := by decide +kernel
theorem d_PR_isAsSeen_98 : decode b_PR_isAsSeen 98 = .ok (.invokevirtual 257, 3) := by decide +kernel
theorem d_PR_isAsSeen_101 : decode b_PR_isAsSeen 101 = .ok (.aload_n 0, 1) := by decide +kernel
theorem d_PR_isAsSeen_102 : decode b_PR_isAsSeen 102 = .ok (.getfield 55, 3) := by decide +kernel
theorem d_PR_isAsSeen_105 : decode b_PR_isAsSeen 105 = .ok (.iload_n 3, 1) := by decide +kernel
theorem d_PR_isAsSeen_106 : decode b_PR_isAsSeen 106 = .ok (.iconst 3, 1) := by decide +kernel
theorem d_PR_isAsSeen_107 : decode b_PR_isAsSeen 107 = .ok (.invokevirtual 251, 3) := by decide +kernel
theorem d_PR_isAsSeen_110 : decode b_PR_isAsSeen 110 = .ok (.iconst 1, 1) := by decide +kernel
theorem d_PR_isAsSeen_111 : decode b_PR_isAsSeen 111 = .ok (.if_icmp .ne 7, 3) := by decide +kernel
theorem d_PR_isAsSeen_114 : decode b_PR_isAsSeen 114 = .ok (.iconst 1, 1) := by decide +kernel
theorem d_PR_isAsSeen_115 : decode b_PR_isAsSeen 115 = .ok (.goto 4, 3) := by decide +kernel
theorem d_PR_isAsSeen_118 : decode b_PR_isAsSeen 118 = .ok (.iconst 0, 1) := by decide +kernel
theorem d_PR_isAsSeen_119 : decode b_PR_isAsSeen 119 = .ok (.if_icmp .eq 5, 3) := by decide +kernel
theorem d_PR_isAsSeen_122 : decode b_PR_isAsSeen 122 = .ok (.iconst 0, 1) := by decide +kernel
theorem d_PR_isAsSeen_123 : decode b_PR_isAsSeen 123 = .ok (.ireturn, 1) := by decide +kernel
theorem d_PR_isAsSeen_124 : decode b_PR_isAsSeen 124 = .ok (.iinc 3 1, 3) := by decide +kernel
theorem d_PR_isAsSeen_127 : decode b_PR_isAsSeen 127 = .ok (.goto (-110), 3) := by decide +kernel
theorem d_PR_isAsSeen_130 : decode b_PR_isAsSeen 130 = .ok (.iconst 1, 1) := by decide +kernel
theorem d_PR_isAsSeen_131 : decode b_PR_isAsSeen 131 = .ok (.ireturn, 1) := by decide +kernel
theorem d_PR_isBestWait_0 : decode b_PR_isBestWait 0 = .ok (.iconst 0, 1) := by decide +kernel
theorem d_PR_isBestWait_1 : decode b_PR_isBestWait 1 = .ok (.istore_n 3, 1) := by decide +kernel
theorem d_PR_isBestWait_2 : decode b_PR_isBestWait 2 = .ok (.iload_n 3, 1) := by decide +kernel
theorem d_PR_isBestWait_3 : decode b_PR_isBestWait 3 = .ok (.iconst 4, 1) := by decide +kernel
theorem d_PR_isBestWait_4 : decode b_PR_isBestWait 4 = .ok (.if_icmp .ge 26, 3) := by decide +kernel
theorem d_PR_isBestWait_7 : decode b_PR_isBestWait 7 = .ok (.iload_n 0, 1) := by decide +kernel
theorem d_PR_isBestWait_8 : decode b_PR_isBestWait 8 = .ok (.iload_n 3, 1) := by decide +kernel
theorem d_PR_isBestWait_9 : decode b_PR_isBestWait 9 = .ok (.iload_n 2, 1) := by decide +kernel
theorem d_PR_isBestWait_10 : decode b_PR_isBestWait 10 = .ok (.invokestatic 261, 3) := by decide +kernel
theorem d_PR_isBestWait_13 : decode b_PR_isBestWait 13 = .ok (.iload_n 0, 1) := by decide +kernel
theorem d_PR_isBestWait_14 : decode b_PR_isBestWait 14 = .ok (.iload_n 1, 1) := by decide +kernel
theorem d_PR_isBestWait_15 : decode b_PR_isBestWait 15 = .ok (.iload_n 2, 1) := by decide +kernel
theorem d_PR_isBestWait_16 : decode b_PR_isBestWait 16 = .ok (.invokestatic 261, 3) := by decide +kernel
theorem d_PR_isBestWait_19 : decode b_PR_isBestWait 19 = .ok (.if_icmp .le 5, 3) := by decide +kernel
theorem d_PR_isBestWait_22 : decode b_PR_isBestWait 22 = .ok (.iconst 0, 1) := by decide +kernel
theorem d_PR_isBestWait_23 : decode b_PR_isBestWait 23 = .ok (.ireturn, 1) := by decide +kernel
theorem d_PR_isBestWait_24 : decode b_PR_isBestWait 24 = .ok (.iinc 3 1, 3) := by decide +kernel
theorem d_PR_isBestWait_27 : decode b_PR_isBestWait 27 = .ok (.goto (-25), 3) := by decide +kernel
theorem d_PR_isBestWait_30 : decode b_PR_isBestWait 30 = .ok (.iconst 1, 1) := by decide +kernel
theorem d_PR_isBestWait_31 : decode b_PR_isBestWait 31 = .ok (.ireturn, 1) := by decide +kernel
theorem d_PR_isFinger_0 : decode b_PR_isFinger 0 = .ok (.iload_n 0, 1) := by decide +kernel
theorem d_PR_isFinger_1 : decode b_PR_isFinger 1 = .ok (.ifCond .lt 12, 3) := by decide +kernel
theorem d_PR_isFinger_4 : decode b_PR_isFinger 4 = .ok (.iload_n 0, 1) := by decide +kernel
theorem d_PR_isFinger_5 : decode b_PR_isFinger 5 = .ok (.iconst 4, 1) := by decide +kernel
theorem d_PR_isFinger_6 : decode b_PR_isFinger 6 = .ok (.if_icmp .ge 7, 3) := by decide +kernel
theorem d_PR_isFinger_9 : decode b_PR_isFinger 9 = .ok (.iconst 1, 1) := by decide +kernel
theorem d_PR_isFinger_10 : decode b_PR_isFinger 10 = .ok (.goto 4, 3) := by decide +kernel
theorem d_PR_isFinger_13 : decode b_PR_isFinger 13 = .ok (.iconst 0, 1) := by decide +kernel
theorem d_PR_isFinger_14 : decode b_PR_isFinger 14 = .ok (.ireturn, 1) := by decide +kernel
theorem d_PR_isOneOfTwo_0 : decode b_PR_isOneOfTwo 0 = .ok (.iload_n 0, 1) := by decide +kernel
theorem d_PR_isOneOfTwo_1 : decode b_PR_isOneOfTwo 1 = .ok (.ifCond .eq 8, 3) := by decide +kernel
theorem d_PR_isOneOfTwo_4 : decode b_PR_isOneOfTwo 4 = .ok (.iload_n 0, 1) := by decide +kernel
theorem d_PR_isOneOfTwo_5 : decode b_PR_isOneOfTwo 5 = .ok (.iconst 1, 1) := by decide +kernel
theorem d_PR_isOneOfTwo_6 : decode b_PR_isOneOfTwo 6 = .ok (.if_icmp .ne 7, 3) := by decide +kernel
theorem d_PR_isOneOfTwo_9 : decode b_PR_isOneOfTwo 9 = .ok (.iconst 1, 1) := by decide +kernel
theorem d_PR_isOneOfTwo_10 : decode b_PR_isOneOfTwo 10 = .ok (.goto 4, 3) := by decide +kernel
theorem d_PR_isOneOfTwo_13 : decode b_PR_isOneOfTwo 13 = .ok (.iconst 0, 1) := by decide +kernel
theorem d_PR_isOneOfTwo_14 : decode b_PR_isOneOfTwo 14 = .ok (.ireturn, 1) := by decide +kernel
theorem d_PR_judge_0 : decode b_PR_judge 0 = .ok (.iload_n 1, 1) := by decide +kernel
theorem d_PR_judge_1 : decode b_PR_judge 1 = .ok (.iconst 1, 1) := by decide +kernel
theorem d_PR_judge_2 : decode b_PR_judge 2 = .ok (.if_icmp .lt 21, 3) := by decide +kernel
theorem d_PR_judge_5 : decode b_PR_judge 5 = .ok (.iload_n 1, 1) := by decide +kernel
theorem d_PR_judge_6 : decode b_PR_judge 6 = .ok (.iconst 4, 1) := by decide +kernel
theorem d_PR_judge_7 : decode b_PR_judge 7 = .ok (.if_icmp .gt 16, 3) := by decide +kernel
theorem d_PR_judge_10 : decode b_PR_judge 10 = .ok (.iload_n 2, 1) := by decide +kernel
theorem d_PR_judge_11 : decode b_PR_judge 11 = .ok (.ifCond .lt 12, 3) := by decide +kernel
theorem d_PR_judge_14 : decode b_PR_judge 14 = .ok (.iload_n 1, 1) := by decide +kernel
theorem d_PR_judge_15 : decode b_PR_judge 15 = .ok (.iload_n 2, 1) := by decide +kernel
theorem d_PR_judge_16 : decode b_PR_judge 16 = .ok (.iconst (-1), 1) := by decide +kernel
theorem d_PR_judge_17 : decode b_PR_judge 17 = .ok (.invokestatic 194, 3) := by decide +kernel
theorem d_PR_judge_20 : decode b_PR_judge 20 = .ok (.ifCond .eq 6, 3) := by decide +kernel
theorem d_PR_judge_23 : decode b_PR_judge 23 = .ok (.bipush (-2), 2) := by decide +kernel
theorem d_PR_judge_25 : decode b_PR_judge 25 = .ok (.ireturn, 1) := by decide +kernel
theorem d_PR_judge_26 : decode b_PR_judge 26 = .ok (.aload_n 0, 1) := by decide +kernel
theorem d_PR_judge_27 : decode b_PR_judge 27 = .ok (.getfield 30, 3) := by decide +kernel
theorem d_PR_judge_30 : decode b_PR_judge 30 = .ok (.aload_n 0, 1) := by decide +kernel
theorem d_PR_judge_31 : decode b_PR_judge 31 = .ok (.getfield 26, 3) := by decide +kernel
theorem d_PR_judge_34 : decode b_PR_judge 34 = .ok (.invokevirtual 186, 3) := by decide +kernel
theorem d_PR_judge_37 : decode b_PR_judge 37 = .ok (.iconst 0, 1) := by decide +kernel
theorem d_PR_judge_38 : decode b_PR_judge 38 = .ok (.istore_n 3, 1) := by decide +kernel
theorem d_PR_judge_39 : decode b_PR_judge 39 = .ok (.iload_n 3, 1) := by decide +kernel
theorem d_PR_judge_40 : decode b_PR_judge 40 = .ok (.iload_n 1, 1) := by decide +kernel
theorem d_PR_judge_41 : decode b_PR_judge 41 = .ok (.if_icmp .ge 43, 3) := by decide +kernel
theorem d_PR_judge_44 : decode b_PR_judge 44 = .ok (.iload_n 1, 1) := by decide +kernel
theorem d_PR_judge_45 : decode b_PR_judge 45 = .ok (.iload_n 2, 1) := by decide +kernel
theorem d_PR_judge_46 : decode b_PR_judge 46 = .ok (.iload_n 3, 1) := by decide +kernel
theorem d_PR_judge_47 : decode b_PR_judge 47 = .ok (.invokestatic 194, 3) := by decide +kernel
theorem d_PR_judge_50 : decode b_PR_judge 50 = .ok (.bipush 100, 2) := by decide +kernel
theorem d_PR_judge_52 : decode b_PR_judge 52 = .ok (.irem, 1) := by decide +kernel
theorem d_PR_judge_53 : decode b_PR_judge 53 = .ok (.istore 4, 2) := by decide +kernel
theorem d_PR_judge_55 : decode b_PR_judge 55 = .ok (.aload_n 0, 1) := by decide +kernel
theorem d_PR_judge_56 : decode b_PR_judge 56 = .ok (.aload_n 0, 1) := by decide +kernel
theorem d_PR_judge_57 : decode b_PR_judge 57 = .ok (.getfield 30, 3) := by decide +kernel
theorem d_PR_judge_60 : decode b_PR_judge 60 = .ok (.iload 4, 2) := by decide +kernel
theorem d_PR_judge_62 : decode b_PR_judge 62 = .ok (.bipush 10, 2) := by decide +kernel
theorem d_PR_judge_64 : decode b_PR_judge 64 = .ok (.idiv, 1) := by decide +kernel
theorem d_PR_judge_65 : decode b_PR_judge 65 = .ok (.iload 4, 2) := by decide +kernel
theorem d_PR_judge_67 : decode b_PR_judge 67 = .ok (.bipush 10, 2) := by decide +kernel
theorem d_PR_judge_69 : decode b_PR_judge 69 = .ok (.irem, 1) := by decide +kernel
theorem d_PR_judge_70 : decode b_PR_judge 70 = .ok (.invokevirtual 198, 3) := by decide +kernel
theorem d_PR_judge_73 : decode b_PR_judge 73 = .ok (.ifCond .ne 5, 3) := by decide +kernel
theorem d_PR_judge_76 : decode b_PR_judge 76 = .ok (.iload_n 3, 1) := by decide +kernel
theorem d_PR_judge_77 : decode b_PR_judge 77 = .ok (.ireturn, 1) := by decide +kernel
theorem d_PR_judge_78 : decode b_PR_judge 78 = .ok (.iinc 3 1, 3) := by decide +kernel
theorem d_PR_judge_81 : decode b_PR_judge 81 = .ok (.goto (-42), 3) := by decide +kernel
theorem d_PR_judge_84 : decode b_PR_judge 84 = .ok (.bipush (-9), 2) := by decide +kernel
theorem d_PR_judge_86 : decode b_PR_judge 86 = .ok (.ireturn, 1) := by decide +kernel

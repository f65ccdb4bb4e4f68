theorem d_Hall_has_0 : decode b_Hall_has 0 = .ok (.iload_n 1, 1) := by decide +kernel
theorem d_Hall_has_1 : decode b_Hall_has 1 = .ok (.ifCond .lt 15, 3) := by decide +kernel
theorem d_Hall_has_4 : decode b_Hall_has 4 = .ok (.iload_n 1, 1) := by decide +kernel
theorem d_Hall_has_5 : decode b_Hall_has 5 = .ok (.aload_n 0, 1) := by decide +kernel
theorem d_Hall_has_6 : decode b_Hall_has 6 = .ok (.getfield 24, 3) := by decide +kernel
theorem d_Hall_has_9 : decode b_Hall_has 9 = .ok (.if_icmp .ge 7, 3) := by decide +kernel
theorem d_Hall_has_12 : decode b_Hall_has 12 = .ok (.iconst 1, 1) := by decide +kernel
theorem d_Hall_has_13 : decode b_Hall_has 13 = .ok (.goto 4, 3) := by decide +kernel
theorem d_Hall_has_16 : decode b_Hall_has 16 = .ok (.iconst 0, 1) := by decide +kernel
theorem d_Hall_has_17 : decode b_Hall_has 17 = .ok (.ireturn, 1) := by decide +kernel
theorem d_Hall_kind_0 : decode b_Hall_kind 0 = .ok (.iload_n 1, 1) := by decide +kernel
theorem d_Hall_kind_1 : decode b_Hall_kind 1 = .ok (.ifCond .lt 20, 3) := by decide +kernel
theorem d_Hall_kind_4 : decode b_Hall_kind 4 = .ok (.iload_n 1, 1) := by decide +kernel
theorem d_Hall_kind_5 : decode b_Hall_kind 5 = .ok (.aload_n 0, 1) := by decide +kernel
theorem d_Hall_kind_6 : decode b_Hall_kind 6 = .ok (.getfield 24, 3) := by decide +kernel
theorem d_Hall_kind_9 : decode b_Hall_kind 9 = .ok (.if_icmp .ge 12, 3) := by decide +kernel
theorem d_Hall_kind_12 : decode b_Hall_kind 12 = .ok (.aload_n 0, 1) := by decide +kernel
theorem d_Hall_kind_13 : decode b_Hall_kind 13 = .ok (.getfield 15, 3) := by decide +kernel
theorem d_Hall_kind_16 : decode b_Hall_kind 16 = .ok (.iload_n 1, 1) := by decide +kernel
theorem d_Hall_kind_17 : decode b_Hall_kind 17 = .ok (.iaload, 1) := by decide +kernel
theorem d_Hall_kind_18 : decode b_Hall_kind 18 = .ok (.goto 4, 3) := by decide +kernel
theorem d_Hall_kind_21 : decode b_Hall_kind 21 = .ok (.iconst 0, 1) := by decide +kernel
theorem d_Hall_kind_22 : decode b_Hall_kind 22 = .ok (.ireturn, 1) := by decide +kernel
theorem d_Hall_layer_0 : decode b_Hall_layer 0 = .ok (.iload_n 1, 1) := by decide +kernel
theorem d_Hall_layer_1 : decode b_Hall_layer 1 = .ok (.invokestatic 43, 3) := by decide +kernel
theorem d_Hall_layer_4 : decode b_Hall_layer 4 = .ok (.ifCond .eq 25, 3) := by decide +kernel
theorem d_Hall_layer_7 : decode b_Hall_layer 7 = .ok (.iload_n 2, 1) := by decide +kernel
theorem d_Hall_layer_8 : decode b_Hall_layer 8 = .ok (.ifCond .lt 21, 3) := by decide +kernel
theorem d_Hall_layer_11 : decode b_Hall_layer 11 = .ok (.iload_n 2, 1) := by decide +kernel
theorem d_Hall_layer_12 : decode b_Hall_layer 12 = .ok (.iconst 3, 1) := by decide +kernel
theorem d_Hall_layer_13 : decode b_Hall_layer 13 = .ok (.if_icmp .ge 16, 3) := by decide +kernel
theorem d_Hall_layer_16 : decode b_Hall_layer 16 = .ok (.aload_n 0, 1) := by decide +kernel
theorem d_Hall_layer_17 : decode b_Hall_layer 17 = .ok (.getfield 9, 3) := by decide +kernel
theorem d_Hall_layer_20 : decode b_Hall_layer 20 = .ok (.iload_n 1, 1) := by decide +kernel
theorem d_Hall_layer_21 : decode b_Hall_layer 21 = .ok (.iconst 3, 1) := by decide +kernel
theorem d_Hall_layer_22 : decode b_Hall_layer 22 = .ok (.imul, 1) := by decide +kernel
theorem d_Hall_layer_23 : decode b_Hall_layer 23 = .ok (.iload_n 2, 1) := by decide +kernel
theorem d_Hall_layer_24 : decode b_Hall_layer 24 = .ok (.iadd, 1) := by decide +kernel
theorem d_Hall_layer_25 : decode b_Hall_layer 25 = .ok (.iaload, 1) := by decide +kernel
theorem d_Hall_layer_26 : decode b_Hall_layer 26 = .ok (.goto 4, 3) := by decide +kernel
theorem d_Hall_layer_29 : decode b_Hall_layer 29 = .ok (.iconst 0, 1) := by decide +kernel
theorem d_Hall_layer_30 : decode b_Hall_layer 30 = .ok (.ireturn, 1) := by decide +kernel
theorem d_Hall_patience_0 : decode b_Hall_patience 0 = .ok (.iload_n 1, 1) := by decide +kernel
theorem d_Hall_patience_1 : decode b_Hall_patience 1 = .ok (.ifCond .lt 20, 3) := by decide +kernel
theorem d_Hall_patience_4 : decode b_Hall_patience 4 = .ok (.iload_n 1, 1) := by decide +kernel
theorem d_Hall_patience_5 : decode b_Hall_patience 5 = .ok (.aload_n 0, 1) := by decide +kernel
theorem d_Hall_patience_6 : decode b_Hall_patience 6 = .ok (.getfield 24, 3) := by decide +kernel
theorem d_Hall_patience_9 : decode b_Hall_patience 9 = .ok (.if_icmp .ge 12, 3) := by decide +kernel
theorem d_Hall_patience_12 : decode b_Hall_patience 12 = .ok (.aload_n 0, 1) := by decide +kernel
theorem d_Hall_patience_13 : decode b_Hall_patience 13 = .ok (.getfield 18, 3) := by decide +kernel
theorem d_Hall_patience_16 : decode b_Hall_patience 16 = .ok (.iload_n 1, 1) := by decide +kernel
theorem d_Hall_patience_17 : decode b_Hall_patience 17 = .ok (.iaload, 1) := by decide +kernel
theorem d_Hall_patience_18 : decode b_Hall_patience 18 = .ok (.goto 4, 3) := by decide +kernel
theorem d_Hall_patience_21 : decode b_Hall_patience 21 = .ok (.iconst 0, 1) := by decide +kernel
theorem d_Hall_patience_22 : decode b_Hall_patience 22 = .ok (.ireturn, 1) := by decide +kernel
theorem d_Hall_read_0 : decode b_Hall_read 0 = .ok (.iconst 0, 1) := by decide +kernel
theorem d_Hall_read_1 : decode b_Hall_read 1 = .ok (.istore_n 2, 1) := by decide +kernel
theorem d_Hall_read_2 : decode b_Hall_read 2 = .ok (.iload_n 2, 1) := by decide +kernel
theorem d_Hall_read_3 : decode b_Hall_read 3 = .ok (.aload_n 0, 1) := by decide +kernel
theorem d_Hall_read_4 : decode b_Hall_read 4 = .ok (.getfield 9, 3) := by decide +kernel
theorem d_Hall_read_7 : decode b_Hall_read 7 = .ok (.arraylength, 1) := by decide +kernel
theorem d_Hall_read_8 : decode b_Hall_read 8 = .ok (.if_icmp .ge 22, 3) := by decide +kernel
theorem d_Hall_read_11 : decode b_Hall_read 11 = .ok (.aload_n 0, 1) := by decide +kernel
theorem d_Hall_read_12 : decode b_Hall_read 12 = .ok (.getfield 9, 3) := by decide +kernel
theorem d_Hall_read_15 : decode b_Hall_read 15 = .ok (.iload_n 2, 1) := by decide +kernel
theorem d_Hall_read_16 : decode b_Hall_read 16 = .ok (.aload_n 1, 1) := by decide +kernel
theorem d_Hall_read_17 : decode b_Hall_read 17 = .ok (.iconst 1, 1) := by decide +kernel
theorem d_Hall_read_18 : decode b_Hall_read 18 = .ok (.iload_n 2, 1) := by decide +kernel
theorem d_Hall_read_19 : decode b_Hall_read 19 = .ok (.iadd, 1) := by decide +kernel
theorem d_Hall_read_20 : decode b_Hall_read 20 = .ok (.invokevirtual 28, 3) := by decide +kernel
theorem d_Hall_read_23 : decode b_Hall_read 23 = .ok (.iastore, 1) := by decide +kernel
theorem d_Hall_read_24 : decode b_Hall_read 24 = .ok (.iinc 2 1, 3) := by decide +kernel
theorem d_Hall_read_27 : decode b_Hall_read 27 = .ok (.goto (-25), 3) := by decide +kernel
theorem d_Hall_read_30 : decode b_Hall_read 30 = .ok (.aload_n 0, 1) := by decide +kernel
theorem d_Hall_read_31 : decode b_Hall_read 31 = .ok (.aload_n 1, 1) := by decide +kernel
theorem d_Hall_read_32 : decode b_Hall_read 32 = .ok (.getfield 34, 3) := by decide +kernel
theorem d_Hall_read_35 : decode b_Hall_read 35 = .ok (.bipush 13, 2) := by decide +kernel
theorem d_Hall_read_37 : decode b_Hall_read 37 = .ok (.isub, 1) := by decide +kernel
theorem d_Hall_read_38 : decode b_Hall_read 38 = .ok (.bipush 7, 2) := by decide +kernel
theorem d_Hall_read_40 : decode b_Hall_read 40 = .ok (.idiv, 1) := by decide +kernel
theorem d_Hall_read_41 : decode b_Hall_read 41 = .ok (.iconst 5, 1) := by decide +kernel
theorem d_Hall_read_42 : decode b_Hall_read 42 = .ok (.invokestatic 37, 3) := by decide +kernel
theorem d_Hall_read_45 : decode b_Hall_read 45 = .ok (.putfield 24, 3) := by decide +kernel
theorem d_Hall_read_48 : decode b_Hall_read 48 = .ok (.iconst 0, 1) := by decide +kernel
theorem d_Hall_read_49 : decode b_Hall_read 49 = .ok (.istore_n 2, 1) := by decide +kernel
theorem d_Hall_read_50 : decode b_Hall_read 50 = .ok (.iload_n 2, 1) := by decide +kernel
theorem d_Hall_read_51 : decode b_Hall_read 51 = .ok (.aload_n 0, 1) := by decide +kernel
theorem d_Hall_read_52 : decode b_Hall_read 52 = .ok (.getfield 24, 3) := by decide +kernel
theorem d_Hall_read_55 : decode b_Hall_read 55 = .ok (.if_icmp .ge 79, 3) := by decide +kernel
theorem d_Hall_read_58 : decode b_Hall_read 58 = .ok (.bipush 13, 2) := by decide +kernel
theorem d_Hall_read_60 : decode b_Hall_read 60 = .ok (.iload_n 2, 1) := by decide +kernel
theorem d_Hall_read_61 : decode b_Hall_read 61 = .ok (.bipush 7, 2) := by decide +kernel
theorem d_Hall_read_63 : decode b_Hall_read 63 = .ok (.imul, 1) := by decide +kernel
theorem d_Hall_read_64 : decode b_Hall_read 64 = .ok (.iadd, 1) := by decide +kernel
theorem d_Hall_read_65 : decode b_Hall_read 65 = .ok (.istore_n 3, 1) := by decide +kernel
theorem d_Hall_read_66 : decode b_Hall_read 66 = .ok (.aload_n 0, 1) := by decide +kernel
theorem d_Hall_read_67 : decode b_Hall_read 67 = .ok (.getfield 15, 3) := by decide +kernel
theorem d_Hall_read_70 : decode b_Hall_read 70 = .ok (.iload_n 2, 1) := by decide +kernel
theorem d_Hall_read_71 : decode b_Hall_read 71 = .ok (.aload_n 1, 1) := by decide +kernel
theorem d_Hall_read_72 : decode b_Hall_read 72 = .ok (.iload_n 3, 1) := by decide +kernel
theorem d_Hall_read_73 : decode b_Hall_read 73 = .ok (.iconst 1, 1) := by decide +kernel
theorem d_Hall_read_74 : decode b_Hall_read 74 = .ok (.iadd, 1) := by decide +kernel
theorem d_Hall_read_75 : decode b_Hall_read 75 = .ok (.invokevirtual 28, 3) := by decide +kernel
theorem d_Hall_read_78 : decode b_Hall_read 78 = .ok (.iastore, 1) := by decide +kernel
theorem d_Hall_read_79 : decode b_Hall_read 79 = .ok (.aload_n 0, 1) := by decide +kernel
theorem d_Hall_read_80 : decode b_Hall_read 80 = .ok (.getfield 18, 3) := by decide +kernel
theorem d_Hall_read_83 : decode b_Hall_read 83 = .ok (.iload_n 2, 1) := by decide +kernel
theorem d_Hall_read_84 : decode b_Hall_read 84 = .ok (.aload_n 1, 1) := by decide +kernel
theorem d_Hall_read_85 : decode b_Hall_read 85 = .ok (.iload_n 3, 1) := by decide +kernel
theorem d_Hall_read_86 : decode b_Hall_read 86 = .ok (.iconst 2, 1) := by decide +kernel
theorem d_Hall_read_87 : decode b_Hall_read 87 = .ok (.iadd, 1) := by decide +kernel
theorem d_Hall_read_88 : decode b_Hall_read 88 = .ok (.invokevirtual 28, 3) := by decide +kernel
theorem d_Hall_read_91 : decode b_Hall_read 91 = .ok (.iastore, 1) := by decide +kernel
theorem d_Hall_read_92 : decode b_Hall_read 92 = .ok (.iconst 0, 1) := by decide +kernel
theorem d_Hall_read_93 : decode b_Hall_read 93 = .ok (.istore 4, 2) := by decide +kernel
theorem d_Hall_read_95 : decode b_Hall_read 95 = .ok (.iload 4, 2) := by decide +kernel
theorem d_Hall_read_97 : decode b_Hall_read 97 = .ok (.iconst 4, 1) := by decide +kernel
theorem d_Hall_read_98 : decode b_Hall_read 98 = .ok (.if_icmp .ge 30, 3) := by decide +kernel
theorem d_Hall_read_101 : decode b_Hall_read 101 = .ok (.aload_n 0, 1) := by decide +kernel
theorem d_Hall_read_102 : decode b_Hall_read 102 = .ok (.getfield 21, 3) := by decide +kernel
theorem d_Hall_read_105 : decode b_Hall_read 105 = .ok (.iload_n 2, 1) := by decide +kernel
theorem d_Hall_read_106 : decode b_Hall_read 106 = .ok (.iconst 4, 1) := by decide +kernel
theorem d_Hall_read_107 : decode b_Hall_read 107 = .ok (.imul, 1) := by decide +kernel
theorem d_Hall_read_108 : decode b_Hall_read 108 = .ok (.iload 4, 2) := by decide +kernel
theorem d_Hall_read_110 : decode b_Hall_read 110 = .ok (.iadd, 1) := by decide +kernel
theorem d_Hall_read_111 : decode b_Hall_read 111 = .ok (.aload_n 1, 1) := by decide +kernel
theorem d_Hall_read_112 : decode b_Hall_read 112 = .ok (.iload_n 3, 1) := by decide +kernel
theorem d_Hall_read_113 : decode b_Hall_read 113 = .ok (.iconst 3, 1) := by decide +kernel
theorem d_Hall_read_114 : decode b_Hall_read 114 = .ok (.iadd, 1) := by decide +kernel
theorem d_Hall_read_115 : decode b_Hall_read 115 = .ok (.iload 4, 2) := by decide +kernel
theorem d_Hall_read_117 : decode b_Hall_read 117 = .ok (.iadd, 1) := by decide +kernel
theorem d_Hall_read_118 : decode b_Hall_read 118 = .ok (.invokevirtual 28, 3) := by decide +kernel
theorem d_Hall_read_121 : decode b_Hall_read 121 = .ok (.iastore, 1) := by decide +kernel
theorem d_Hall_read_122 : decode b_Hall_read 122 = .ok (.iinc 4 1, 3) := by decide +kernel
theorem d_Hall_read_125 : decode b_Hall_read 125 = .ok (.goto (-30), 3) := by decide +kernel
theorem d_Hall_read_128 : decode b_Hall_read 128 = .ok (.iinc 2 1, 3) := by decide +kernel
theorem d_Hall_read_131 : decode b_Hall_read 131 = .ok (.goto (-81), 3) := by decide +kernel
theorem d_Hall_read_134 : decode b_Hall_read 134 = .ok (.return_, 1) := by decide +kernel
theorem d_Hall_wanted_0 : decode b_Hall_wanted 0 = .ok (.iload_n 1, 1) := by decide +kernel
theorem d_Hall_wanted_1 : decode b_Hall_wanted 1 = .ok (.ifCond .lt 24, 3) := by decide +kernel
theorem d_Hall_wanted_4 : decode b_Hall_wanted 4 = .ok (.iload_n 1, 1) := by decide +kernel
theorem d_Hall_wanted_5 : decode b_Hall_wanted 5 = .ok (.aload_n 0, 1) := by decide +kernel
theorem d_Hall_wanted_6 : decode b_Hall_wanted 6 = .ok (.getfield 24, 3) := by decide +kernel
theorem d_Hall_wanted_9 : decode b_Hall_wanted 9 = .ok (.if_icmp .ge 16, 3) := by decide +kernel
theorem d_Hall_wanted_12 : decode b_Hall_wanted 12 = .ok (.iload_n 2, 1) := by decide +kernel
theorem d_Hall_wanted_13 : decode b_Hall_wanted 13 = .ok (.ifCond .lt 12, 3) := by decide +kernel
theorem d_Hall_wanted_16 : decode b_Hall_wanted 16 = .ok (.iload_n 2, 1) := by decide +kernel
theorem d_Hall_wanted_17 : decode b_Hall_wanted 17 = .ok (.iconst 4, 1) := by decide +kernel
theorem d_Hall_wanted_18 : decode b_Hall_wanted 18 = .ok (.if_icmp .ge 7, 3) := by decide +kernel
theorem d_Hall_wanted_21 : decode b_Hall_wanted 21 = .ok (.iconst 1, 1) := by decide +kernel
theorem d_Hall_wanted_22 : decode b_Hall_wanted 22 = .ok (.goto 4, 3) := by decide +kernel
theorem d_Hall_wanted_25 : decode b_Hall_wanted 25 = .ok (.iconst 0, 1) := by decide +kernel
theorem d_Hall_wanted_26 : decode b_Hall_wanted 26 = .ok (.istore_n 3, 1) := by decide +kernel
theorem d_Hall_wanted_27 : decode b_Hall_wanted 27 = .ok (.iload_n 3, 1) := by decide +kernel
theorem d_Hall_wanted_28 : decode b_Hall_wanted 28 = .ok (.ifCond .eq 16, 3) := by decide +kernel
theorem d_Hall_wanted_31 : decode b_Hall_wanted 31 = .ok (.aload_n 0, 1) := by decide +kernel
theorem d_Hall_wanted_32 : decode b_Hall_wanted 32 = .ok (.getfield 21, 3) := by decide +kernel
theorem d_Hall_wanted_35 : decode b_Hall_wanted 35 = .ok (.iload_n 1, 1) := by decide +kernel
theorem d_Hall_wanted_36 : decode b_Hall_wanted 36 = .ok (.iconst 4, 1) := by decide +kernel
theorem d_Hall_wanted_37 : decode b_Hall_wanted 37 = .ok (.imul, 1) := by decide +kernel
theorem d_Hall_wanted_38 : decode b_Hall_wanted 38 = .ok (.iload_n 2, 1) := by decide +kernel
theorem d_Hall_wanted_39 : decode b_Hall_wanted 39 = .ok (.iadd, 1) := by decide +kernel
theorem d_Hall_wanted_40 : decode b_Hall_wanted 40 = .ok (.iaload, 1) := by decide +kernel
theorem d_Hall_wanted_41 : decode b_Hall_wanted 41 = .ok (.goto 4, 3) := by decide +kernel
theorem d_Hall_wanted_44 : decode b_Hall_wanted 44 = .ok (.iconst 0, 1) := by decide +kernel
theorem d_Hall_wanted_45 : decode b_Hall_wanted 45 = .ok (.ireturn, 1) := by decide +kernel
theorem d_Hand_init_0 : decode b_Hand_init 0 = .ok (.aload_n 0, 1) := by decide +kernel
theorem d_Hand_init_1 : decode b_Hand_init 1 = .ok (.invokespecial 3, 3) := by decide +kernel
theorem d_Hand_init_4 : decode b_Hand_init 4 = .ok (.aload_n 0, 1) := by decide +kernel
theorem d_Hand_init_5 : decode b_Hand_init 5 = .ok (.iconst 4, 1) := by decide +kernel
theorem d_Hand_init_6 : decode b_Hand_init 6 = .ok (.newarray .int, 2) := by decide +kernel
theorem d_Hand_init_8 : decode b_Hand_init 8 = .ok (.putfield 9, 3) := by decide +kernel
theorem d_Hand_init_11 : decode b_Hand_init 11 = .ok (.return_, 1) := by decide +kernel
theorem d_Hand_hailed_0 : decode b_Hand_hailed 0 = .ok (.iconst 0, 1) := by decide +kernel
theorem d_Hand_hailed_1 : decode b_Hand_hailed 1 = .ok (.istore_n 2, 1) := by decide +kernel
theorem d_Hand_hailed_2 : decode b_Hand_hailed 2 = .ok (.iconst 0, 1) := by decide +kernel
theorem d_Hand_hailed_3 : decode b_Hand_hailed 3 = .ok (.istore_n 3, 1) := by decide +kernel
theorem d_Hand_hailed_4 : decode b_Hand_hailed 4 = .ok (.iload_n 3, 1) := by decide +kernel
theorem d_Hand_hailed_5 : decode b_Hand_hailed 5 = .ok (.aload_n 1, 1) := by decide +kernel
theorem d_Hand_hailed_6 : decode b_Hand_hailed 6 = .ok (.getfield 31, 3) := by decide +kernel
theorem d_Hand_hailed_9 : decode b_Hand_hailed 9 = .ok (.if_icmp .ge 24, 3) := by decide +kernel
theorem d_Hand_hailed_12 : decode b_Hand_hailed 12 = .ok (.aload_n 0, 1) := by decide +kernel
theorem d_Hand_hailed_13 : decode b_Hand_hailed 13 = .ok (.aload_n 1, 1) := by decide +kernel
theorem d_Hand_hailed_14 : decode b_Hand_hailed 14 = .ok (.iload_n 3, 1) := by decide +kernel
theorem d_Hand_hailed_15 : decode b_Hand_hailed 15 = .ok (.invokevirtual 35, 3) := by decide +kernel
theorem d_Hand_hailed_18 : decode b_Hand_hailed 18 = .ok (.ifCond .eq 9, 3) := by decide +kernel
theorem d_Hand_hailed_21 : decode b_Hand_hailed 21 = .ok (.iload_n 2, 1) := by decide +kernel
theorem d_Hand_hailed_22 : decode b_Hand_hailed 22 = .ok (.iconst 1, 1) := by decide +kernel
theorem d_Hand_hailed_23 : decode b_Hand_hailed 23 = .ok (.iload_n 3, 1) := by decide +kernel
theorem d_Hand_hailed_24 : decode b_Hand_hailed 24 = .ok (.ishl, 1) := by decide +kernel
theorem d_Hand_hailed_25 : decode b_Hand_hailed 25 = .ok (.ior, 1) := by decide +kernel
theorem d_Hand_hailed_26 : decode b_Hand_hailed 26 = .ok (.istore_n 2, 1) := by decide +kernel
theorem d_Hand_hailed_27 : decode b_Hand_hailed 27 = .ok (.iinc 3 1, 3) := by decide +kernel
theorem d_Hand_hailed_30 : decode b_Hand_hailed 30 = .ok (.goto (-26), 3) := by decide +kernel
theorem d_Hand_hailed_33 : decode b_Hand_hailed 33 = .ok (.iload_n 2, 1) := by decide +kernel
theorem d_Hand_hailed_34 : decode b_Hand_hailed 34 = .ok (.ireturn, 1) := by decide +kernel
theorem d_Hand_hails_0 : decode b_Hand_hails 0 = .ok (.aload_n 1, 1) := by decide +kernel
theorem d_Hand_hails_1 : decode b_Hand_hails 1 = .ok (.iload_n 2, 1) := by decide +kernel
theorem d_Hand_hails_2 : decode b_Hand_hails 2 = .ok (.invokevirtual 39, 3) := by decide +kernel
theorem d_Hand_hails_5 : decode b_Hand_hails 5 = .ok (.istore_n 3, 1) := by decide +kernel
theorem d_Hand_hails_6 : decode b_Hand_hails 6 = .ok (.iload_n 3, 1) := by decide +kernel
theorem d_Hand_hails_7 : decode b_Hand_hails 7 = .ok (.iconst 1, 1) := by decide +kernel
theorem d_Hand_hails_8 : decode b_Hand_hails 8 = .ok (.if_icmp .ne 7, 3) := by decide +kernel
theorem d_Hand_hails_11 : decode b_Hand_hails 11 = .ok (.iconst 2, 1) := by decide +kernel
theorem d_Hand_hails_12 : decode b_Hand_hails 12 = .ok (.goto 4, 3) := by decide +kernel
theorem d_Hand_hails_15 : decode b_Hand_hails 15 = .ok (.iconst 4, 1) := by decide +kernel
theorem d_Hand_hails_16 : decode b_Hand_hails 16 = .ok (.istore 4, 2) := by decide +kernel
theorem d_Hand_hails_18 : decode b_Hand_hails 18 = .ok (.iconst 0, 1) := by decide +kernel
theorem d_Hand_hails_19 : decode b_Hand_hails 19 = .ok (.istore 5, 2) := by decide +kernel
theorem d_Hand_hails_21 : decode b_Hand_hails 21 = .ok (.iconst 0, 1) := by decide +kernel
theorem d_Hand_hails_22 : decode b_Hand_hails 22 = .ok (.istore 6, 2) := by decide +kernel
theorem d_Hand_hails_24 : decode b_Hand_hails 24 = .ok (.iload 6, 2) := by decide +kernel
theorem d_Hand_hails_26 : decode b_Hand_hails 26 = .ok (.iload 4, 2) := by decide +kernel
theorem d_Hand_hails_28 : decode b_Hand_hails 28 = .ok (.if_icmp .ge 70, 3) := by decide +kernel
theorem d_Hand_hails_31 : decode b_Hand_hails 31 = .ok (.aload_n 1, 1) := by decide +kernel
theorem d_Hand_hails_32 : decode b_Hand_hails 32 = .ok (.iload_n 2, 1) := by decide +kernel
theorem d_Hand_hails_33 : decode b_Hand_hails 33 = .ok (.iload 6, 2) := by decide +kernel
theorem d_Hand_hails_35 : decode b_Hand_hails 35 = .ok (.invokevirtual 42, 3) := by decide +kernel
theorem d_Hand_hails_38 : decode b_Hand_hails 38 = .ok (.istore 7, 2) := by decide +kernel
theorem d_Hand_hails_40 : decode b_Hand_hails 40 = .ok (.aload_n 0, 1) := by decide +kernel
theorem d_Hand_hails_41 : decode b_Hand_hails 41 = .ok (.getfield 9, 3) := by decide +kernel
theorem d_Hand_hails_44 : decode b_Hand_hails 44 = .ok (.iload 6, 2) := by decide +kernel
theorem d_Hand_hails_46 : decode b_Hand_hails 46 = .ok (.iaload, 1) := by decide +kernel
theorem d_Hand_hails_47 : decode b_Hand_hails 47 = .ok (.iconst (-1), 1) := by decide +kernel
theorem d_Hand_hails_48 : decode b_Hand_hails 48 = .ok (.if_icmp .eq 21, 3) := by decide +kernel
theorem d_Hand_hails_51 : decode b_Hand_hails 51 = .ok (.iload 7, 2) := by decide +kernel
theorem d_Hand_hails_53 : decode b_Hand_hails 53 = .ok (.iconst 3, 1) := by decide +kernel
theorem d_Hand_hails_54 : decode b_Hand_hails 54 = .ok (.if_icmp .eq 17, 3) := by decide +kernel
theorem d_Hand_hails_57 : decode b_Hand_hails 57 = .ok (.iload 7, 2) := by decide +kernel
theorem d_Hand_hails_59 : decode b_Hand_hails 59 = .ok (.aload_n 0, 1) := by decide +kernel
theorem d_Hand_hails_60 : decode b_Hand_hails 60 = .ok (.getfield 9, 3) := by decide +kernel
theorem d_Hand_hails_63 : decode b_Hand_hails 63 = .ok (.iload 6, 2) := by decide +kernel
theorem d_Hand_hails_65 : decode b_Hand_hails 65 = .ok (.iaload, 1) := by decide +kernel
theorem d_Hand_hails_66 : decode b_Hand_hails 66 = .ok (.if_icmp .eq 5, 3) := by decide +kernel
theorem d_Hand_hails_69 : decode b_Hand_hails 69 = .ok (.iconst 0, 1) := by decide +kernel
theorem d_Hand_hails_70 : decode b_Hand_hails 70 = .ok (.ireturn, 1) := by decide +kernel
theorem d_Hand_hails_71 : decode b_Hand_hails 71 = .ok (.iload 5, 2) := by decide +kernel
theorem d_Hand_hails_73 : decode b_Hand_hails 73 = .ok (.aload_n 0, 1) := by decide +kernel
theorem d_Hand_hails_74 : decode b_Hand_hails 74 = .ok (.getfield 9, 3) := by decide +kernel
theorem d_Hand_hails_77 : decode b_Hand_hails 77 = .ok (.iload 6, 2) := by decide +kernel
theorem d_Hand_hails_79 : decode b_Hand_hails 79 = .ok (.iaload, 1) := by decide +kernel
theorem d_Hand_hails_80 : decode b_Hand_hails 80 = .ok (.iconst 2, 1) := by decide +kernel
theorem d_Hand_hails_81 : decode b_Hand_hails 81 = .ok (.if_icmp .ne 7, 3) := by decide +kernel
theorem d_Hand_hails_84 : decode b_Hand_hails 84 = .ok (.iconst 1, 1) := by decide +kernel
theorem d_Hand_hails_85 : decode b_Hand_hails 85 = .ok (.goto 4, 3) := by decide +kernel
theorem d_Hand_hails_88 : decode b_Hand_hails 88 = .ok (.iconst 0, 1) := by decide +kernel
theorem d_Hand_hails_89 : decode b_Hand_hails 89 = .ok (.ior, 1) := by decide +kernel
theorem d_Hand_hails_90 : decode b_Hand_hails 90 = .ok (.istore 5, 2) := by decide +kernel
theorem d_Hand_hails_92 : decode b_Hand_hails 92 = .ok (.iinc 6 1, 3) := by decide +kernel
theorem d_Hand_hails_95 : decode b_Hand_hails 95 = .ok (.goto (-71), 3) := by decide +kernel
theorem d_Hand_hails_98 : decode b_Hand_hails 98 = .ok (.iload_n 3, 1) := by decide +kernel
theorem d_Hand_hails_99 : decode b_Hand_hails 99 = .ok (.iconst 2, 1) := by decide +kernel
theorem d_Hand_hails_100 : decode b_Hand_hails 100 = .ok (.if_icmp .ne 8, 3) := by decide +kernel
theorem d_Hand_hails_103 : decode b_Hand_hails 103 = .ok (.iload 5, 2) := by decide +kernel
theorem d_Hand_hails_105 : decode b_Hand_hails 105 = .ok (.ifCond .eq 7, 3) := by decide +kernel
theorem d_Hand_hails_108 : decode b_Hand_hails 108 = .ok (.iconst 1, 1) := by decide +kernel
theorem d_Hand_hails_109 : decode b_Hand_hails 109 = .ok (.goto 4, 3) := by decide +kernel
theorem d_Hand_hails_112 : decode b_Hand_hails 112 = .ok (.iconst 0, 1) := by decide +kernel
theorem d_Hand_hails_113 : decode b_Hand_hails 113 = .ok (.ireturn, 1) := by decide +kernel
theorem d_Hand_show_0 : decode b_Hand_show 0 = .ok (.iload_n 1, 1) := by decide +kernel
theorem d_Hand_show_1 : decode b_Hand_show 1 = .ok (.invokestatic 15, 3) := by decide +kernel
theorem d_Hand_show_4 : decode b_Hand_show 4 = .ok (.ifCond .eq 10, 3) := by decide +kernel
theorem d_Hand_show_7 : decode b_Hand_show 7 = .ok (.aload_n 0, 1) := by decide +kernel
theorem d_Hand_show_8 : decode b_Hand_show 8 = .ok (.getfield 9, 3) := by decide +kernel
theorem d_Hand_show_11 : decode b_Hand_show 11 = .ok (.iload_n 1, 1) := by decide +kernel
theorem d_Hand_show_12 : decode b_Hand_show 12 = .ok (.iload_n 2, 1) := by decide +kernel
theorem d_Hand_show_13 : decode b_Hand_show 13 = .ok (.iastore, 1) := by decide +kernel
theorem d_Hand_show_14 : decode b_Hand_show 14 = .ok (.return_, 1) := by decide +kernel
theorem d_Hand_showAll_0 : decode b_Hand_showAll 0 = .ok (.iconst 0, 1) := by decide +kernel
theorem d_Hand_showAll_1 : decode b_Hand_showAll 1 = .ok (.istore_n 3, 1) := by decide +kernel
theorem d_Hand_showAll_2 : decode b_Hand_showAll 2 = .ok (.iload_n 3, 1) := by decide +kernel
theorem d_Hand_showAll_3 : decode b_Hand_showAll 3 = .ok (.iconst 4, 1) := by decide +kernel
theorem d_Hand_showAll_4 : decode b_Hand_showAll 4 = .ok (.if_icmp .ge 25, 3) := by decide +kernel
theorem d_Hand_showAll_7 : decode b_Hand_showAll 7 = .ok (.aload_n 0, 1) := by decide +kernel
theorem d_Hand_showAll_8 : decode b_Hand_showAll 8 = .ok (.getfield 9, 3) := by decide +kernel
theorem d_Hand_showAll_11 : decode b_Hand_showAll 11 = .ok (.iload_n 3, 1) := by decide +kernel
theorem d_Hand_showAll_12 : decode b_Hand_showAll 12 = .ok (.aload_n 1, 1) := by decide +kernel
theorem d_Hand_showAll_13 : decode b_Hand_showAll 13 = .ok (.iload_n 3, 1) := by decide +kernel
theorem d_Hand_showAll_14 : decode b_Hand_showAll 14 = .ok (.aload_n 2, 1) := by decide +kernel
theorem d_Hand_showAll_15 : decode b_Hand_showAll 15 = .ok (.iload_n 3, 1) := by decide +kernel
theorem d_Hand_showAll_16 : decode b_Hand_showAll 16 = .ok (.invokevirtual 19, 3) := by decide +kernel
theorem d_Hand_showAll_19 : decode b_Hand_showAll 19 = .ok (.invokevirtual 25, 3) := by decide +kernel
theorem d_Hand_showAll_22 : decode b_Hand_showAll 22 = .ok (.iastore, 1) := by decide +kernel
theorem d_Hand_showAll_23 : decode b_Hand_showAll 23 = .ok (.iinc 3 1, 3) := by decide +kernel
theorem d_Hand_showAll_26 : decode b_Hand_showAll 26 = .ok (.goto (-24), 3) := by decide +kernel
theorem d_Hand_showAll_29 : decode b_Hand_showAll 29 = .ok (.return_, 1) := by decide +kernel
theorem d_Scene_init_0 : decode b_Scene_init 0 = .ok (.aload_n 0, 1) := by decide +kernel
theorem d_Scene_init_1 : decode b_Scene_init 1 = .ok (.invokespecial 3, 3) := by decide +kernel
theorem d_Scene_init_4 : decode b_Scene_init 4 = .ok (.aload_n 0, 1) := by decide +kernel
theorem d_Scene_init_5 : decode b_Scene_init 5 = .ok (.iconst 4, 1) := by decide +kernel
theorem d_Scene_init_6 : decode b_Scene_init 6 = .ok (.newarray .int, 2) := by decide +kernel
theorem d_Scene_init_8 : decode b_Scene_init 8 = .ok (.putfield 9, 3) := by decide +kernel
theorem d_Scene_init_11 : decode b_Scene_init 11 = .ok (.aload_n 0, 1) := by decide +kernel
theorem d_Scene_init_12 : decode b_Scene_init 12 = .ok (.iconst 5, 1) := by decide +kernel
theorem d_Scene_init_13 : decode b_Scene_init 13 = .ok (.newarray .int, 2) := by decide +kernel
theorem d_Scene_init_15 : decode b_Scene_init 15 = .ok (.putfield 15, 3) := by decide +kernel
theorem d_Scene_init_18 : decode b_Scene_init 18 = .ok (.aload_n 0, 1) := by decide +kernel
theorem d_Scene_init_19 : decode b_Scene_init 19 = .ok (.iconst 0, 1) := by decide +kernel
theorem d_Scene_init_20 : decode b_Scene_init 20 = .ok (.putfield 18, 3) := by decide +kernel
theorem d_Scene_init_23 : decode b_Scene_init 23 = .ok (.aload_n 0, 1) := by decide +kernel
theorem d_Scene_init_24 : decode b_Scene_init 24 = .ok (.getfield 15, 3) := by decide +kernel
theorem d_Scene_init_27 : decode b_Scene_init 27 = .ok (.bipush (-9), 2) := by decide +kernel
theorem d_Scene_init_29 : decode b_Scene_init 29 = .ok (.invokestatic 22, 3) := by decide +kernel
theorem d_Scene_init_32 : decode b_Scene_init 32 = .ok (.return_, 1) := by decide +kernel
theorem d_Scene_canPutOn_0 : decode b_Scene_canPutOn 0 = .ok (.iload_n 1, 1) := by decide +kernel
theorem d_Scene_canPutOn_1 : decode b_Scene_canPutOn 1 = .ok (.invokestatic 34, 3) := by decide +kernel
theorem d_Scene_canPutOn_4 : decode b_Scene_canPutOn 4 = .ok (.ifCond .eq 16, 3) := by decide +kernel
theorem d_Scene_canPutOn_7 : decode b_Scene_canPutOn 7 = .ok (.aload_n 0, 1) := by decide +kernel
theorem d_Scene_canPutOn_8 : decode b_Scene_canPutOn 8 = .ok (.getfield 9, 3) := by decide +kernel
theorem d_Scene_canPutOn_11 : decode b_Scene_canPutOn 11 = .ok (.iload_n 1, 1) := by decide +kernel
theorem d_Scene_canPutOn_12 : decode b_Scene_canPutOn 12 = .ok (.iaload, 1) := by decide +kernel
theorem d_Scene_canPutOn_13 : decode b_Scene_canPutOn 13 = .ok (.ifCond .le 7, 3) := by decide +kernel
theorem d_Scene_canPutOn_16 : decode b_Scene_canPutOn 16 = .ok (.iconst 1, 1) := by decide +kernel
theorem d_Scene_canPutOn_17 : decode b_Scene_canPutOn 17 = .ok (.goto 4, 3) := by decide +kernel
theorem d_Scene_canPutOn_20 : decode b_Scene_canPutOn 20 = .ok (.iconst 0, 1) := by decide +kernel
theorem d_Scene_canPutOn_21 : decode b_Scene_canPutOn 21 = .ok (.ireturn, 1) := by decide +kernel
theorem d_Scene_canTakeOff_0 : decode b_Scene_canTakeOff 0 = .ok (.iload_n 1, 1) := by decide +kernel
theorem d_Scene_canTakeOff_1 : decode b_Scene_canTakeOff 1 = .ok (.invokestatic 34, 3) := by decide +kernel
theorem d_Scene_canTakeOff_4 : decode b_Scene_canTakeOff 4 = .ok (.ifCond .eq 17, 3) := by decide +kernel
theorem d_Scene_canTakeOff_7 : decode b_Scene_canTakeOff 7 = .ok (.aload_n 0, 1) := by decide +kernel
theorem d_Scene_canTakeOff_8 : decode b_Scene_canTakeOff 8 = .ok (.getfield 9, 3) := by decide +kernel
theorem d_Scene_canTakeOff_11 : decode b_Scene_canTakeOff 11 = .ok (.iload_n 1, 1) := by decide +kernel
theorem d_Scene_canTakeOff_12 : decode b_Scene_canTakeOff 12 = .ok (.iaload, 1) := by decide +kernel
theorem d_Scene_canTakeOff_13 : decode b_Scene_canTakeOff 13 = .ok (.iconst 2, 1) := by decide +kernel
theorem d_Scene_canTakeOff_14 : decode b_Scene_canTakeOff 14 = .ok (.if_icmp .ge 7, 3) := by decide +kernel
theorem d_Scene_canTakeOff_17 : decode b_Scene_canTakeOff 17 = .ok (.iconst 1, 1) := by decide +kernel
theorem d_Scene_canTakeOff_18 : decode b_Scene_canTakeOff 18 = .ok (.goto 4, 3) := by decide +kernel
theorem d_Scene_canTakeOff_21 : decode b_Scene_canTakeOff 21 = .ok (.iconst 0, 1) := by decide +kernel
theorem d_Scene_canTakeOff_22 : decode b_Scene_canTakeOff 22 = .ok (.ireturn, 1) := by decide +kernel
theorem d_Scene_copy_0 : decode b_Scene_copy 0 = .ok (.aload_n 1, 1) := by decide +kernel
theorem d_Scene_copy_1 : decode b_Scene_copy 1 = .ok (.getfield 9, 3) := by decide +kernel
theorem d_Scene_copy_4 : decode b_Scene_copy 4 = .ok (.iconst 0, 1) := by decide +kernel
theorem d_Scene_copy_5 : decode b_Scene_copy 5 = .ok (.aload_n 0, 1) := by decide +kernel
theorem d_Scene_copy_6 : decode b_Scene_copy 6 = .ok (.getfield 9, 3) := by decide +kernel
theorem d_Scene_copy_9 : decode b_Scene_copy 9 = .ok (.iconst 0, 1) := by decide +kernel
theorem d_Scene_copy_10 : decode b_Scene_copy 10 = .ok (.iconst 4, 1) := by decide +kernel
theorem d_Scene_copy_11 : decode b_Scene_copy 11 = .ok (.invokestatic 28, 3) := by decide +kernel
theorem d_Scene_copy_14 : decode b_Scene_copy 14 = .ok (.aload_n 1, 1) := by decide +kernel
theorem d_Scene_copy_15 : decode b_Scene_copy 15 = .ok (.getfield 15, 3) := by decide +kernel
theorem d_Scene_copy_18 : decode b_Scene_copy 18 = .ok (.iconst 0, 1) := by decide +kernel
theorem d_Scene_copy_19 : decode b_Scene_copy 19 = .ok (.aload_n 0, 1) := by decide +kernel
theorem d_Scene_copy_20 : decode b_Scene_copy 20 = .ok (.getfield 15, 3) := by decide +kernel
theorem d_Scene_copy_23 : decode b_Scene_copy 23 = .ok (.iconst 0, 1) := by decide +kernel
theorem d_Scene_copy_24 : decode b_Scene_copy 24 = .ok (.iconst 5, 1) := by decide +kernel
theorem d_Scene_copy_25 : decode b_Scene_copy 25 = .ok (.invokestatic 28, 3) := by decide +kernel
theorem d_Scene_copy_28 : decode b_Scene_copy 28 = .ok (.aload_n 0, 1) := by decide +kernel
theorem d_Scene_copy_29 : decode b_Scene_copy 29 = .ok (.aload_n 1, 1) := by decide +kernel
theorem d_Scene_copy_30 : decode b_Scene_copy 30 = .ok (.getfield 18, 3) := by decide +kernel
theorem d_Scene_copy_33 : decode b_Scene_copy 33 = .ok (.putfield 18, 3) := by decide +kernel
theorem d_Scene_copy_36 : decode b_Scene_copy 36 = .ok (.return_, 1) := by decide +kernel
theorem d_Scene_empty_0 : decode b_Scene_empty 0 = .ok (.aload_n 0, 1) := by decide +kernel
theorem d_Scene_empty_1 : decode b_Scene_empty 1 = .ok (.getfield 9, 3) := by decide +kernel
theorem d_Scene_empty_4 : decode b_Scene_empty 4 = .ok (.iconst 0, 1) := by decide +kernel
theorem d_Scene_empty_5 : decode b_Scene_empty 5 = .ok (.invokestatic 22, 3) := by decide +kernel
theorem d_Scene_empty_8 : decode b_Scene_empty 8 = .ok (.aload_n 0, 1) := by decide +kernel
theorem d_Scene_empty_9 : decode b_Scene_empty 9 = .ok (.getfield 15, 3) := by decide +kernel
theorem d_Scene_empty_12 : decode b_Scene_empty 12 = .ok (.bipush (-9), 2) := by decide +kernel
theorem d_Scene_empty_14 : decode b_Scene_empty 14 = .ok (.invokestatic 22, 3) := by decide +kernel
theorem d_Scene_empty_17 : decode b_Scene_empty 17 = .ok (.aload_n 0, 1) := by decide +kernel
theorem d_Scene_empty_18 : decode b_Scene_empty 18 = .ok (.iconst 0, 1) := by decide +kernel
theorem d_Scene_empty_19 : decode b_Scene_empty 19 = .ok (.putfield 18, 3) := by decide +kernel
theorem d_Scene_empty_22 : decode b_Scene_empty 22 = .ok (.return_, 1) := by decide +kernel
theorem d_Scene_first_0 : decode b_Scene_first 0 = .ok (.aload_n 0, 1) := by decide +kernel
theorem d_Scene_first_1 : decode b_Scene_first 1 = .ok (.aload_n 0, 1) := by decide +kernel
theorem d_Scene_first_2 : decode b_Scene_first 2 = .ok (.invokevirtual 44, 3) := by decide +kernel
theorem d_Scene_first_5 : decode b_Scene_first 5 = .ok (.invokevirtual 48, 3) := by decide +kernel
theorem d_Scene_first_8 : decode b_Scene_first 8 = .ok (.ireturn, 1) := by decide +kernel
theorem d_Scene_firstOf_0 : decode b_Scene_firstOf 0 = .ok (.bipush (-9), 2) := by decide +kernel
theorem d_Scene_firstOf_2 : decode b_Scene_firstOf 2 = .ok (.istore_n 2, 1) := by decide +kernel
theorem d_Scene_firstOf_3 : decode b_Scene_firstOf 3 = .ok (.iconst 0, 1) := by decide +kernel
theorem d_Scene_firstOf_4 : decode b_Scene_firstOf 4 = .ok (.istore_n 3, 1) := by decide +kernel
theorem d_Scene_firstOf_5 : decode b_Scene_firstOf 5 = .ok (.iload_n 3, 1) := by decide +kernel
theorem d_Scene_firstOf_6 : decode b_Scene_firstOf 6 = .ok (.iconst 5, 1) := by decide +kernel
theorem d_Scene_firstOf_7 : decode b_Scene_firstOf 7 = .ok (.if_icmp .ge 52, 3) := by decide +kernel
theorem d_Scene_firstOf_10 : decode b_Scene_firstOf 10 = .ok (.iload_n 1, 1) := by decide +kernel
theorem d_Scene_firstOf_11 : decode b_Scene_firstOf 11 = .ok (.iload_n 3, 1) := by decide +kernel
theorem d_Scene_firstOf_12 : decode b_Scene_firstOf 12 = .ok (.ishr, 1) := by decide +kernel
theorem d_Scene_firstOf_13 : decode b_Scene_firstOf 13 = .ok (.iconst 1, 1) := by decide +kernel
theorem d_Scene_firstOf_14 : decode b_Scene_firstOf 14 = .ok (.iand, 1) := by decide +kernel
theorem d_Scene_firstOf_15 : decode b_Scene_firstOf 15 = .ok (.iconst 1, 1) := by decide +kernel
theorem d_Scene_firstOf_16 : decode b_Scene_firstOf 16 = .ok (.if_icmp .ne 7, 3) := by decide +kernel
theorem d_Scene_firstOf_19 : decode b_Scene_firstOf 19 = .ok (.iconst 1, 1) := by decide +kernel
theorem d_Scene_firstOf_20 : decode b_Scene_firstOf 20 = .ok (.goto 4, 3) := by decide +kernel
theorem d_Scene_firstOf_23 : decode b_Scene_firstOf 23 = .ok (.iconst 0, 1) := by decide +kernel
theorem d_Scene_firstOf_24 : decode b_Scene_firstOf 24 = .ok (.istore 4, 2) := by decide +kernel
theorem d_Scene_firstOf_26 : decode b_Scene_firstOf 26 = .ok (.iload 4, 2) := by decide +kernel
theorem d_Scene_firstOf_28 : decode b_Scene_firstOf 28 = .ok (.ifCond .eq 25, 3) := by decide +kernel
theorem d_Scene_firstOf_31 : decode b_Scene_firstOf 31 = .ok (.iload_n 2, 1) := by decide +kernel
theorem d_Scene_firstOf_32 : decode b_Scene_firstOf 32 = .ok (.bipush (-9), 2) := by decide +kernel
theorem d_Scene_firstOf_34 : decode b_Scene_firstOf 34 = .ok (.if_icmp .eq 17, 3) := by decide +kernel
theorem d_Scene_firstOf_37 : decode b_Scene_firstOf 37 = .ok (.aload_n 0, 1) := by decide +kernel
theorem d_Scene_firstOf_38 : decode b_Scene_firstOf 38 = .ok (.getfield 15, 3) := by decide +kernel
theorem d_Scene_firstOf_41 : decode b_Scene_firstOf 41 = .ok (.iload_n 3, 1) := by decide +kernel
theorem d_Scene_firstOf_42 : decode b_Scene_firstOf 42 = .ok (.iaload, 1) := by decide +kernel
theorem d_Scene_firstOf_43 : decode b_Scene_firstOf 43 = .ok (.aload_n 0, 1) := by decide +kernel
theorem d_Scene_firstOf_44 : decode b_Scene_firstOf 44 = .ok (.iload_n 2, 1) := by decide +kernel
theorem d_Scene_firstOf_45 : decode b_Scene_firstOf 45 = .ok (.invokevirtual 52, 3) := by decide +kernel
theorem d_Scene_firstOf_48 : decode b_Scene_firstOf 48 = .ok (.if_icmp .le 5, 3) := by decide +kernel
theorem d_Scene_firstOf_51 : decode b_Scene_firstOf 51 = .ok (.iload_n 3, 1) := by decide +kernel
theorem d_Scene_firstOf_52 : decode b_Scene_firstOf 52 = .ok (.istore_n 2, 1) := by decide +kernel
theorem d_Scene_firstOf_53 : decode b_Scene_firstOf 53 = .ok (.iinc 3 1, 3) := by decide +kernel
theorem d_Scene_firstOf_56 : decode b_Scene_firstOf 56 = .ok (.goto (-51), 3) := by decide +kernel
theorem d_Scene_firstOf_59 : decode b_Scene_firstOf 59 = .ok (.iload_n 2, 1) := by decide +kernel
theorem d_Scene_firstOf_60 : decode b_Scene_firstOf 60 = .ok (.ireturn, 1) := by decide +kernel
theorem d_Scene_letGo_0 : decode b_Scene_letGo 0 = .ok (.aload_n 0, 1) := by decide +kernel
theorem d_Scene_letGo_1 : decode b_Scene_letGo 1 = .ok (.iload_n 1, 1) := by decide +kernel
theorem d_Scene_letGo_2 : decode b_Scene_letGo 2 = .ok (.invokevirtual 52, 3) := by decide +kernel
theorem d_Scene_letGo_5 : decode b_Scene_letGo 5 = .ok (.bipush (-9), 2) := by decide +kernel
theorem d_Scene_letGo_7 : decode b_Scene_letGo 7 = .ok (.if_icmp .eq 7, 3) := by decide +kernel
theorem d_Scene_letGo_10 : decode b_Scene_letGo 10 = .ok (.iconst 1, 1) := by decide +kernel
theorem d_Scene_letGo_11 : decode b_Scene_letGo 11 = .ok (.goto 4, 3) := by decide +kernel
theorem d_Scene_letGo_14 : decode b_Scene_letGo 14 = .ok (.iconst 0, 1) := by decide +kernel
theorem d_Scene_letGo_15 : decode b_Scene_letGo 15 = .ok (.istore_n 2, 1) := by decide +kernel
theorem d_Scene_letGo_16 : decode b_Scene_letGo 16 = .ok (.iload_n 2, 1) := by decide +kernel
theorem d_Scene_letGo_17 : decode b_Scene_letGo 17 = .ok (.ifCond .eq 11, 3) := by decide +kernel
theorem d_Scene_letGo_20 : decode b_Scene_letGo 20 = .ok (.aload_n 0, 1) := by decide +kernel
theorem d_Scene_letGo_21 : decode b_Scene_letGo 21 = .ok (.getfield 15, 3) := by decide +kernel
theorem d_Scene_letGo_24 : decode b_Scene_letGo 24 = .ok (.iload_n 1, 1) := by decide +kernel
theorem d_Scene_letGo_25 : decode b_Scene_letGo 25 = .ok (.bipush (-9), 2) := by decide +kernel
theorem d_Scene_letGo_27 : decode b_Scene_letGo 27 = .ok (.iastore, 1) := by decide +kernel
theorem d_Scene_letGo_28 : decode b_Scene_letGo 28 = .ok (.iload_n 2, 1) := by decide +kernel
theorem d_Scene_letGo_29 : decode b_Scene_letGo 29 = .ok (.ireturn, 1) := by decide +kernel
theorem d_Scene_off_0 : decode b_Scene_off 0 = .ok (.iload_n 1, 1) := by decide +kernel
theorem d_Scene_off_1 : decode b_Scene_off 1 = .ok (.invokestatic 34, 3) := by decide +kernel
theorem d_Scene_off_4 : decode b_Scene_off 4 = .ok (.ifCond .eq 12, 3) := by decide +kernel
theorem d_Scene_off_7 : decode b_Scene_off 7 = .ok (.aload_n 0, 1) := by decide +kernel
theorem d_Scene_off_8 : decode b_Scene_off 8 = .ok (.getfield 9, 3) := by decide +kernel
theorem d_Scene_off_11 : decode b_Scene_off 11 = .ok (.iload_n 1, 1) := by decide +kernel
theorem d_Scene_off_12 : decode b_Scene_off 12 = .ok (.iaload, 1) := by decide +kernel
theorem d_Scene_off_13 : decode b_Scene_off 13 = .ok (.goto 4, 3) := by decide +kernel
theorem d_Scene_off_16 : decode b_Scene_off 16 = .ok (.iconst 0, 1) := by decide +kernel
theorem d_Scene_off_17 : decode b_Scene_off 17 = .ok (.ireturn, 1) := by decide +kernel
theorem d_Scene_pass_0 : decode b_Scene_pass 0 = .ok (.iconst 0, 1) := by decide +kernel
theorem d_Scene_pass_1 : decode b_Scene_pass 1 = .ok (.istore_n 3, 1) := by decide +kernel
theorem d_Scene_pass_2 : decode b_Scene_pass 2 = .ok (.iload_n 3, 1) := by decide +kernel
theorem d_Scene_pass_3 : decode b_Scene_pass 3 = .ok (.iconst 5, 1) := by decide +kernel
theorem d_Scene_pass_4 : decode b_Scene_pass 4 = .ok (.if_icmp .ge 109, 3) := by decide +kernel
theorem d_Scene_pass_7 : decode b_Scene_pass 7 = .ok (.iload_n 2, 1) := by decide +kernel
theorem d_Scene_pass_8 : decode b_Scene_pass 8 = .ok (.iload_n 3, 1) := by decide +kernel
theorem d_Scene_pass_9 : decode b_Scene_pass 9 = .ok (.ishr, 1) := by decide +kernel
theorem d_Scene_pass_10 : decode b_Scene_pass 10 = .ok (.iconst 1, 1) := by decide +kernel
theorem d_Scene_pass_11 : decode b_Scene_pass 11 = .ok (.iand, 1) := by decide +kernel
theorem d_Scene_pass_12 : decode b_Scene_pass 12 = .ok (.iconst 1, 1) := by decide +kernel
theorem d_Scene_pass_13 : decode b_Scene_pass 13 = .ok (.if_icmp .ne 7, 3) := by decide +kernel
theorem d_Scene_pass_16 : decode b_Scene_pass 16 = .ok (.iconst 1, 1) := by decide +kernel
theorem d_Scene_pass_17 : decode b_Scene_pass 17 = .ok (.goto 4, 3) := by decide +kernel
theorem d_Scene_pass_20 : decode b_Scene_pass 20 = .ok (.iconst 0, 1) := by decide +kernel
theorem d_Scene_pass_21 : decode b_Scene_pass 21 = .ok (.istore 4, 2) := by decide +kernel
theorem d_Scene_pass_23 : decode b_Scene_pass 23 = .ok (.aload_n 0, 1) := by decide +kernel
theorem d_Scene_pass_24 : decode b_Scene_pass 24 = .ok (.getfield 15, 3) := by decide +kernel
theorem d_Scene_pass_27 : decode b_Scene_pass 27 = .ok (.iload_n 3, 1) := by decide +kernel
theorem d_Scene_pass_28 : decode b_Scene_pass 28 = .ok (.iaload, 1) := by decide +kernel
theorem d_Scene_pass_29 : decode b_Scene_pass 29 = .ok (.bipush (-9), 2) := by decide +kernel
theorem d_Scene_pass_31 : decode b_Scene_pass 31 = .ok (.if_icmp .eq 64, 3) := by decide +kernel
theorem d_Scene_pass_34 : decode b_Scene_pass 34 = .ok (.aload_n 0, 1) := by decide +kernel
theorem d_Scene_pass_35 : decode b_Scene_pass 35 = .ok (.getfield 15, 3) := by decide +kernel
theorem d_Scene_pass_38 : decode b_Scene_pass 38 = .ok (.iload_n 3, 1) := by decide +kernel
theorem d_Scene_pass_39 : decode b_Scene_pass 39 = .ok (.dup2, 1) := by decide +kernel
theorem d_Scene_pass_40 : decode b_Scene_pass 40 = .ok (.iaload, 1) := by decide +kernel
theorem d_Scene_pass_41 : decode b_Scene_pass 41 = .ok (.iconst 1, 1) := by decide +kernel
theorem d_Scene_pass_42 : decode b_Scene_pass 42 = .ok (.iadd, 1) := by decide +kernel
theorem d_Scene_pass_43 : decode b_Scene_pass 43 = .ok (.iastore, 1) := by decide +kernel
theorem d_Scene_pass_44 : decode b_Scene_pass 44 = .ok (.aload_n 1, 1) := by decide +kernel
theorem d_Scene_pass_45 : decode b_Scene_pass 45 = .ok (.iload_n 3, 1) := by decide +kernel
theorem d_Scene_pass_46 : decode b_Scene_pass 46 = .ok (.invokevirtual 54, 3) := by decide +kernel
theorem d_Scene_pass_49 : decode b_Scene_pass 49 = .ok (.iconst 3, 1) := by decide +kernel
theorem d_Scene_pass_50 : decode b_Scene_pass 50 = .ok (.if_icmp .ne 12, 3) := by decide +kernel
theorem d_Scene_pass_53 : decode b_Scene_pass 53 = .ok (.iload 4, 2) := by decide +kernel
theorem d_Scene_pass_55 : decode b_Scene_pass 55 = .ok (.ifCond .eq 7, 3) := by decide +kernel
theorem d_Scene_pass_58 : decode b_Scene_pass 58 = .ok (.iconst 1, 1) := by decide +kernel
theorem d_Scene_pass_59 : decode b_Scene_pass 59 = .ok (.goto 4, 3) := by decide +kernel
theorem d_Scene_pass_62 : decode b_Scene_pass 62 = .ok (.iconst 0, 1) := by decide +kernel
theorem d_Scene_pass_63 : decode b_Scene_pass 63 = .ok (.istore 5, 2) := by decide +kernel
theorem d_Scene_pass_65 : decode b_Scene_pass 65 = .ok (.aload_n 0, 1) := by decide +kernel
theorem d_Scene_pass_66 : decode b_Scene_pass 66 = .ok (.getfield 15, 3) := by decide +kernel
theorem d_Scene_pass_69 : decode b_Scene_pass 69 = .ok (.iload_n 3, 1) := by decide +kernel
theorem d_Scene_pass_70 : decode b_Scene_pass 70 = .ok (.iaload, 1) := by decide +kernel
theorem d_Scene_pass_71 : decode b_Scene_pass 71 = .ok (.aload_n 1, 1) := by decide +kernel
theorem d_Scene_pass_72 : decode b_Scene_pass 72 = .ok (.iload_n 3, 1) := by decide +kernel
theorem d_Scene_pass_73 : decode b_Scene_pass 73 = .ok (.invokevirtual 59, 3) := by decide +kernel
theorem d_Scene_pass_76 : decode b_Scene_pass 76 = .ok (.if_icmp .lt 16, 3) := by decide +kernel
theorem d_Scene_pass_79 : decode b_Scene_pass 79 = .ok (.iload 5, 2) := by decide +kernel
theorem d_Scene_pass_81 : decode b_Scene_pass 81 = .ok (.ifCond .ne 11, 3) := by decide +kernel
theorem d_Scene_pass_84 : decode b_Scene_pass 84 = .ok (.aload_n 0, 1) := by decide +kernel
theorem d_Scene_pass_85 : decode b_Scene_pass 85 = .ok (.getfield 15, 3) := by decide +kernel
theorem d_Scene_pass_88 : decode b_Scene_pass 88 = .ok (.iload_n 3, 1) := by decide +kernel
theorem d_Scene_pass_89 : decode b_Scene_pass 89 = .ok (.bipush (-9), 2) := by decide +kernel
theorem d_Scene_pass_91 : decode b_Scene_pass 91 = .ok (.iastore, 1) := by decide +kernel
theorem d_Scene_pass_92 : decode b_Scene_pass 92 = .ok (.goto 15, 3) := by decide +kernel
theorem d_Scene_pass_95 : decode b_Scene_pass 95 = .ok (.iload 4, 2) := by decide +kernel
theorem d_Scene_pass_97 : decode b_Scene_pass 97 = .ok (.ifCond .eq 10, 3) := by decide +kernel
theorem d_Scene_pass_100 : decode b_Scene_pass 100 = .ok (.aload_n 0, 1) := by decide +kernel
theorem d_Scene_pass_101 : decode b_Scene_pass 101 = .ok (.getfield 15, 3) := by decide +kernel
theorem d_Scene_pass_104 : decode b_Scene_pass 104 = .ok (.iload_n 3, 1) := by decide +kernel
theorem d_Scene_pass_105 : decode b_Scene_pass 105 = .ok (.iconst 0, 1) := by decide +kernel
theorem d_Scene_pass_106 : decode b_Scene_pass 106 = .ok (.iastore, 1) := by decide +kernel
theorem d_Scene_pass_107 : decode b_Scene_pass 107 = .ok (.iinc 3 1, 3) := by decide +kernel
theorem d_Scene_pass_110 : decode b_Scene_pass 110 = .ok (.goto (-108), 3) := by decide +kernel
theorem d_Scene_pass_113 : decode b_Scene_pass 113 = .ok (.aload_n 0, 1) := by decide +kernel
theorem d_Scene_pass_114 : decode b_Scene_pass 114 = .ok (.dup, 1) := by decide +kernel
theorem d_Scene_pass_115 : decode b_Scene_pass 115 = .ok (.getfield 18, 3) := by decide +kernel
theorem d_Scene_pass_118 : decode b_Scene_pass 118 = .ok (.iconst 1, 1) := by decide +kernel
theorem d_Scene_pass_119 : decode b_Scene_pass 119 = .ok (.iadd, 1) := by decide +kernel
theorem d_Scene_pass_120 : decode b_Scene_pass 120 = .ok (.putfield 18, 3) := by decide +kernel
theorem d_Scene_pass_123 : decode b_Scene_pass 123 = .ok (.return_, 1) := by decide +kernel
theorem d_Scene_putOn_0 : decode b_Scene_putOn 0 = .ok (.aload_n 0, 1) := by decide +kernel
theorem d_Scene_putOn_1 : decode b_Scene_putOn 1 = .ok (.iload_n 1, 1) := by decide +kernel
theorem d_Scene_putOn_2 : decode b_Scene_putOn 2 = .ok (.invokevirtual 41, 3) := by decide +kernel
theorem d_Scene_putOn_5 : decode b_Scene_putOn 5 = .ok (.istore_n 2, 1) := by decide +kernel
theorem d_Scene_putOn_6 : decode b_Scene_putOn 6 = .ok (.iload_n 2, 1) := by decide +kernel
theorem d_Scene_putOn_7 : decode b_Scene_putOn 7 = .ok (.ifCond .eq 13, 3) := by decide +kernel
theorem d_Scene_putOn_10 : decode b_Scene_putOn 10 = .ok (.aload_n 0, 1) := by decide +kernel
theorem d_Scene_putOn_11 : decode b_Scene_putOn 11 = .ok (.getfield 9, 3) := by decide +kernel
theorem d_Scene_putOn_14 : decode b_Scene_putOn 14 = .ok (.iload_n 1, 1) := by decide +kernel
theorem d_Scene_putOn_15 : decode b_Scene_putOn 15 = .ok (.dup2, 1) := by decide +kernel
theorem d_Scene_putOn_16 : decode b_Scene_putOn 16 = .ok (.iaload, 1) := by decide +kernel
theorem d_Scene_putOn_17 : decode b_Scene_putOn 17 = .ok (.iconst 1, 1) := by decide +kernel
theorem d_Scene_putOn_18 : decode b_Scene_putOn 18 = .ok (.isub, 1) := by decide +kernel
theorem d_Scene_putOn_19 : decode b_Scene_putOn 19 = .ok (.iastore, 1) := by decide +kernel
theorem d_Scene_putOn_20 : decode b_Scene_putOn 20 = .ok (.iload_n 2, 1) := by decide +kernel
theorem d_Scene_putOn_21 : decode b_Scene_putOn 21 = .ok (.ireturn, 1) := by decide +kernel
theorem d_Scene_rank_0 : decode b_Scene_rank 0 = .ok (.iconst 0, 1) := by decide +kernel
theorem d_Scene_rank_1 : decode b_Scene_rank 1 = .ok (.istore_n 1, 1) := by decide +kernel
theorem d_Scene_rank_2 : decode b_Scene_rank 2 = .ok (.aload_n 0, 1) := by decide +kernel
theorem d_Scene_rank_3 : decode b_Scene_rank 3 = .ok (.invokevirtual 44, 3) := by decide +kernel
theorem d_Scene_rank_6 : decode b_Scene_rank 6 = .ok (.istore_n 2, 1) := by decide +kernel
theorem d_Scene_rank_7 : decode b_Scene_rank 7 = .ok (.iconst 0, 1) := by decide +kernel
theorem d_Scene_rank_8 : decode b_Scene_rank 8 = .ok (.istore_n 3, 1) := by decide +kernel
theorem d_Scene_rank_9 : decode b_Scene_rank 9 = .ok (.iload_n 3, 1) := by decide +kernel
theorem d_Scene_rank_10 : decode b_Scene_rank 10 = .ok (.iconst 5, 1) := by decide +kernel
theorem d_Scene_rank_11 : decode b_Scene_rank 11 = .ok (.if_icmp .ge 39, 3) := by decide +kernel
theorem d_Scene_rank_14 : decode b_Scene_rank 14 = .ok (.iload_n 2, 1) := by decide +kernel
theorem d_Scene_rank_15 : decode b_Scene_rank 15 = .ok (.ifCond .eq 35, 3) := by decide +kernel
theorem d_Scene_rank_18 : decode b_Scene_rank 18 = .ok (.aload_n 0, 1) := by decide +kernel
theorem d_Scene_rank_19 : decode b_Scene_rank 19 = .ok (.iload_n 2, 1) := by decide +kernel
theorem d_Scene_rank_20 : decode b_Scene_rank 20 = .ok (.invokevirtual 48, 3) := by decide +kernel
theorem d_Scene_rank_23 : decode b_Scene_rank 23 = .ok (.istore 4, 2) := by decide +kernel
theorem d_Scene_rank_25 : decode b_Scene_rank 25 = .ok (.iload_n 1, 1) := by decide +kernel
theorem d_Scene_rank_26 : decode b_Scene_rank 26 = .ok (.bipush 10, 2) := by decide +kernel
theorem d_Scene_rank_28 : decode b_Scene_rank 28 = .ok (.imul, 1) := by decide +kernel
theorem d_Scene_rank_29 : decode b_Scene_rank 29 = .ok (.iload 4, 2) := by decide +kernel
theorem d_Scene_rank_31 : decode b_Scene_rank 31 = .ok (.iadd, 1) := by decide +kernel
theorem d_Scene_rank_32 : decode b_Scene_rank 32 = .ok (.iconst 1, 1) := by decide +kernel
theorem d_Scene_rank_33 : decode b_Scene_rank 33 = .ok (.iadd, 1) := by decide +kernel
theorem d_Scene_rank_34 : decode b_Scene_rank 34 = .ok (.istore_n 1, 1) := by decide +kernel
theorem d_Scene_rank_35 : decode b_Scene_rank 35 = .ok (.iload_n 2, 1) := by decide +kernel
theorem d_Scene_rank_36 : decode b_Scene_rank 36 = .ok (.iconst 1, 1) := by decide +kernel
theorem d_Scene_rank_37 : decode b_Scene_rank 37 = .ok (.iload 4, 2) := by decide +kernel
theorem d_Scene_rank_39 : decode b_Scene_rank 39 = .ok (.ishl, 1) := by decide +kernel
theorem d_Scene_rank_40 : decode b_Scene_rank 40 = .ok (.iconst (-1), 1) := by decide +kernel
theorem d_Scene_rank_41 : decode b_Scene_rank 41 = .ok (.ixor, 1) := by decide +kernel
theorem d_Scene_rank_42 : decode b_Scene_rank 42 = .ok (.iand, 1) := by decide +kernel
theorem d_Scene_rank_43 : decode b_Scene_rank 43 = .ok (.istore_n 2, 1) := by decide +kernel
theorem d_Scene_rank_44 : decode b_Scene_rank 44 = .ok (.iinc 3 1, 3) := by decide +kernel
theorem d_Scene_rank_47 : decode b_Scene_rank 47 = .ok (.goto (-38), 3) := by decide +kernel
theorem d_Scene_rank_50 : decode b_Scene_rank 50 = .ok (.iload_n 1, 1) := by decide +kernel
theorem d_Scene_rank_51 : decode b_Scene_rank 51 = .ok (.ireturn, 1) := by decide +kernel
theorem d_Scene_takeOff_0 : decode b_Scene_takeOff 0 = .ok (.aload_n 0, 1) := by decide +kernel
theorem d_Scene_takeOff_1 : decode b_Scene_takeOff 1 = .ok (.iload_n 1, 1) := by decide +kernel
theorem d_Scene_takeOff_2 : decode b_Scene_takeOff 2 = .ok (.invokevirtual 38, 3) := by decide +kernel
theorem d_Scene_takeOff_5 : decode b_Scene_takeOff 5 = .ok (.istore_n 2, 1) := by decide +kernel
theorem d_Scene_takeOff_6 : decode b_Scene_takeOff 6 = .ok (.iload_n 2, 1) := by decide +kernel
theorem d_Scene_takeOff_7 : decode b_Scene_takeOff 7 = .ok (.ifCond .eq 13, 3) := by decide +kernel
theorem d_Scene_takeOff_10 : decode b_Scene_takeOff 10 = .ok (.aload_n 0, 1) := by decide +kernel
theorem d_Scene_takeOff_11 : decode b_Scene_takeOff 11 = .ok (.getfield 9, 3) := by decide +kernel
theorem d_Scene_takeOff_14 : decode b_Scene_takeOff 14 = .ok (.iload_n 1, 1) := by decide +kernel
theorem d_Scene_takeOff_15 : decode b_Scene_takeOff 15 = .ok (.dup2, 1) := by decide +kernel
theorem d_Scene_takeOff_16 : decode b_Scene_takeOff 16 = .ok (.iaload, 1) := by decide +kernel
theorem d_Scene_takeOff_17 : decode b_Scene_takeOff 17 = .ok (.iconst 1, 1) := by decide +kernel
theorem d_Scene_takeOff_18 : decode b_Scene_takeOff 18 = .ok (.iadd, 1) := by decide +kernel
theorem d_Scene_takeOff_19 : decode b_Scene_takeOff 19 = .ok (.iastore, 1) := by decide +kernel
theorem d_Scene_takeOff_20 : decode b_Scene_takeOff 20 = .ok (.iload_n 2, 1) := by decide +kernel
theorem d_Scene_takeOff_21 : decode b_Scene_takeOff 21 = .ok (.ireturn, 1) := by decide +kernel
theorem d_Scene_waited_0 : decode b_Scene_waited 0 = .ok (.iload_n 1, 1) := by decide +kernel
theorem d_Scene_waited_1 : decode b_Scene_waited 1 = .ok (.ifCond .lt 17, 3) := by decide +kernel
theorem d_Scene_waited_4 : decode b_Scene_waited 4 = .ok (.iload_n 1, 1) := by decide +kernel
theorem d_Scene_waited_5 : decode b_Scene_waited 5 = .ok (.iconst 5, 1) := by decide +kernel
theorem d_Scene_waited_6 : decode b_Scene_waited 6 = .ok (.if_icmp .ge 12, 3) := by decide +kernel
theorem d_Scene_waited_9 : decode b_Scene_waited 9 = .ok (.aload_n 0, 1) := by decide +kernel
theorem d_Scene_waited_10 : decode b_Scene_waited 10 = .ok (.getfield 15, 3) := by decide +kernel
theorem d_Scene_waited_13 : decode b_Scene_waited 13 = .ok (.iload_n 1, 1) := by decide +kernel
theorem d_Scene_waited_14 : decode b_Scene_waited 14 = .ok (.iaload, 1) := by decide +kernel
theorem d_Scene_waited_15 : decode b_Scene_waited 15 = .ok (.goto 5, 3) := by decide +kernel
theorem d_Scene_waited_18 : decode b_Scene_waited 18 = .ok (.bipush (-9), 2) := by decide +kernel
theorem d_Scene_waited_20 : decode b_Scene_waited 20 = .ok (.ireturn, 1) := by decide +kernel
theorem d_Scene_waiting_0 : decode b_Scene_waiting 0 = .ok (.iconst 0, 1) := by decide +kernel
theorem d_Scene_waiting_1 : decode b_Scene_waiting 1 = .ok (.istore_n 1, 1) := by decide +kernel
theorem d_Scene_waiting_2 : decode b_Scene_waiting 2 = .ok (.iconst 0, 1) := by decide +kernel
theorem d_Scene_waiting_3 : decode b_Scene_waiting 3 = .ok (.istore_n 2, 1) := by decide +kernel
theorem d_Scene_waiting_4 : decode b_Scene_waiting 4 = .ok (.iload_n 2, 1) := by decide +kernel
theorem d_Scene_waiting_5 : decode b_Scene_waiting 5 = .ok (.iconst 5, 1) := by decide +kernel
theorem d_Scene_waiting_6 : decode b_Scene_waiting 6 = .ok (.if_icmp .ge 26, 3) := by decide +kernel
theorem d_Scene_waiting_9 : decode b_Scene_waiting 9 = .ok (.aload_n 0, 1) := by decide +kernel
theorem d_Scene_waiting_10 : decode b_Scene_waiting 10 = .ok (.getfield 15, 3) := by decide +kernel
theorem d_Scene_waiting_13 : decode b_Scene_waiting 13 = .ok (.iload_n 2, 1) := by decide +kernel
theorem d_Scene_waiting_14 : decode b_Scene_waiting 14 = .ok (.iaload, 1) := by decide +kernel
theorem d_Scene_waiting_15 : decode b_Scene_waiting 15 = .ok (.bipush (-9), 2) := by decide +kernel
theorem d_Scene_waiting_17 : decode b_Scene_waiting 17 = .ok (.if_icmp .eq 9, 3) := by decide +kernel
theorem d_Scene_waiting_20 : decode b_Scene_waiting 20 = .ok (.iload_n 1, 1) := by decide +kernel
theorem d_Scene_waiting_21 : decode b_Scene_waiting 21 = .ok (.iconst 1, 1) := by decide +kernel
theorem d_Scene_waiting_22 : decode b_Scene_waiting 22 = .ok (.iload_n 2, 1) := by decide +kernel
theorem d_Scene_waiting_23 : decode b_Scene_waiting 23 = .ok (.ishl, 1) := by decide +kernel
theorem d_Scene_waiting_24 : decode b_Scene_waiting 24 = .ok (.ior, 1) := by decide +kernel
theorem d_Scene_waiting_25 : decode b_Scene_waiting 25 = .ok (.istore_n 1, 1) := by decide +kernel
theorem d_Scene_waiting_26 : decode b_Scene_waiting 26 = .ok (.iinc 2 1, 3) := by decide +kernel
theorem d_Scene_waiting_29 : decode b_Scene_waiting 29 = .ok (.goto (-25), 3) := by decide +kernel
theorem d_Scene_waiting_32 : decode b_Scene_waiting 32 = .ok (.iload_n 1, 1) := by decide +kernel
theorem d_Scene_waiting_33 : decode b_Scene_waiting 33 = .ok (.ireturn, 1) := by decide +kernel
theorem d_Seen_init_0 : decode b_Seen_init 0 = .ok (.aload_n 0, 1) := by decide +kernel
theorem d_Seen_init_1 : decode b_Seen_init 1 = .ok (.invokespecial 3, 3) := by decide +kernel
theorem d_Seen_init_4 : decode b_Seen_init 4 = .ok (.aload_n 0, 1) := by decide +kernel
theorem d_Seen_init_5 : decode b_Seen_init 5 = .ok (.bipush 24, 2) := by decide +kernel
theorem d_Seen_init_7 : decode b_Seen_init 7 = .ok (.newarray .int, 2) := by decide +kernel
theorem d_Seen_init_9 : decode b_Seen_init 9 = .ok (.putfield 11, 3) := by decide +kernel
theorem d_Seen_init_12 : decode b_Seen_init 12 = .ok (.aload_n 0, 1) := by decide +kernel
theorem d_Seen_init_13 : decode b_Seen_init 13 = .ok (.iconst 0, 1) := by decide +kernel
theorem d_Seen_init_14 : decode b_Seen_init 14 = .ok (.putfield 15, 3) := by decide +kernel
theorem d_Seen_init_17 : decode b_Seen_init 17 = .ok (.return_, 1) := by decide +kernel
theorem d_Seen_add_0 : decode b_Seen_add 0 = .ok (.aload_n 0, 1) := by decide +kernel
theorem d_Seen_add_1 : decode b_Seen_add 1 = .ok (.getfield 15, 3) := by decide +kernel
theorem d_Seen_add_4 : decode b_Seen_add 4 = .ok (.bipush 6, 2) := by decide +kernel
theorem d_Seen_add_6 : decode b_Seen_add 6 = .ok (.if_icmp .lt 5, 3) := by decide +kernel
theorem d_Seen_add_9 : decode b_Seen_add 9 = .ok (.iconst 0, 1) := by decide +kernel
theorem d_Seen_add_10 : decode b_Seen_add 10 = .ok (.ireturn, 1) := by decide +kernel
theorem d_Seen_add_11 : decode b_Seen_add 11 = .ok (.aload_n 0, 1) := by decide +kernel
theorem d_Seen_add_12 : decode b_Seen_add 12 = .ok (.getfield 15, 3) := by decide +kernel
theorem d_Seen_add_15 : decode b_Seen_add 15 = .ok (.iconst 4, 1) := by decide +kernel
theorem d_Seen_add_16 : decode b_Seen_add 16 = .ok (.imul, 1) := by decide +kernel
theorem d_Seen_add_17 : decode b_Seen_add 17 = .ok (.istore 5, 2) := by decide +kernel
theorem d_Seen_add_19 : decode b_Seen_add 19 = .ok (.aload_n 0, 1) := by decide +kernel
theorem d_Seen_add_20 : decode b_Seen_add 20 = .ok (.getfield 11, 3) := by decide +kernel
theorem d_Seen_add_23 : decode b_Seen_add 23 = .ok (.iload 5, 2) := by decide +kernel
theorem d_Seen_add_25 : decode b_Seen_add 25 = .ok (.iconst 0, 1) := by decide +kernel
theorem d_Seen_add_26 : decode b_Seen_add 26 = .ok (.iadd, 1) := by decide +kernel
theorem d_Seen_add_27 : decode b_Seen_add 27 = .ok (.iload_n 1, 1) := by decide +kernel
theorem d_Seen_add_28 : decode b_Seen_add 28 = .ok (.iastore, 1) := by decide +kernel
theorem d_Seen_add_29 : decode b_Seen_add 29 = .ok (.aload_n 0, 1) := by decide +kernel
theorem d_Seen_add_30 : decode b_Seen_add 30 = .ok (.getfield 11, 3) := by decide +kernel
theorem d_Seen_add_33 : decode b_Seen_add 33 = .ok (.iload 5, 2) := by decide +kernel
theorem d_Seen_add_35 : decode b_Seen_add 35 = .ok (.iconst 1, 1) := by decide +kernel
theorem d_Seen_add_36 : decode b_Seen_add 36 = .ok (.iadd, 1) := by decide +kernel
theorem d_Seen_add_37 : decode b_Seen_add 37 = .ok (.iload_n 2, 1) := by decide +kernel
theorem d_Seen_add_38 : decode b_Seen_add 38 = .ok (.iastore, 1) := by decide +kernel
theorem d_Seen_add_39 : decode b_Seen_add 39 = .ok (.aload_n 0, 1) := by decide +kernel
theorem d_Seen_add_40 : decode b_Seen_add 40 = .ok (.getfield 11, 3) := by decide +kernel
theorem d_Seen_add_43 : decode b_Seen_add 43 = .ok (.iload 5, 2) := by decide +kernel
theorem d_Seen_add_45 : decode b_Seen_add 45 = .ok (.iconst 2, 1) := by decide +kernel
theorem d_Seen_add_46 : decode b_Seen_add 46 = .ok (.iadd, 1) := by decide +kernel
theorem d_Seen_add_47 : decode b_Seen_add 47 = .ok (.iload_n 3, 1) := by decide +kernel
theorem d_Seen_add_48 : decode b_Seen_add 48 = .ok (.iastore, 1) := by decide +kernel
theorem d_Seen_add_49 : decode b_Seen_add 49 = .ok (.aload_n 0, 1) := by decide +kernel
theorem d_Seen_add_50 : decode b_Seen_add 50 = .ok (.getfield 11, 3) := by decide +kernel
theorem d_Seen_add_53 : decode b_Seen_add 53 = .ok (.iload 5, 2) := by decide +kernel
theorem d_Seen_add_55 : decode b_Seen_add 55 = .ok (.iconst 3, 1) := by decide +kernel
theorem d_Seen_add_56 : decode b_Seen_add 56 = .ok (.iadd, 1) := by decide +kernel
theorem d_Seen_add_57 : decode b_Seen_add 57 = .ok (.iload 4, 2) := by decide +kernel
theorem d_Seen_add_59 : decode b_Seen_add 59 = .ok (.iastore, 1) := by decide +kernel
theorem d_Seen_add_60 : decode b_Seen_add 60 = .ok (.aload_n 0, 1) := by decide +kernel
theorem d_Seen_add_61 : decode b_Seen_add 61 = .ok (.dup, 1) := by decide +kernel
theorem d_Seen_add_62 : decode b_Seen_add 62 = .ok (.getfield 15, 3) := by decide +kernel
theorem d_Seen_add_65 : decode b_Seen_add 65 = .ok (.iconst 1, 1) := by decide +kernel
theorem d_Seen_add_66 : decode b_Seen_add 66 = .ok (.iadd, 1) := by decide +kernel
theorem d_Seen_add_67 : decode b_Seen_add 67 = .ok (.putfield 15, 3) := by decide +kernel
theorem d_Seen_add_70 : decode b_Seen_add 70 = .ok (.iconst 1, 1) := by decide +kernel
theorem d_Seen_add_71 : decode b_Seen_add 71 = .ok (.ireturn, 1) := by decide +kernel
theorem d_Seen_at_0 : decode b_Seen_at 0 = .ok (.iload_n 1, 1) := by decide +kernel
theorem d_Seen_at_1 : decode b_Seen_at 1 = .ok (.ifCond .lt 24, 3) := by decide +kernel
theorem d_Seen_at_4 : decode b_Seen_at 4 = .ok (.iload_n 1, 1) := by decide +kernel
theorem d_Seen_at_5 : decode b_Seen_at 5 = .ok (.aload_n 0, 1) := by decide +kernel
theorem d_Seen_at_6 : decode b_Seen_at 6 = .ok (.getfield 15, 3) := by decide +kernel
theorem d_Seen_at_9 : decode b_Seen_at 9 = .ok (.if_icmp .ge 16, 3) := by decide +kernel
theorem d_Seen_at_12 : decode b_Seen_at 12 = .ok (.iload_n 2, 1) := by decide +kernel
theorem d_Seen_at_13 : decode b_Seen_at 13 = .ok (.ifCond .lt 12, 3) := by decide +kernel
theorem d_Seen_at_16 : decode b_Seen_at 16 = .ok (.iload_n 2, 1) := by decide +kernel
theorem d_Seen_at_17 : decode b_Seen_at 17 = .ok (.iconst 4, 1) := by decide +kernel
theorem d_Seen_at_18 : decode b_Seen_at 18 = .ok (.if_icmp .ge 7, 3) := by decide +kernel
theorem d_Seen_at_21 : decode b_Seen_at 21 = .ok (.iconst 1, 1) := by decide +kernel
theorem d_Seen_at_22 : decode b_Seen_at 22 = .ok (.goto 4, 3) := by decide +kernel
theorem d_Seen_at_25 : decode b_Seen_at 25 = .ok (.iconst 0, 1) := by decide +kernel
theorem d_Seen_at_26 : decode b_Seen_at 26 = .ok (.istore_n 3, 1) := by decide +kernel
theorem d_Seen_at_27 : decode b_Seen_at 27 = .ok (.iload_n 3, 1) := by decide +kernel
theorem d_Seen_at_28 : decode b_Seen_at 28 = .ok (.ifCond .eq 16, 3) := by decide +kernel
theorem d_Seen_at_31 : decode b_Seen_at 31 = .ok (.aload_n 0, 1) := by decide +kernel
theorem d_Seen_at_32 : decode b_Seen_at 32 = .ok (.getfield 11, 3) := by decide +kernel
theorem d_Seen_at_35 : decode b_Seen_at 35 = .ok (.iload_n 1, 1) := by decide +kernel
theorem d_Seen_at_36 : decode b_Seen_at 36 = .ok (.iconst 4, 1) := by decide +kernel
theorem d_Seen_at_37 : decode b_Seen_at 37 = .ok (.imul, 1) := by decide +kernel
theorem d_Seen_at_38 : decode b_Seen_at 38 = .ok (.iload_n 2, 1) := by decide +kernel
theorem d_Seen_at_39 : decode b_Seen_at 39 = .ok (.iadd, 1) := by decide +kernel
theorem d_Seen_at_40 : decode b_Seen_at 40 = .ok (.iaload, 1) := by decide +kernel
theorem d_Seen_at_41 : decode b_Seen_at 41 = .ok (.goto 5, 3) := by decide +kernel
theorem d_Seen_at_44 : decode b_Seen_at 44 = .ok (.bipush (-9), 2) := by decide +kernel
theorem d_Seen_at_46 : decode b_Seen_at 46 = .ok (.ireturn, 1) := by decide +kernel
theorem d_Shelf_init_0 : decode b_Shelf_init 0 = .ok (.aload_n 0, 1) := by decide +kernel
theorem d_Shelf_init_1 : decode b_Shelf_init 1 = .ok (.invokespecial 3, 3) := by decide +kernel
theorem d_Shelf_init_4 : decode b_Shelf_init 4 = .ok (.aload_n 0, 1) := by decide +kernel
theorem d_Shelf_init_5 : decode b_Shelf_init 5 = .ok (.iload_n 1, 1) := by decide +kernel
theorem d_Shelf_init_6 : decode b_Shelf_init 6 = .ok (.iconst 0, 1) := by decide +kernel
theorem d_Shelf_init_7 : decode b_Shelf_init 7 = .ok (.invokestatic 9, 3) := by decide +kernel
theorem d_Shelf_init_10 : decode b_Shelf_init 10 = .ok (.putfield 15, 3) := by decide +kernel
theorem d_Shelf_init_13 : decode b_Shelf_init 13 = .ok (.aload_n 0, 1) := by decide +kernel
theorem d_Shelf_init_14 : decode b_Shelf_init 14 = .ok (.aload_n 0, 1) := by decide +kernel
theorem d_Shelf_init_15 : decode b_Shelf_init 15 = .ok (.getfield 15, 3) := by decide +kernel
theorem d_Shelf_init_18 : decode b_Shelf_init 18 = .ok (.bipush 10, 2) := by decide +kernel
theorem d_Shelf_init_20 : decode b_Shelf_init 20 = .ok (.imul, 1) := by decide +kernel
theorem d_Shelf_init_21 : decode b_Shelf_init 21 = .ok (.newarray .int, 2) := by decide +kernel
theorem d_Shelf_init_23 : decode b_Shelf_init 23 = .ok (.putfield 23, 3) := by decide +kernel
theorem d_Shelf_init_26 : decode b_Shelf_init 26 = .ok (.return_, 1) := by decide +kernel

theorem d_PR_keep_0 : decode b_PR_keep 0 = .ok (.iload_n 1, 1) := by decide +kernel
theorem d_PR_keep_1 : decode b_PR_keep 1 = .ok (.ifCond .lt 8, 3) := by decide +kernel
theorem d_PR_keep_4 : decode b_PR_keep 4 = .ok (.iload_n 1, 1) := by decide +kernel
theorem d_PR_keep_5 : decode b_PR_keep 5 = .ok (.iconst 2, 1) := by decide +kernel
theorem d_PR_keep_6 : decode b_PR_keep 6 = .ok (.if_icmp .lt 5, 3) := by decide +kernel
theorem d_PR_keep_9 : decode b_PR_keep 9 = .ok (.iconst (-1), 1) := by decide +kernel
theorem d_PR_keep_10 : decode b_PR_keep 10 = .ok (.ireturn, 1) := by decide +kernel
theorem d_PR_keep_11 : decode b_PR_keep 11 = .ok (.aload_n 0, 1) := by decide +kernel
theorem d_PR_keep_12 : decode b_PR_keep 12 = .ok (.getfield 49, 3) := by decide +kernel
theorem d_PR_keep_15 : decode b_PR_keep 15 = .ok (.iload_n 1, 1) := by decide +kernel
theorem d_PR_keep_16 : decode b_PR_keep 16 = .ok (.aload_n 0, 1) := by decide +kernel
theorem d_PR_keep_17 : decode b_PR_keep 17 = .ok (.getfield 26, 3) := by decide +kernel
theorem d_PR_keep_20 : decode b_PR_keep 20 = .ok (.invokevirtual 230, 3) := by decide +kernel
theorem d_PR_keep_23 : decode b_PR_keep 23 = .ok (.aload_n 0, 1) := by decide +kernel
theorem d_PR_keep_24 : decode b_PR_keep 24 = .ok (.dup, 1) := by decide +kernel
theorem d_PR_keep_25 : decode b_PR_keep 25 = .ok (.getfield 63, 3) := by decide +kernel
theorem d_PR_keep_28 : decode b_PR_keep 28 = .ok (.iconst 1, 1) := by decide +kernel
theorem d_PR_keep_29 : decode b_PR_keep 29 = .ok (.iload_n 1, 1) := by decide +kernel
theorem d_PR_keep_30 : decode b_PR_keep 30 = .ok (.ishl, 1) := by decide +kernel
theorem d_PR_keep_31 : decode b_PR_keep 31 = .ok (.ior, 1) := by decide +kernel
theorem d_PR_keep_32 : decode b_PR_keep 32 = .ok (.putfield 63, 3) := by decide +kernel
theorem d_PR_keep_35 : decode b_PR_keep 35 = .ok (.aload_n 0, 1) := by decide +kernel
theorem d_PR_keep_36 : decode b_PR_keep 36 = .ok (.getfield 26, 3) := by decide +kernel
theorem d_PR_keep_39 : decode b_PR_keep 39 = .ok (.getfield 101, 3) := by decide +kernel
theorem d_PR_keep_42 : decode b_PR_keep 42 = .ok (.ireturn, 1) := by decide +kernel
theorem d_PR_layerOfRow_0 : decode b_PR_layerOfRow 0 = .ok (.iload_n 1, 1) := by decide +kernel
theorem d_PR_layerOfRow_1 : decode b_PR_layerOfRow 1 = .ok (.ifCond .ne 8, 3) := by decide +kernel
theorem d_PR_layerOfRow_4 : decode b_PR_layerOfRow 4 = .ok (.iload_n 0, 1) := by decide +kernel
theorem d_PR_layerOfRow_5 : decode b_PR_layerOfRow 5 = .ok (.bipush 9, 2) := by decide +kernel
theorem d_PR_layerOfRow_7 : decode b_PR_layerOfRow 7 = .ok (.idiv, 1) := by decide +kernel
theorem d_PR_layerOfRow_8 : decode b_PR_layerOfRow 8 = .ok (.ireturn, 1) := by decide +kernel
theorem d_PR_layerOfRow_9 : decode b_PR_layerOfRow 9 = .ok (.iload_n 1, 1) := by decide +kernel
theorem d_PR_layerOfRow_10 : decode b_PR_layerOfRow 10 = .ok (.iconst 1, 1) := by decide +kernel
theorem d_PR_layerOfRow_11 : decode b_PR_layerOfRow 11 = .ok (.if_icmp .ne 11, 3) := by decide +kernel
theorem d_PR_layerOfRow_14 : decode b_PR_layerOfRow 14 = .ok (.iload_n 0, 1) := by decide +kernel
theorem d_PR_layerOfRow_15 : decode b_PR_layerOfRow 15 = .ok (.iconst 3, 1) := by decide +kernel
theorem d_PR_layerOfRow_16 : decode b_PR_layerOfRow 16 = .ok (.idiv, 1) := by decide +kernel
theorem d_PR_layerOfRow_17 : decode b_PR_layerOfRow 17 = .ok (.iconst 3, 1) := by decide +kernel
theorem d_PR_layerOfRow_18 : decode b_PR_layerOfRow 18 = .ok (.irem, 1) := by decide +kernel
theorem d_PR_layerOfRow_19 : decode b_PR_layerOfRow 19 = .ok (.goto 6, 3) := by decide +kernel
theorem d_PR_layerOfRow_22 : decode b_PR_layerOfRow 22 = .ok (.iload_n 0, 1) := by decide +kernel
theorem d_PR_layerOfRow_23 : decode b_PR_layerOfRow 23 = .ok (.iconst 3, 1) := by decide +kernel
theorem d_PR_layerOfRow_24 : decode b_PR_layerOfRow 24 = .ok (.irem, 1) := by decide +kernel
theorem d_PR_layerOfRow_25 : decode b_PR_layerOfRow 25 = .ok (.ireturn, 1) := by decide +kernel
theorem d_PR_layersOf_0 : decode b_PR_layersOf 0 = .ok (.iload_n 0, 1) := by decide +kernel
theorem d_PR_layersOf_1 : decode b_PR_layersOf 1 = .ok (.sipush 1000, 3) := by decide +kernel
theorem d_PR_layersOf_4 : decode b_PR_layersOf 4 = .ok (.idiv, 1) := by decide +kernel
theorem d_PR_layersOf_5 : decode b_PR_layersOf 5 = .ok (.iload_n 0, 1) := by decide +kernel
theorem d_PR_layersOf_6 : decode b_PR_layersOf 6 = .ok (.bipush 100, 2) := by decide +kernel
theorem d_PR_layersOf_8 : decode b_PR_layersOf 8 = .ok (.idiv, 1) := by decide +kernel
theorem d_PR_layersOf_9 : decode b_PR_layersOf 9 = .ok (.bipush 10, 2) := by decide +kernel
theorem d_PR_layersOf_11 : decode b_PR_layersOf 11 = .ok (.irem, 1) := by decide +kernel
theorem d_PR_layersOf_12 : decode b_PR_layersOf 12 = .ok (.iadd, 1) := by decide +kernel
theorem d_PR_layersOf_13 : decode b_PR_layersOf 13 = .ok (.iload_n 0, 1) := by decide +kernel
theorem d_PR_layersOf_14 : decode b_PR_layersOf 14 = .ok (.bipush 10, 2) := by decide +kernel
theorem d_PR_layersOf_16 : decode b_PR_layersOf 16 = .ok (.idiv, 1) := by decide +kernel
theorem d_PR_layersOf_17 : decode b_PR_layersOf 17 = .ok (.bipush 10, 2) := by decide +kernel
theorem d_PR_layersOf_19 : decode b_PR_layersOf 19 = .ok (.irem, 1) := by decide +kernel
theorem d_PR_layersOf_20 : decode b_PR_layersOf 20 = .ok (.iadd, 1) := by decide +kernel
theorem d_PR_layersOf_21 : decode b_PR_layersOf 21 = .ok (.iload_n 0, 1) := by decide +kernel
theorem d_PR_layersOf_22 : decode b_PR_layersOf 22 = .ok (.bipush 10, 2) := by decide +kernel
theorem d_PR_layersOf_24 : decode b_PR_layersOf 24 = .ok (.irem, 1) := by decide +kernel
theorem d_PR_layersOf_25 : decode b_PR_layersOf 25 = .ok (.iadd, 1) := by decide +kernel
theorem d_PR_layersOf_26 : decode b_PR_layersOf 26 = .ok (.ireturn, 1) := by decide +kernel
theorem d_PR_leastCleaning_0 : decode b_PR_leastCleaning 0 = .ok (.bipush (-9), 2) := by decide +kernel
theorem d_PR_leastCleaning_2 : decode b_PR_leastCleaning 2 = .ok (.istore_n 3, 1) := by decide +kernel
theorem d_PR_leastCleaning_3 : decode b_PR_leastCleaning 3 = .ok (.iconst 0, 1) := by decide +kernel
theorem d_PR_leastCleaning_4 : decode b_PR_leastCleaning 4 = .ok (.istore 4, 2) := by decide +kernel
theorem d_PR_leastCleaning_6 : decode b_PR_leastCleaning 6 = .ok (.iload 4, 2) := by decide +kernel
theorem d_PR_leastCleaning_8 : decode b_PR_leastCleaning 8 = .ok (.bipush 81, 2) := by decide +kernel
theorem d_PR_leastCleaning_10 : decode b_PR_leastCleaning 10 = .ok (.if_icmp .ge 63, 3) := by decide +kernel
theorem d_PR_leastCleaning_13 : decode b_PR_leastCleaning 13 = .ok (.iload 4, 2) := by decide +kernel
theorem d_PR_leastCleaning_15 : decode b_PR_leastCleaning 15 = .ok (.invokestatic 174, 3) := by decide +kernel
theorem d_PR_leastCleaning_18 : decode b_PR_leastCleaning 18 = .ok (.istore 5, 2) := by decide +kernel
theorem d_PR_leastCleaning_20 : decode b_PR_leastCleaning 20 = .ok (.aload_n 0, 1) := by decide +kernel
theorem d_PR_leastCleaning_21 : decode b_PR_leastCleaning 21 = .ok (.iload 5, 2) := by decide +kernel
theorem d_PR_leastCleaning_23 : decode b_PR_leastCleaning 23 = .ok (.invokevirtual 168, 3) := by decide +kernel
theorem d_PR_leastCleaning_26 : decode b_PR_leastCleaning 26 = .ok (.istore 6, 2) := by decide +kernel
theorem d_PR_leastCleaning_28 : decode b_PR_leastCleaning 28 = .ok (.iload 6, 2) := by decide +kernel
theorem d_PR_leastCleaning_30 : decode b_PR_leastCleaning 30 = .ok (.bipush (-2), 2) := by decide +kernel
theorem d_PR_leastCleaning_32 : decode b_PR_leastCleaning 32 = .ok (.if_icmp .eq 35, 3) := by decide +kernel
theorem d_PR_leastCleaning_35 : decode b_PR_leastCleaning 35 = .ok (.iload 6, 2) := by decide +kernel
theorem d_PR_leastCleaning_37 : decode b_PR_leastCleaning 37 = .ok (.iload_n 1, 1) := by decide +kernel
theorem d_PR_leastCleaning_38 : decode b_PR_leastCleaning 38 = .ok (.iand, 1) := by decide +kernel
theorem d_PR_leastCleaning_39 : decode b_PR_leastCleaning 39 = .ok (.iload_n 2, 1) := by decide +kernel
theorem d_PR_leastCleaning_40 : decode b_PR_leastCleaning 40 = .ok (.if_icmp .eq 6, 3) := by decide +kernel
theorem d_PR_leastCleaning_43 : decode b_PR_leastCleaning 43 = .ok (.goto 24, 3) := by decide +kernel
theorem d_PR_leastCleaning_46 : decode b_PR_leastCleaning 46 = .ok (.iload_n 3, 1) := by decide +kernel
theorem d_PR_leastCleaning_47 : decode b_PR_leastCleaning 47 = .ok (.bipush (-9), 2) := by decide +kernel
theorem d_PR_leastCleaning_49 : decode b_PR_leastCleaning 49 = .ok (.if_icmp .eq 15, 3) := by decide +kernel
theorem d_PR_leastCleaning_52 : decode b_PR_leastCleaning 52 = .ok (.iload 5, 2) := by decide +kernel
theorem d_PR_leastCleaning_54 : decode b_PR_leastCleaning 54 = .ok (.invokestatic 177, 3) := by decide +kernel
theorem d_PR_leastCleaning_57 : decode b_PR_leastCleaning 57 = .ok (.iload_n 3, 1) := by decide +kernel
theorem d_PR_leastCleaning_58 : decode b_PR_leastCleaning 58 = .ok (.invokestatic 177, 3) := by decide +kernel
theorem d_PR_leastCleaning_61 : decode b_PR_leastCleaning 61 = .ok (.if_icmp .ge 6, 3) := by decide +kernel
theorem d_PR_leastCleaning_64 : decode b_PR_leastCleaning 64 = .ok (.iload 5, 2) := by decide +kernel
theorem d_PR_leastCleaning_66 : decode b_PR_leastCleaning 66 = .ok (.istore_n 3, 1) := by decide +kernel
theorem d_PR_leastCleaning_67 : decode b_PR_leastCleaning 67 = .ok (.iinc 4 1, 3) := by decide +kernel
theorem d_PR_leastCleaning_70 : decode b_PR_leastCleaning 70 = .ok (.goto (-64), 3) := by decide +kernel
theorem d_PR_leastCleaning_73 : decode b_PR_leastCleaning 73 = .ok (.iload_n 3, 1) := by decide +kernel
theorem d_PR_leastCleaning_74 : decode b_PR_leastCleaning 74 = .ok (.ireturn, 1) := by decide +kernel
theorem d_PR_longest_0 : decode b_PR_longest 0 = .ok (.iload_n 1, 1) := by decide +kernel
theorem d_PR_longest_1 : decode b_PR_longest 1 = .ok (.ifCond .lt 9, 3) := by decide +kernel
theorem d_PR_longest_4 : decode b_PR_longest 4 = .ok (.iload_n 1, 1) := by decide +kernel
theorem d_PR_longest_5 : decode b_PR_longest 5 = .ok (.bipush 30, 2) := by decide +kernel
theorem d_PR_longest_7 : decode b_PR_longest 7 = .ok (.if_icmp .le 6, 3) := by decide +kernel
theorem d_PR_longest_10 : decode b_PR_longest 10 = .ok (.bipush (-2), 2) := by decide +kernel
theorem d_PR_longest_12 : decode b_PR_longest 12 = .ok (.ireturn, 1) := by decide +kernel
theorem d_PR_longest_13 : decode b_PR_longest 13 = .ok (.aload_n 0, 1) := by decide +kernel
theorem d_PR_longest_14 : decode b_PR_longest 14 = .ok (.getfield 30, 3) := by decide +kernel
theorem d_PR_longest_17 : decode b_PR_longest 17 = .ok (.aload_n 0, 1) := by decide +kernel
theorem d_PR_longest_18 : decode b_PR_longest 18 = .ok (.getfield 26, 3) := by decide +kernel
theorem d_PR_longest_21 : decode b_PR_longest 21 = .ok (.invokevirtual 186, 3) := by decide +kernel
theorem d_PR_longest_24 : decode b_PR_longest 24 = .ok (.aload_n 0, 1) := by decide +kernel
theorem d_PR_longest_25 : decode b_PR_longest 25 = .ok (.getfield 30, 3) := by decide +kernel
theorem d_PR_longest_28 : decode b_PR_longest 28 = .ok (.invokevirtual 91, 3) := by decide +kernel
theorem d_PR_longest_31 : decode b_PR_longest 31 = .ok (.invokestatic 141, 3) := by decide +kernel
theorem d_PR_longest_34 : decode b_PR_longest 34 = .ok (.istore_n 2, 1) := by decide +kernel
theorem d_PR_longest_35 : decode b_PR_longest 35 = .ok (.iconst 1, 1) := by decide +kernel
theorem d_PR_longest_36 : decode b_PR_longest 36 = .ok (.istore_n 3, 1) := by decide +kernel
theorem d_PR_longest_37 : decode b_PR_longest 37 = .ok (.iload_n 3, 1) := by decide +kernel
theorem d_PR_longest_38 : decode b_PR_longest 38 = .ok (.iload_n 1, 1) := by decide +kernel
theorem d_PR_longest_39 : decode b_PR_longest 39 = .ok (.if_icmp .gt 32, 3) := by decide +kernel
theorem d_PR_longest_42 : decode b_PR_longest 42 = .ok (.aload_n 0, 1) := by decide +kernel
theorem d_PR_longest_43 : decode b_PR_longest 43 = .ok (.aload_n 0, 1) := by decide +kernel
theorem d_PR_longest_44 : decode b_PR_longest 44 = .ok (.getfield 30, 3) := by decide +kernel
theorem d_PR_longest_47 : decode b_PR_longest 47 = .ok (.invokevirtual 137, 3) := by decide +kernel
theorem d_PR_longest_50 : decode b_PR_longest 50 = .ok (.iload_n 2, 1) := by decide +kernel
theorem d_PR_longest_51 : decode b_PR_longest 51 = .ok (.aload_n 0, 1) := by decide +kernel
theorem d_PR_longest_52 : decode b_PR_longest 52 = .ok (.getfield 30, 3) := by decide +kernel
theorem d_PR_longest_55 : decode b_PR_longest 55 = .ok (.invokevirtual 91, 3) := by decide +kernel
theorem d_PR_longest_58 : decode b_PR_longest 58 = .ok (.invokestatic 141, 3) := by decide +kernel
theorem d_PR_longest_61 : decode b_PR_longest 61 = .ok (.invokestatic 189, 3) := by decide +kernel
theorem d_PR_longest_64 : decode b_PR_longest 64 = .ok (.istore_n 2, 1) := by decide +kernel
theorem d_PR_longest_65 : decode b_PR_longest 65 = .ok (.iinc 3 1, 3) := by decide +kernel
theorem d_PR_longest_68 : decode b_PR_longest 68 = .ok (.goto (-31), 3) := by decide +kernel
theorem d_PR_longest_71 : decode b_PR_longest 71 = .ok (.iload_n 2, 1) := by decide +kernel
theorem d_PR_longest_72 : decode b_PR_longest 72 = .ok (.ireturn, 1) := by decide +kernel
theorem d_PR_night_0 : decode b_PR_night 0 = .ok (.aload_n 0, 1) := by decide +kernel
theorem d_PR_night_1 : decode b_PR_night 1 = .ok (.invokevirtual 134, 3) := by decide +kernel
theorem d_PR_night_4 : decode b_PR_night 4 = .ok (.aload_n 0, 1) := by decide +kernel
theorem d_PR_night_5 : decode b_PR_night 5 = .ok (.aload_n 0, 1) := by decide +kernel
theorem d_PR_night_6 : decode b_PR_night 6 = .ok (.getfield 26, 3) := by decide +kernel
theorem d_PR_night_9 : decode b_PR_night 9 = .ok (.invokevirtual 137, 3) := by decide +kernel
theorem d_PR_night_12 : decode b_PR_night 12 = .ok (.aload_n 0, 1) := by decide +kernel
theorem d_PR_night_13 : decode b_PR_night 13 = .ok (.getfield 26, 3) := by decide +kernel
theorem d_PR_night_16 : decode b_PR_night 16 = .ok (.invokevirtual 91, 3) := by decide +kernel
theorem d_PR_night_19 : decode b_PR_night 19 = .ok (.invokestatic 141, 3) := by decide +kernel
theorem d_PR_night_22 : decode b_PR_night 22 = .ok (.ireturn, 1) := by decide +kernel
theorem d_PR_ordersBehind_0 : decode b_PR_ordersBehind 0 = .ok (.iload_n 0, 1) := by decide +kernel
theorem d_PR_ordersBehind_1 : decode b_PR_ordersBehind 1 = .ok (.ifCond .eq 8, 3) := by decide +kernel
theorem d_PR_ordersBehind_4 : decode b_PR_ordersBehind 4 = .ok (.iload_n 0, 1) := by decide +kernel
theorem d_PR_ordersBehind_5 : decode b_PR_ordersBehind 5 = .ok (.iconst 3, 1) := by decide +kernel
theorem d_PR_ordersBehind_6 : decode b_PR_ordersBehind 6 = .ok (.if_icmp .ne 8, 3) := by decide +kernel
theorem d_PR_ordersBehind_9 : decode b_PR_ordersBehind 9 = .ok (.bipush 6, 2) := by decide +kernel
theorem d_PR_ordersBehind_11 : decode b_PR_ordersBehind 11 = .ok (.goto 4, 3) := by decide +kernel
theorem d_PR_ordersBehind_14 : decode b_PR_ordersBehind 14 = .ok (.iconst 2, 1) := by decide +kernel
theorem d_PR_ordersBehind_15 : decode b_PR_ordersBehind 15 = .ok (.ireturn, 1) := by decide +kernel
theorem d_PR_paint_0 : decode b_PR_paint 0 = .ok (.iload_n 1, 1) := by decide +kernel
theorem d_PR_paint_1 : decode b_PR_paint 1 = .ok (.invokestatic 105, 3) := by decide +kernel
theorem d_PR_paint_4 : decode b_PR_paint 4 = .ok (.ifCond .ne 5, 3) := by decide +kernel
theorem d_PR_paint_7 : decode b_PR_paint 7 = .ok (.iconst (-1), 1) := by decide +kernel
theorem d_PR_paint_8 : decode b_PR_paint 8 = .ok (.ireturn, 1) := by decide +kernel
theorem d_PR_paint_9 : decode b_PR_paint 9 = .ok (.aload_n 0, 1) := by decide +kernel
theorem d_PR_paint_10 : decode b_PR_paint 10 = .ok (.getfield 26, 3) := by decide +kernel
theorem d_PR_paint_13 : decode b_PR_paint 13 = .ok (.iload_n 1, 1) := by decide +kernel
theorem d_PR_paint_14 : decode b_PR_paint 14 = .ok (.invokevirtual 152, 3) := by decide +kernel
theorem d_PR_paint_17 : decode b_PR_paint 17 = .ok (.ifCond .ne 6, 3) := by decide +kernel
theorem d_PR_paint_20 : decode b_PR_paint 20 = .ok (.bipush (-3), 2) := by decide +kernel
theorem d_PR_paint_22 : decode b_PR_paint 22 = .ok (.ireturn, 1) := by decide +kernel
theorem d_PR_paint_23 : decode b_PR_paint 23 = .ok (.aload_n 0, 1) := by decide +kernel
theorem d_PR_paint_24 : decode b_PR_paint 24 = .ok (.invokevirtual 134, 3) := by decide +kernel
theorem d_PR_paint_27 : decode b_PR_paint 27 = .ok (.aload_n 0, 1) := by decide +kernel
theorem d_PR_paint_28 : decode b_PR_paint 28 = .ok (.getfield 26, 3) := by decide +kernel
theorem d_PR_paint_31 : decode b_PR_paint 31 = .ok (.iload_n 1, 1) := by decide +kernel
theorem d_PR_paint_32 : decode b_PR_paint 32 = .ok (.invokevirtual 155, 3) := by decide +kernel
theorem d_PR_paint_35 : decode b_PR_paint 35 = .ok (.pop, 1) := by decide +kernel
theorem d_PR_paint_36 : decode b_PR_paint 36 = .ok (.aload_n 0, 1) := by decide +kernel
theorem d_PR_paint_37 : decode b_PR_paint 37 = .ok (.iload_n 1, 1) := by decide +kernel
theorem d_PR_paint_38 : decode b_PR_paint 38 = .ok (.invokevirtual 116, 3) := by decide +kernel
theorem d_PR_paint_41 : decode b_PR_paint 41 = .ok (.ireturn, 1) := by decide +kernel
theorem d_PR_pass_0 : decode b_PR_pass 0 = .ok (.aload_n 1, 1) := by decide +kernel
theorem d_PR_pass_1 : decode b_PR_pass 1 = .ok (.aload_n 0, 1) := by decide +kernel
theorem d_PR_pass_2 : decode b_PR_pass 2 = .ok (.getfield 19, 3) := by decide +kernel
theorem d_PR_pass_5 : decode b_PR_pass 5 = .ok (.aload_n 0, 1) := by decide +kernel
theorem d_PR_pass_6 : decode b_PR_pass 6 = .ok (.aload_n 1, 1) := by decide +kernel
theorem d_PR_pass_7 : decode b_PR_pass 7 = .ok (.invokevirtual 97, 3) := by decide +kernel
theorem d_PR_pass_10 : decode b_PR_pass 10 = .ok (.invokevirtual 244, 3) := by decide +kernel
theorem d_PR_pass_13 : decode b_PR_pass 13 = .ok (.return_, 1) := by decide +kernel
theorem d_PR_peace_0 : decode b_PR_peace 0 = .ok (.iload_n 1, 1) := by decide +kernel
theorem d_PR_peace_1 : decode b_PR_peace 1 = .ok (.invokestatic 171, 3) := by decide +kernel
theorem d_PR_peace_4 : decode b_PR_peace 4 = .ok (.ifCond .ne 6, 3) := by decide +kernel
theorem d_PR_peace_7 : decode b_PR_peace 7 = .ok (.bipush (-2), 2) := by decide +kernel
theorem d_PR_peace_9 : decode b_PR_peace 9 = .ok (.ireturn, 1) := by decide +kernel
theorem d_PR_peace_10 : decode b_PR_peace 10 = .ok (.aload_n 0, 1) := by decide +kernel
theorem d_PR_peace_11 : decode b_PR_peace 11 = .ok (.bipush 31, 2) := by decide +kernel
theorem d_PR_peace_13 : decode b_PR_peace 13 = .ok (.iconst 0, 1) := by decide +kernel
theorem d_PR_peace_14 : decode b_PR_peace 14 = .ok (.invokevirtual 180, 3) := by decide +kernel
theorem d_PR_peace_17 : decode b_PR_peace 17 = .ok (.iload_n 1, 1) := by decide +kernel
theorem d_PR_peace_18 : decode b_PR_peace 18 = .ok (.invokestatic 183, 3) := by decide +kernel
theorem d_PR_peace_21 : decode b_PR_peace 21 = .ok (.ireturn, 1) := by decide +kernel
theorem d_PR_remember_0 : decode b_PR_remember 0 = .ok (.aload_n 0, 1) := by decide +kernel
theorem d_PR_remember_1 : decode b_PR_remember 1 = .ok (.getfield 59, 3) := by decide +kernel
theorem d_PR_remember_4 : decode b_PR_remember 4 = .ok (.bipush 14, 2) := by decide +kernel
theorem d_PR_remember_6 : decode b_PR_remember 6 = .ok (.if_icmp .ne 20, 3) := by decide +kernel
theorem d_PR_remember_9 : decode b_PR_remember 9 = .ok (.aload_n 0, 1) := by decide +kernel
theorem d_PR_remember_10 : decode b_PR_remember 10 = .ok (.getfield 45, 3) := by decide +kernel
theorem d_PR_remember_13 : decode b_PR_remember 13 = .ok (.invokevirtual 233, 3) := by decide +kernel
theorem d_PR_remember_16 : decode b_PR_remember 16 = .ok (.aload_n 0, 1) := by decide +kernel
theorem d_PR_remember_17 : decode b_PR_remember 17 = .ok (.dup, 1) := by decide +kernel
theorem d_PR_remember_18 : decode b_PR_remember 18 = .ok (.getfield 59, 3) := by decide +kernel
theorem d_PR_remember_21 : decode b_PR_remember 21 = .ok (.iconst 1, 1) := by decide +kernel
theorem d_PR_remember_22 : decode b_PR_remember 22 = .ok (.isub, 1) := by decide +kernel
theorem d_PR_remember_23 : decode b_PR_remember 23 = .ok (.putfield 59, 3) := by decide +kernel
theorem d_PR_remember_26 : decode b_PR_remember 26 = .ok (.aload_n 0, 1) := by decide +kernel
theorem d_PR_remember_27 : decode b_PR_remember 27 = .ok (.getfield 45, 3) := by decide +kernel
theorem d_PR_remember_30 : decode b_PR_remember 30 = .ok (.aload_n 0, 1) := by decide +kernel
theorem d_PR_remember_31 : decode b_PR_remember 31 = .ok (.getfield 59, 3) := by decide +kernel
theorem d_PR_remember_34 : decode b_PR_remember 34 = .ok (.aload_n 0, 1) := by decide +kernel
theorem d_PR_remember_35 : decode b_PR_remember 35 = .ok (.getfield 26, 3) := by decide +kernel
theorem d_PR_remember_38 : decode b_PR_remember 38 = .ok (.invokevirtual 230, 3) := by decide +kernel
theorem d_PR_remember_41 : decode b_PR_remember 41 = .ok (.aload_n 0, 1) := by decide +kernel
theorem d_PR_remember_42 : decode b_PR_remember 42 = .ok (.dup, 1) := by decide +kernel
theorem d_PR_remember_43 : decode b_PR_remember 43 = .ok (.getfield 59, 3) := by decide +kernel
theorem d_PR_remember_46 : decode b_PR_remember 46 = .ok (.iconst 1, 1) := by decide +kernel
theorem d_PR_remember_47 : decode b_PR_remember 47 = .ok (.iadd, 1) := by decide +kernel
theorem d_PR_remember_48 : decode b_PR_remember 48 = .ok (.putfield 59, 3) := by decide +kernel
theorem d_PR_remember_51 : decode b_PR_remember 51 = .ok (.return_, 1) := by decide +kernel
theorem d_PR_rests_0 : decode b_PR_rests 0 = .ok (.aload_n 0, 1) := by decide +kernel
theorem d_PR_rests_1 : decode b_PR_rests 1 = .ok (.getfield 19, 3) := by decide +kernel
theorem d_PR_rests_4 : decode b_PR_rests 4 = .ok (.iload_n 1, 1) := by decide +kernel
theorem d_PR_rests_5 : decode b_PR_rests 5 = .ok (.invokevirtual 119, 3) := by decide +kernel
theorem d_PR_rests_8 : decode b_PR_rests 8 = .ok (.ifCond .eq 14, 3) := by decide +kernel
theorem d_PR_rests_11 : decode b_PR_rests 11 = .ok (.aload_n 0, 1) := by decide +kernel
theorem d_PR_rests_12 : decode b_PR_rests 12 = .ok (.getfield 19, 3) := by decide +kernel
theorem d_PR_rests_15 : decode b_PR_rests 15 = .ok (.iload_n 2, 1) := by decide +kernel
theorem d_PR_rests_16 : decode b_PR_rests 16 = .ok (.invokevirtual 119, 3) := by decide +kernel
theorem d_PR_rests_19 : decode b_PR_rests 19 = .ok (.ifCond .ne 5, 3) := by decide +kernel
theorem d_PR_rests_22 : decode b_PR_rests 22 = .ok (.iconst (-1), 1) := by decide +kernel
theorem d_PR_rests_23 : decode b_PR_rests 23 = .ok (.ireturn, 1) := by decide +kernel
theorem d_PR_rests_24 : decode b_PR_rests 24 = .ok (.iload_n 1, 1) := by decide +kernel
theorem d_PR_rests_25 : decode b_PR_rests 25 = .ok (.iload_n 2, 1) := by decide +kernel
theorem d_PR_rests_26 : decode b_PR_rests 26 = .ok (.if_icmp .eq 10, 3) := by decide +kernel
theorem d_PR_rests_29 : decode b_PR_rests 29 = .ok (.iload_n 3, 1) := by decide +kernel
theorem d_PR_rests_30 : decode b_PR_rests 30 = .ok (.invokestatic 171, 3) := by decide +kernel
theorem d_PR_rests_33 : decode b_PR_rests 33 = .ok (.ifCond .ne 6, 3) := by decide +kernel
theorem d_PR_rests_36 : decode b_PR_rests 36 = .ok (.bipush (-2), 2) := by decide +kernel
theorem d_PR_rests_38 : decode b_PR_rests 38 = .ok (.ireturn, 1) := by decide +kernel
theorem d_PR_rests_39 : decode b_PR_rests 39 = .ok (.iconst 0, 1) := by decide +kernel
theorem d_PR_rests_40 : decode b_PR_rests 40 = .ok (.istore 4, 2) := by decide +kernel
theorem d_PR_rests_42 : decode b_PR_rests 42 = .ok (.bipush (-9), 2) := by decide +kernel
theorem d_PR_rests_44 : decode b_PR_rests 44 = .ok (.istore 5, 2) := by decide +kernel
theorem d_PR_rests_46 : decode b_PR_rests 46 = .ok (.iconst 0, 1) := by decide +kernel
theorem d_PR_rests_47 : decode b_PR_rests 47 = .ok (.istore 6, 2) := by decide +kernel
theorem d_PR_rests_49 : decode b_PR_rests 49 = .ok (.iload 6, 2) := by decide +kernel
theorem d_PR_rests_51 : decode b_PR_rests 51 = .ok (.iconst 4, 1) := by decide +kernel
theorem d_PR_rests_52 : decode b_PR_rests 52 = .ok (.if_icmp .ge 85, 3) := by decide +kernel
theorem d_PR_rests_55 : decode b_PR_rests 55 = .ok (.iconst 0, 1) := by decide +kernel
theorem d_PR_rests_56 : decode b_PR_rests 56 = .ok (.istore 7, 2) := by decide +kernel
theorem d_PR_rests_58 : decode b_PR_rests 58 = .ok (.iload 7, 2) := by decide +kernel
theorem d_PR_rests_60 : decode b_PR_rests 60 = .ok (.iconst 4, 1) := by decide +kernel
theorem d_PR_rests_61 : decode b_PR_rests 61 = .ok (.if_icmp .ge 70, 3) := by decide +kernel
theorem d_PR_rests_64 : decode b_PR_rests 64 = .ok (.aload_n 0, 1) := by decide +kernel
theorem d_PR_rests_65 : decode b_PR_rests 65 = .ok (.getfield 19, 3) := by decide +kernel
theorem d_PR_rests_68 : decode b_PR_rests 68 = .ok (.iload_n 1, 1) := by decide +kernel
theorem d_PR_rests_69 : decode b_PR_rests 69 = .ok (.invokevirtual 122, 3) := by decide +kernel
theorem d_PR_rests_72 : decode b_PR_rests 72 = .ok (.iload 6, 2) := by decide +kernel
theorem d_PR_rests_74 : decode b_PR_rests 74 = .ok (.iload 7, 2) := by decide +kernel
theorem d_PR_rests_76 : decode b_PR_rests 76 = .ok (.invokestatic 220, 3) := by decide +kernel
theorem d_PR_rests_79 : decode b_PR_rests 79 = .ok (.ifCond .eq 46, 3) := by decide +kernel
theorem d_PR_rests_82 : decode b_PR_rests 82 = .ok (.aload_n 0, 1) := by decide +kernel
theorem d_PR_rests_83 : decode b_PR_rests 83 = .ok (.getfield 19, 3) := by decide +kernel
theorem d_PR_rests_86 : decode b_PR_rests 86 = .ok (.iload_n 2, 1) := by decide +kernel
theorem d_PR_rests_87 : decode b_PR_rests 87 = .ok (.invokevirtual 122, 3) := by decide +kernel
theorem d_PR_rests_90 : decode b_PR_rests 90 = .ok (.iload 7, 2) := by decide +kernel
theorem d_PR_rests_92 : decode b_PR_rests 92 = .ok (.iload 6, 2) := by decide +kernel
theorem d_PR_rests_94 : decode b_PR_rests 94 = .ok (.invokestatic 220, 3) := by decide +kernel
theorem d_PR_rests_97 : decode b_PR_rests 97 = .ok (.ifCond .eq 28, 3) := by decide +kernel
theorem d_PR_rests_100 : decode b_PR_rests 100 = .ok (.iinc 4 1, 3) := by decide +kernel
theorem d_PR_rests_103 : decode b_PR_rests 103 = .ok (.iload 5, 2) := by decide +kernel
theorem d_PR_rests_105 : decode b_PR_rests 105 = .ok (.bipush (-9), 2) := by decide +kernel
theorem d_PR_rests_107 : decode b_PR_rests 107 = .ok (.if_icmp .ne 14, 3) := by decide +kernel
theorem d_PR_rests_110 : decode b_PR_rests 110 = .ok (.bipush 10, 2) := by decide +kernel
theorem d_PR_rests_112 : decode b_PR_rests 112 = .ok (.iload 6, 2) := by decide +kernel
theorem d_PR_rests_114 : decode b_PR_rests 114 = .ok (.imul, 1) := by decide +kernel
theorem d_PR_rests_115 : decode b_PR_rests 115 = .ok (.iload 7, 2) := by decide +kernel
theorem d_PR_rests_117 : decode b_PR_rests 117 = .ok (.iadd, 1) := by decide +kernel
theorem d_PR_rests_118 : decode b_PR_rests 118 = .ok (.goto 5, 3) := by decide +kernel
theorem d_PR_rests_121 : decode b_PR_rests 121 = .ok (.iload 5, 2) := by decide +kernel
theorem d_PR_rests_123 : decode b_PR_rests 123 = .ok (.istore 5, 2) := by decide +kernel
theorem d_PR_rests_125 : decode b_PR_rests 125 = .ok (.iinc 7 1, 3) := by decide +kernel
theorem d_PR_rests_128 : decode b_PR_rests 128 = .ok (.goto (-70), 3) := by decide +kernel
theorem d_PR_rests_131 : decode b_PR_rests 131 = .ok (.iinc 6 1, 3) := by decide +kernel
theorem d_PR_rests_134 : decode b_PR_rests 134 = .ok (.goto (-85), 3) := by decide +kernel
theorem d_PR_rests_137 : decode b_PR_rests 137 = .ok (.iload_n 3, 1) := by decide +kernel
theorem d_PR_rests_138 : decode b_PR_rests 138 = .ok (.ifCond .ne 8, 3) := by decide +kernel
theorem d_PR_rests_141 : decode b_PR_rests 141 = .ok (.iload 4, 2) := by decide +kernel
theorem d_PR_rests_143 : decode b_PR_rests 143 = .ok (.goto 5, 3) := by decide +kernel
theorem d_PR_rests_146 : decode b_PR_rests 146 = .ok (.iload 5, 2) := by decide +kernel
theorem d_PR_rests_148 : decode b_PR_rests 148 = .ok (.ireturn, 1) := by decide +kernel
theorem d_PR_see_0 : decode b_PR_see 0 = .ok (.aload_n 0, 1) := by decide +kernel
theorem d_PR_see_1 : decode b_PR_see 1 = .ok (.getfield 19, 3) := by decide +kernel
theorem d_PR_see_4 : decode b_PR_see 4 = .ok (.iload_n 1, 1) := by decide +kernel
theorem d_PR_see_5 : decode b_PR_see 5 = .ok (.invokevirtual 119, 3) := by decide +kernel
theorem d_PR_see_8 : decode b_PR_see 8 = .ok (.ifCond .eq 10, 3) := by decide +kernel
theorem d_PR_see_11 : decode b_PR_see 11 = .ok (.iload_n 2, 1) := by decide +kernel
theorem d_PR_see_12 : decode b_PR_see 12 = .ok (.invokestatic 105, 3) := by decide +kernel
theorem d_PR_see_15 : decode b_PR_see 15 = .ok (.ifCond .ne 5, 3) := by decide +kernel
theorem d_PR_see_18 : decode b_PR_see 18 = .ok (.iconst (-1), 1) := by decide +kernel
theorem d_PR_see_19 : decode b_PR_see 19 = .ok (.ireturn, 1) := by decide +kernel
theorem d_PR_see_20 : decode b_PR_see 20 = .ok (.iload_n 3, 1) := by decide +kernel
theorem d_PR_see_21 : decode b_PR_see 21 = .ok (.ifCond .lt 19, 3) := by decide +kernel
theorem d_PR_see_24 : decode b_PR_see 24 = .ok (.iload_n 3, 1) := by decide +kernel
theorem d_PR_see_25 : decode b_PR_see 25 = .ok (.iconst 2, 1) := by decide +kernel
theorem d_PR_see_26 : decode b_PR_see 26 = .ok (.if_icmp .gt 14, 3) := by decide +kernel
theorem d_PR_see_29 : decode b_PR_see 29 = .ok (.iload 4, 2) := by decide +kernel
theorem d_PR_see_31 : decode b_PR_see 31 = .ok (.ifCond .lt 9, 3) := by decide +kernel
theorem d_PR_see_34 : decode b_PR_see 34 = .ok (.iload 4, 2) := by decide +kernel
theorem d_PR_see_36 : decode b_PR_see 36 = .ok (.iconst 1, 1) := by decide +kernel
theorem d_PR_see_37 : decode b_PR_see 37 = .ok (.if_icmp .le 6, 3) := by decide +kernel
theorem d_PR_see_40 : decode b_PR_see 40 = .ok (.bipush (-2), 2) := by decide +kernel
theorem d_PR_see_42 : decode b_PR_see 42 = .ok (.ireturn, 1) := by decide +kernel
theorem d_PR_see_43 : decode b_PR_see 43 = .ok (.aload_n 0, 1) := by decide +kernel
theorem d_PR_see_44 : decode b_PR_see 44 = .ok (.getfield 55, 3) := by decide +kernel
theorem d_PR_see_47 : decode b_PR_see 47 = .ok (.iload_n 1, 1) := by decide +kernel
theorem d_PR_see_48 : decode b_PR_see 48 = .ok (.iload_n 2, 1) := by decide +kernel
theorem d_PR_see_49 : decode b_PR_see 49 = .ok (.iload_n 3, 1) := by decide +kernel
theorem d_PR_see_50 : decode b_PR_see 50 = .ok (.iload 4, 2) := by decide +kernel
theorem d_PR_see_52 : decode b_PR_see 52 = .ok (.invokevirtual 212, 3) := by decide +kernel
theorem d_PR_see_55 : decode b_PR_see 55 = .ok (.ifCond .eq 13, 3) := by decide +kernel
theorem d_PR_see_58 : decode b_PR_see 58 = .ok (.aload_n 0, 1) := by decide +kernel
theorem d_PR_see_59 : decode b_PR_see 59 = .ok (.getfield 55, 3) := by decide +kernel
theorem d_PR_see_62 : decode b_PR_see 62 = .ok (.getfield 104, 3) := by decide +kernel
theorem d_PR_see_65 : decode b_PR_see 65 = .ok (.goto 5, 3) := by decide +kernel
theorem d_PR_see_68 : decode b_PR_see 68 = .ok (.bipush (-4), 2) := by decide +kernel
theorem d_PR_see_70 : decode b_PR_see 70 = .ok (.ireturn, 1) := by decide +kernel
theorem d_PR_seed_0 : decode b_PR_seed 0 = .ok (.aload_n 0, 1) := by decide +kernel
theorem d_PR_seed_1 : decode b_PR_seed 1 = .ok (.getfield 66, 3) := by decide +kernel
theorem d_PR_seed_4 : decode b_PR_seed 4 = .ok (.lstore_n 3, 1) := by decide +kernel
theorem d_PR_seed_5 : decode b_PR_seed 5 = .ok (.aload_n 0, 1) := by decide +kernel
theorem d_PR_seed_6 : decode b_PR_seed 6 = .ok (.lload_n 1, 1) := by decide +kernel
theorem d_PR_seed_7 : decode b_PR_seed 7 = .ok (.putfield 66, 3) := by decide +kernel
theorem d_PR_seed_10 : decode b_PR_seed 10 = .ok (.lload_n 3, 1) := by decide +kernel
theorem d_PR_seed_11 : decode b_PR_seed 11 = .ok (.lreturn, 1) := by decide +kernel
theorem d_PR_send_0 : decode b_PR_send 0 = .ok (.aload_n 0, 1) := by decide +kernel
theorem d_PR_send_1 : decode b_PR_send 1 = .ok (.getfield 26, 3) := by decide +kernel
theorem d_PR_send_4 : decode b_PR_send 4 = .ok (.invokevirtual 158, 3) := by decide +kernel
theorem d_PR_send_7 : decode b_PR_send 7 = .ok (.istore_n 1, 1) := by decide +kernel
theorem d_PR_send_8 : decode b_PR_send 8 = .ok (.iload_n 1, 1) := by decide +kernel
theorem d_PR_send_9 : decode b_PR_send 9 = .ok (.bipush (-9), 2) := by decide +kernel
theorem d_PR_send_11 : decode b_PR_send 11 = .ok (.if_icmp .ne 6, 3) := by decide +kernel
theorem d_PR_send_14 : decode b_PR_send 14 = .ok (.bipush (-3), 2) := by decide +kernel
theorem d_PR_send_16 : decode b_PR_send 16 = .ok (.ireturn, 1) := by decide +kernel
theorem d_PR_send_17 : decode b_PR_send 17 = .ok (.aload_n 0, 1) := by decide +kernel
theorem d_PR_send_18 : decode b_PR_send 18 = .ok (.invokevirtual 134, 3) := by decide +kernel
theorem d_PR_send_21 : decode b_PR_send 21 = .ok (.aload_n 0, 1) := by decide +kernel
theorem d_PR_send_22 : decode b_PR_send 22 = .ok (.getfield 26, 3) := by decide +kernel
theorem d_PR_send_25 : decode b_PR_send 25 = .ok (.iload_n 1, 1) := by decide +kernel
theorem d_PR_send_26 : decode b_PR_send 26 = .ok (.invokevirtual 161, 3) := by decide +kernel
theorem d_PR_send_29 : decode b_PR_send 29 = .ok (.pop, 1) := by decide +kernel
theorem d_PR_send_30 : decode b_PR_send 30 = .ok (.iload_n 1, 1) := by decide +kernel
theorem d_PR_send_31 : decode b_PR_send 31 = .ok (.ireturn, 1) := by decide +kernel
theorem d_PR_share_0 : decode b_PR_share 0 = .ok (.iload_n 1, 1) := by decide +kernel
theorem d_PR_share_1 : decode b_PR_share 1 = .ok (.invokestatic 105, 3) := by decide +kernel
theorem d_PR_share_4 : decode b_PR_share 4 = .ok (.ifCond .ne 5, 3) := by decide +kernel
theorem d_PR_share_7 : decode b_PR_share 7 = .ok (.iconst (-1), 1) := by decide +kernel
theorem d_PR_share_8 : decode b_PR_share 8 = .ok (.ireturn, 1) := by decide +kernel
theorem d_PR_share_9 : decode b_PR_share 9 = .ok (.iconst 0, 1) := by decide +kernel
theorem d_PR_share_10 : decode b_PR_share 10 = .ok (.istore_n 3, 1) := by decide +kernel
theorem d_PR_share_11 : decode b_PR_share 11 = .ok (.iconst 0, 1) := by decide +kernel
theorem d_PR_share_12 : decode b_PR_share 12 = .ok (.istore 4, 2) := by decide +kernel
theorem d_PR_share_14 : decode b_PR_share 14 = .ok (.iload 4, 2) := by decide +kernel
theorem d_PR_share_16 : decode b_PR_share 16 = .ok (.bipush 16, 2) := by decide +kernel
theorem d_PR_share_18 : decode b_PR_share 18 = .ok (.if_icmp .ge 51, 3) := by decide +kernel
theorem d_PR_share_21 : decode b_PR_share 21 = .ok (.iload 4, 2) := by decide +kernel
theorem d_PR_share_23 : decode b_PR_share 23 = .ok (.iload_n 1, 1) := by decide +kernel
theorem d_PR_share_24 : decode b_PR_share 24 = .ok (.ishr, 1) := by decide +kernel
theorem d_PR_share_25 : decode b_PR_share 25 = .ok (.iconst 1, 1) := by decide +kernel
theorem d_PR_share_26 : decode b_PR_share 26 = .ok (.iand, 1) := by decide +kernel
theorem d_PR_share_27 : decode b_PR_share 27 = .ok (.ifCond .ne 36, 3) := by decide +kernel
theorem d_PR_share_30 : decode b_PR_share 30 = .ok (.aload_n 0, 1) := by decide +kernel
theorem d_PR_share_31 : decode b_PR_share 31 = .ok (.iload 4, 2) := by decide +kernel
theorem d_PR_share_33 : decode b_PR_share 33 = .ok (.iconst 1, 1) := by decide +kernel
theorem d_PR_share_34 : decode b_PR_share 34 = .ok (.iload_n 1, 1) := by decide +kernel
theorem d_PR_share_35 : decode b_PR_share 35 = .ok (.ishl, 1) := by decide +kernel
theorem d_PR_share_36 : decode b_PR_share 36 = .ok (.ior, 1) := by decide +kernel
theorem d_PR_share_37 : decode b_PR_share 37 = .ok (.invokevirtual 202, 3) := by decide +kernel
theorem d_PR_share_40 : decode b_PR_share 40 = .ok (.aload_n 0, 1) := by decide +kernel
theorem d_PR_share_41 : decode b_PR_share 41 = .ok (.iload 4, 2) := by decide +kernel
theorem d_PR_share_43 : decode b_PR_share 43 = .ok (.invokevirtual 202, 3) := by decide +kernel
theorem d_PR_share_46 : decode b_PR_share 46 = .ok (.isub, 1) := by decide +kernel
theorem d_PR_share_47 : decode b_PR_share 47 = .ok (.istore 5, 2) := by decide +kernel
theorem d_PR_share_49 : decode b_PR_share 49 = .ok (.iload_n 3, 1) := by decide +kernel
theorem d_PR_share_50 : decode b_PR_share 50 = .ok (.iload 4, 2) := by decide +kernel
theorem d_PR_share_52 : decode b_PR_share 52 = .ok (.invokestatic 141, 3) := by decide +kernel
theorem d_PR_share_55 : decode b_PR_share 55 = .ok (.invokestatic 205, 3) := by decide +kernel
theorem d_PR_share_58 : decode b_PR_share 58 = .ok (.iload 5, 2) := by decide +kernel
theorem d_PR_share_60 : decode b_PR_share 60 = .ok (.imul, 1) := by decide +kernel
theorem d_PR_share_61 : decode b_PR_share 61 = .ok (.iadd, 1) := by decide +kernel
theorem d_PR_share_62 : decode b_PR_share 62 = .ok (.istore_n 3, 1) := by decide +kernel
theorem d_PR_share_63 : decode b_PR_share 63 = .ok (.iinc 4 1, 3) := by decide +kernel
theorem d_PR_share_66 : decode b_PR_share 66 = .ok (.goto (-52), 3) := by decide +kernel
theorem d_PR_share_69 : decode b_PR_share 69 = .ok (.iload_n 3, 1) := by decide +kernel
theorem d_PR_share_70 : decode b_PR_share 70 = .ok (.bipush 24, 2) := by decide +kernel
theorem d_PR_share_72 : decode b_PR_share 72 = .ok (.iload_n 2, 1) := by decide +kernel
theorem d_PR_share_73 : decode b_PR_share 73 = .ok (.invokestatic 208, 3) := by decide +kernel
theorem d_PR_share_76 : decode b_PR_share 76 = .ok (.ireturn, 1) := by decide +kernel
theorem d_PR_shown_0 : decode b_PR_shown 0 = .ok (.aload_n 0, 1) := by decide +kernel
theorem d_PR_shown_1 : decode b_PR_shown 1 = .ok (.getfield 19, 3) := by decide +kernel
theorem d_PR_shown_4 : decode b_PR_shown 4 = .ok (.iload_n 1, 1) := by decide +kernel
theorem d_PR_shown_5 : decode b_PR_shown 5 = .ok (.aload_n 0, 1) := by decide +kernel
theorem d_PR_shown_6 : decode b_PR_shown 6 = .ok (.getfield 26, 3) := by decide +kernel
theorem d_PR_shown_9 : decode b_PR_shown 9 = .ok (.iload_n 1, 1) := by decide +kernel
theorem d_PR_shown_10 : decode b_PR_shown 10 = .ok (.invokevirtual 112, 3) := by decide +kernel
theorem d_PR_shown_13 : decode b_PR_shown 13 = .ok (.invokevirtual 108, 3) := by decide +kernel
theorem d_PR_shown_16 : decode b_PR_shown 16 = .ok (.ireturn, 1) := by decide +kernel
theorem d_PR_strokes_0 : decode b_PR_strokes 0 = .ok (.aload_n 0, 1) := by decide +kernel
theorem d_PR_strokes_1 : decode b_PR_strokes 1 = .ok (.getfield 19, 3) := by decide +kernel
theorem d_PR_strokes_4 : decode b_PR_strokes 4 = .ok (.iload_n 1, 1) := by decide +kernel
theorem d_PR_strokes_5 : decode b_PR_strokes 5 = .ok (.invokevirtual 119, 3) := by decide +kernel
theorem d_PR_strokes_8 : decode b_PR_strokes 8 = .ok (.ifCond .ne 5, 3) := by decide +kernel
theorem d_PR_strokes_11 : decode b_PR_strokes 11 = .ok (.iconst (-1), 1) := by decide +kernel
theorem d_PR_strokes_12 : decode b_PR_strokes 12 = .ok (.ireturn, 1) := by decide +kernel
theorem d_PR_strokes_13 : decode b_PR_strokes 13 = .ok (.iload_n 2, 1) := by decide +kernel
theorem d_PR_strokes_14 : decode b_PR_strokes 14 = .ok (.invokestatic 171, 3) := by decide +kernel
theorem d_PR_strokes_17 : decode b_PR_strokes 17 = .ok (.ifCond .ne 6, 3) := by decide +kernel
theorem d_PR_strokes_20 : decode b_PR_strokes 20 = .ok (.bipush (-2), 2) := by decide +kernel
theorem d_PR_strokes_22 : decode b_PR_strokes 22 = .ok (.ireturn, 1) := by decide +kernel
theorem d_PR_strokes_23 : decode b_PR_strokes 23 = .ok (.aload_n 0, 1) := by decide +kernel
theorem d_PR_strokes_24 : decode b_PR_strokes 24 = .ok (.iconst 1, 1) := by decide +kernel
theorem d_PR_strokes_25 : decode b_PR_strokes 25 = .ok (.iload_n 1, 1) := by decide +kernel
theorem d_PR_strokes_26 : decode b_PR_strokes 26 = .ok (.ishl, 1) := by decide +kernel
theorem d_PR_strokes_27 : decode b_PR_strokes 27 = .ok (.iconst 1, 1) := by decide +kernel
theorem d_PR_strokes_28 : decode b_PR_strokes 28 = .ok (.iload_n 1, 1) := by decide +kernel
theorem d_PR_strokes_29 : decode b_PR_strokes 29 = .ok (.ishl, 1) := by decide +kernel
theorem d_PR_strokes_30 : decode b_PR_strokes 30 = .ok (.invokevirtual 180, 3) := by decide +kernel
theorem d_PR_strokes_33 : decode b_PR_strokes 33 = .ok (.iload_n 2, 1) := by decide +kernel
theorem d_PR_strokes_34 : decode b_PR_strokes 34 = .ok (.invokestatic 183, 3) := by decide +kernel
theorem d_PR_strokes_37 : decode b_PR_strokes 37 = .ok (.ireturn, 1) := by decide +kernel
theorem d_PR_tellCleaning_0 : decode b_PR_tellCleaning 0 = .ok (.iload_n 0, 1) := by decide +kernel
theorem d_PR_tellCleaning_1 : decode b_PR_tellCleaning 1 = .ok (.bipush (-9), 2) := by decide +kernel
theorem d_PR_tellCleaning_3 : decode b_PR_tellCleaning 3 = .ok (.if_icmp .eq 7, 3) := by decide +kernel
theorem d_PR_tellCleaning_6 : decode b_PR_tellCleaning 6 = .ok (.iload_n 1, 1) := by decide +kernel
theorem d_PR_tellCleaning_7 : decode b_PR_tellCleaning 7 = .ok (.ifCond .ne 7, 3) := by decide +kernel
theorem d_PR_tellCleaning_10 : decode b_PR_tellCleaning 10 = .ok (.iload_n 0, 1) := by decide +kernel
theorem d_PR_tellCleaning_11 : decode b_PR_tellCleaning 11 = .ok (.goto 7, 3) := by decide +kernel
theorem d_PR_tellCleaning_14 : decode b_PR_tellCleaning 14 = .ok (.iload_n 0, 1) := by decide +kernel
theorem d_PR_tellCleaning_15 : decode b_PR_tellCleaning 15 = .ok (.invokestatic 177, 3) := by decide +kernel
theorem d_PR_tellCleaning_18 : decode b_PR_tellCleaning 18 = .ok (.ireturn, 1) := by decide +kernel
theorem d_PR_under_0 : decode b_PR_under 0 = .ok (.iload_n 1, 1) := by decide +kernel
theorem d_PR_under_1 : decode b_PR_under 1 = .ok (.invokestatic 105, 3) := by decide +kernel
theorem d_PR_under_4 : decode b_PR_under 4 = .ok (.ifCond .ne 5, 3) := by decide +kernel
theorem d_PR_under_7 : decode b_PR_under 7 = .ok (.iconst (-1), 1) := by decide +kernel
theorem d_PR_under_8 : decode b_PR_under 8 = .ok (.ireturn, 1) := by decide +kernel
theorem d_PR_under_9 : decode b_PR_under 9 = .ok (.iload_n 2, 1) := by decide +kernel
theorem d_PR_under_10 : decode b_PR_under 10 = .ok (.invokestatic 171, 3) := by decide +kernel
theorem d_PR_under_13 : decode b_PR_under 13 = .ok (.ifCond .ne 6, 3) := by decide +kernel
theorem d_PR_under_16 : decode b_PR_under 16 = .ok (.bipush (-2), 2) := by decide +kernel
theorem d_PR_under_18 : decode b_PR_under 18 = .ok (.ireturn, 1) := by decide +kernel
theorem d_PR_under_19 : decode b_PR_under 19 = .ok (.iconst 0, 1) := by decide +kernel
theorem d_PR_under_20 : decode b_PR_under 20 = .ok (.istore_n 3, 1) := by decide +kernel
theorem d_PR_under_21 : decode b_PR_under 21 = .ok (.bipush (-9), 2) := by decide +kernel
theorem d_PR_under_23 : decode b_PR_under 23 = .ok (.istore 4, 2) := by decide +kernel
theorem d_PR_under_25 : decode b_PR_under 25 = .ok (.iconst 0, 1) := by decide +kernel
theorem d_PR_under_26 : decode b_PR_under 26 = .ok (.istore 5, 2) := by decide +kernel
theorem d_PR_under_28 : decode b_PR_under 28 = .ok (.iload 5, 2) := by decide +kernel
theorem d_PR_under_30 : decode b_PR_under 30 = .ok (.bipush 27, 2) := by decide +kernel
theorem d_PR_under_32 : decode b_PR_under 32 = .ok (.if_icmp .ge 38, 3) := by decide +kernel
theorem d_PR_under_35 : decode b_PR_under 35 = .ok (.aload_n 0, 1) := by decide +kernel
theorem d_PR_under_36 : decode b_PR_under 36 = .ok (.iload_n 1, 1) := by decide +kernel
theorem d_PR_under_37 : decode b_PR_under 37 = .ok (.iload 5, 2) := by decide +kernel
theorem d_PR_under_39 : decode b_PR_under 39 = .ok (.invokevirtual 216, 3) := by decide +kernel
theorem d_PR_under_42 : decode b_PR_under 42 = .ok (.ifCond .eq 22, 3) := by decide +kernel
theorem d_PR_under_45 : decode b_PR_under 45 = .ok (.iinc 3 1, 3) := by decide +kernel
theorem d_PR_under_48 : decode b_PR_under 48 = .ok (.iload 4, 2) := by decide +kernel
theorem d_PR_under_50 : decode b_PR_under 50 = .ok (.bipush (-9), 2) := by decide +kernel
theorem d_PR_under_52 : decode b_PR_under 52 = .ok (.if_icmp .ne 8, 3) := by decide +kernel
theorem d_PR_under_55 : decode b_PR_under 55 = .ok (.iload 5, 2) := by decide +kernel
theorem d_PR_under_57 : decode b_PR_under 57 = .ok (.goto 5, 3) := by decide +kernel
theorem d_PR_under_60 : decode b_PR_under 60 = .ok (.iload 4, 2) := by decide +kernel
theorem d_PR_under_62 : decode b_PR_under 62 = .ok (.istore 4, 2) := by decide +kernel
theorem d_PR_under_64 : decode b_PR_under 64 = .ok (.iinc 5 1, 3) := by decide +kernel
theorem d_PR_under_67 : decode b_PR_under 67 = .ok (.goto (-39), 3) := by decide +kernel
theorem d_PR_under_70 : decode b_PR_under 70 = .ok (.iload_n 2, 1) := by decide +kernel
theorem d_PR_under_71 : decode b_PR_under 71 = .ok (.ifCond .ne 7, 3) := by decide +kernel
theorem d_PR_under_74 : decode b_PR_under 74 = .ok (.iload_n 3, 1) := by decide +kernel
theorem d_PR_under_75 : decode b_PR_under 75 = .ok (.goto 5, 3) := by decide +kernel
theorem d_PR_under_78 : decode b_PR_under 78 = .ok (.iload 4, 2) := by decide +kernel
theorem d_PR_under_80 : decode b_PR_under 80 = .ok (.ireturn, 1) := by decide +kernel
theorem d_PR_undo_0 : decode b_PR_undo 0 = .ok (.aload_n 0, 1) := by decide +kernel
theorem d_PR_undo_1 : decode b_PR_undo 1 = .ok (.getfield 59, 3) := by decide +kernel
theorem d_PR_undo_4 : decode b_PR_undo 4 = .ok (.ifCond .ne 6, 3) := by decide +kernel
theorem d_PR_undo_7 : decode b_PR_undo 7 = .ok (.bipush (-3), 2) := by decide +kernel
theorem d_PR_undo_9 : decode b_PR_undo 9 = .ok (.ireturn, 1) := by decide +kernel
theorem d_PR_undo_10 : decode b_PR_undo 10 = .ok (.aload_n 0, 1) := by decide +kernel
theorem d_PR_undo_11 : decode b_PR_undo 11 = .ok (.dup, 1) := by decide +kernel
theorem d_PR_undo_12 : decode b_PR_undo 12 = .ok (.getfield 59, 3) := by decide +kernel
theorem d_PR_undo_15 : decode b_PR_undo 15 = .ok (.iconst 1, 1) := by decide +kernel
theorem d_PR_undo_16 : decode b_PR_undo 16 = .ok (.isub, 1) := by decide +kernel
theorem d_PR_undo_17 : decode b_PR_undo 17 = .ok (.putfield 59, 3) := by decide +kernel
theorem d_PR_undo_20 : decode b_PR_undo 20 = .ok (.aload_n 0, 1) := by decide +kernel
theorem d_PR_undo_21 : decode b_PR_undo 21 = .ok (.getfield 45, 3) := by decide +kernel
theorem d_PR_undo_24 : decode b_PR_undo 24 = .ok (.aload_n 0, 1) := by decide +kernel
theorem d_PR_undo_25 : decode b_PR_undo 25 = .ok (.getfield 59, 3) := by decide +kernel
theorem d_PR_undo_28 : decode b_PR_undo 28 = .ok (.aload_n 0, 1) := by decide +kernel
theorem d_PR_undo_29 : decode b_PR_undo 29 = .ok (.getfield 26, 3) := by decide +kernel
theorem d_PR_undo_32 : decode b_PR_undo 32 = .ok (.invokevirtual 164, 3) := by decide +kernel
theorem d_PR_undo_35 : decode b_PR_undo 35 = .ok (.aload_n 0, 1) := by decide +kernel
theorem d_PR_undo_36 : decode b_PR_undo 36 = .ok (.getfield 59, 3) := by decide +kernel
theorem d_PR_undo_39 : decode b_PR_undo 39 = .ok (.ireturn, 1) := by decide +kernel
theorem d_PR_unsee_0 : decode b_PR_unsee 0 = .ok (.aload_n 0, 1) := by decide +kernel
theorem d_PR_unsee_1 : decode b_PR_unsee 1 = .ok (.getfield 55, 3) := by decide +kernel
theorem d_PR_unsee_4 : decode b_PR_unsee 4 = .ok (.getfield 104, 3) := by decide +kernel
theorem d_PR_unsee_7 : decode b_PR_unsee 7 = .ok (.istore_n 1, 1) := by decide +kernel
theorem d_PR_unsee_8 : decode b_PR_unsee 8 = .ok (.aload_n 0, 1) := by decide +kernel
theorem d_PR_unsee_9 : decode b_PR_unsee 9 = .ok (.getfield 55, 3) := by decide +kernel
theorem d_PR_unsee_12 : decode b_PR_unsee 12 = .ok (.iconst 0, 1) := by decide +kernel
theorem d_PR_unsee_13 : decode b_PR_unsee 13 = .ok (.putfield 104, 3) := by decide +kernel
theorem d_PR_unsee_16 : decode b_PR_unsee 16 = .ok (.iload_n 1, 1) := by decide +kernel
theorem d_PR_unsee_17 : decode b_PR_unsee 17 = .ok (.ireturn, 1) := by decide +kernel
theorem d_PR_wet_0 : decode b_PR_wet 0 = .ok (.iload_n 1, 1) := by decide +kernel
theorem d_PR_wet_1 : decode b_PR_wet 1 = .ok (.ifCond .lt 18, 3) := by decide +kernel
theorem d_PR_wet_4 : decode b_PR_wet 4 = .ok (.iload_n 1, 1) := by decide +kernel
theorem d_PR_wet_5 : decode b_PR_wet 5 = .ok (.iconst 5, 1) := by decide +kernel
theorem d_PR_wet_6 : decode b_PR_wet 6 = .ok (.if_icmp .gt 13, 3) := by decide +kernel
theorem d_PR_wet_9 : decode b_PR_wet 9 = .ok (.iload_n 2, 1) := by decide +kernel
theorem d_PR_wet_10 : decode b_PR_wet 10 = .ok (.ifCond .lt 9, 3) := by decide +kernel
theorem d_PR_wet_13 : decode b_PR_wet 13 = .ok (.iload_n 2, 1) := by decide +kernel
theorem d_PR_wet_14 : decode b_PR_wet 14 = .ok (.bipush 10, 2) := by decide +kernel
theorem d_PR_wet_16 : decode b_PR_wet 16 = .ok (.if_icmp .le 6, 3) := by decide +kernel
theorem d_PR_wet_19 : decode b_PR_wet 19 = .ok (.bipush (-2), 2) := by decide +kernel
theorem d_PR_wet_21 : decode b_PR_wet 21 = .ok (.ireturn, 1) := by decide +kernel
theorem d_PR_wet_22 : decode b_PR_wet 22 = .ok (.aload_n 0, 1) := by decide +kernel
theorem d_PR_wet_23 : decode b_PR_wet 23 = .ok (.aload_n 0, 1) := by decide +kernel
theorem d_PR_wet_24 : decode b_PR_wet 24 = .ok (.getfield 26, 3) := by decide +kernel
theorem d_PR_wet_27 : decode b_PR_wet 27 = .ok (.invokevirtual 97, 3) := by decide +kernel
theorem d_PR_wet_30 : decode b_PR_wet 30 = .ok (.invokestatic 141, 3) := by decide +kernel
theorem d_PR_wet_33 : decode b_PR_wet 33 = .ok (.istore 4, 2) := by decide +kernel
theorem d_PR_wet_35 : decode b_PR_wet 35 = .ok (.iconst 0, 1) := by decide +kernel
theorem d_PR_wet_36 : decode b_PR_wet 36 = .ok (.istore 5, 2) := by decide +kernel
theorem d_PR_wet_38 : decode b_PR_wet 38 = .ok (.iconst 0, 1) := by decide +kernel
theorem d_PR_wet_39 : decode b_PR_wet 39 = .ok (.istore 6, 2) := by decide +kernel
theorem d_PR_wet_41 : decode b_PR_wet 41 = .ok (.iconst 0, 1) := by decide +kernel
theorem d_PR_wet_42 : decode b_PR_wet 42 = .ok (.istore 7, 2) := by decide +kernel
theorem d_PR_wet_44 : decode b_PR_wet 44 = .ok (.iload 7, 2) := by decide +kernel
theorem d_PR_wet_46 : decode b_PR_wet 46 = .ok (.iconst 1, 1) := by decide +kernel
theorem d_PR_wet_47 : decode b_PR_wet 47 = .ok (.iload 4, 2) := by decide +kernel
theorem d_PR_wet_49 : decode b_PR_wet 49 = .ok (.ishl, 1) := by decide +kernel
theorem d_PR_wet_50 : decode b_PR_wet 50 = .ok (.if_icmp .ge 79, 3) := by decide +kernel
theorem d_PR_wet_53 : decode b_PR_wet 53 = .ok (.iconst 1, 1) := by decide +kernel
theorem d_PR_wet_54 : decode b_PR_wet 54 = .ok (.istore 8, 2) := by decide +kernel
theorem d_PR_wet_56 : decode b_PR_wet 56 = .ok (.iconst 0, 1) := by decide +kernel
theorem d_PR_wet_57 : decode b_PR_wet 57 = .ok (.istore 9, 2) := by decide +kernel
theorem d_PR_wet_59 : decode b_PR_wet 59 = .ok (.iload 9, 2) := by decide +kernel
theorem d_PR_wet_61 : decode b_PR_wet 61 = .ok (.iload 4, 2) := by decide +kernel
theorem d_PR_wet_63 : decode b_PR_wet 63 = .ok (.if_icmp .ge 33, 3) := by decide +kernel
theorem d_PR_wet_66 : decode b_PR_wet 66 = .ok (.iload 8, 2) := by decide +kernel
theorem d_PR_wet_68 : decode b_PR_wet 68 = .ok (.iload 7, 2) := by decide +kernel
theorem d_PR_wet_70 : decode b_PR_wet 70 = .ok (.iload 9, 2) := by decide +kernel
theorem d_PR_wet_72 : decode b_PR_wet 72 = .ok (.ishr, 1) := by decide +kernel
theorem d_PR_wet_73 : decode b_PR_wet 73 = .ok (.iconst 1, 1) := by decide +kernel
theorem d_PR_wet_74 : decode b_PR_wet 74 = .ok (.iand, 1) := by decide +kernel
theorem d_PR_wet_75 : decode b_PR_wet 75 = .ok (.iconst 1, 1) := by decide +kernel
theorem d_PR_wet_76 : decode b_PR_wet 76 = .ok (.if_icmp .ne 7, 3) := by decide +kernel
theorem d_PR_wet_79 : decode b_PR_wet 79 = .ok (.iload_n 2, 1) := by decide +kernel
theorem d_PR_wet_80 : decode b_PR_wet 80 = .ok (.goto 7, 3) := by decide +kernel
theorem d_PR_wet_83 : decode b_PR_wet 83 = .ok (.bipush 10, 2) := by decide +kernel
theorem d_PR_wet_85 : decode b_PR_wet 85 = .ok (.iload_n 2, 1) := by decide +kernel
theorem d_PR_wet_86 : decode b_PR_wet 86 = .ok (.isub, 1) := by decide +kernel
theorem d_PR_wet_87 : decode b_PR_wet 87 = .ok (.imul, 1) := by decide +kernel
theorem d_PR_wet_88 : decode b_PR_wet 88 = .ok (.istore 8, 2) := by decide +kernel
theorem d_PR_wet_90 : decode b_PR_wet 90 = .ok (.iinc 9 1, 3) := by decide +kernel
theorem d_PR_wet_93 : decode b_PR_wet 93 = .ok (.goto (-34), 3) := by decide +kernel
theorem d_PR_wet_96 : decode b_PR_wet 96 = .ok (.iload 6, 2) := by decide +kernel
theorem d_PR_wet_98 : decode b_PR_wet 98 = .ok (.iload 8, 2) := by decide +kernel
theorem d_PR_wet_100 : decode b_PR_wet 100 = .ok (.iadd, 1) := by decide +kernel
theorem d_PR_wet_101 : decode b_PR_wet 101 = .ok (.istore 6, 2) := by decide +kernel
theorem d_PR_wet_103 : decode b_PR_wet 103 = .ok (.iload 5, 2) := by decide +kernel
theorem d_PR_wet_105 : decode b_PR_wet 105 = .ok (.iload 7, 2) := by decide +kernel
theorem d_PR_wet_107 : decode b_PR_wet 107 = .ok (.invokestatic 141, 3) := by decide +kernel
theorem d_PR_wet_110 : decode b_PR_wet 110 = .ok (.iload_n 1, 1) := by decide +kernel
theorem d_PR_wet_111 : decode b_PR_wet 111 = .ok (.if_icmp .lt 8, 3) := by decide +kernel
theorem d_PR_wet_114 : decode b_PR_wet 114 = .ok (.iload 8, 2) := by decide +kernel
theorem d_PR_wet_116 : decode b_PR_wet 116 = .ok (.goto 4, 3) := by decide +kernel
theorem d_PR_wet_119 : decode b_PR_wet 119 = .ok (.iconst 0, 1) := by decide +kernel
theorem d_PR_wet_120 : decode b_PR_wet 120 = .ok (.iadd, 1) := by decide +kernel
theorem d_PR_wet_121 : decode b_PR_wet 121 = .ok (.istore 5, 2) := by decide +kernel
theorem d_PR_wet_123 : decode b_PR_wet 123 = .ok (.iinc 7 1, 3) := by decide +kernel
theorem d_PR_wet_126 : decode b_PR_wet 126 = .ok (.goto (-82), 3) := by decide +kernel
theorem d_PR_wet_129 : decode b_PR_wet 129 = .ok (.iload 5, 2) := by decide +kernel
theorem d_PR_wet_131 : decode b_PR_wet 131 = .ok (.iload 6, 2) := by decide +kernel
theorem d_PR_wet_133 : decode b_PR_wet 133 = .ok (.iload_n 3, 1) := by decide +kernel
theorem d_PR_wet_134 : decode b_PR_wet 134 = .ok (.invokestatic 208, 3) := by decide +kernel
theorem d_PR_wet_137 : decode b_PR_wet 137 = .ok (.ireturn, 1) := by decide +kernel
theorem d_PR_wipe_0 : decode b_PR_wipe 0 = .ok (.aload_n 0, 1) := by decide +kernel
theorem d_PR_wipe_1 : decode b_PR_wipe 1 = .ok (.getfield 12, 3) := by decide +kernel
theorem d_PR_wipe_4 : decode b_PR_wipe 4 = .ok (.getfield 74, 3) := by decide +kernel
theorem d_PR_wipe_7 : decode b_PR_wipe 7 = .ok (.istore_n 1, 1) := by decide +kernel
theorem d_PR_wipe_8 : decode b_PR_wipe 8 = .ok (.aload_n 0, 1) := by decide +kernel
theorem d_PR_wipe_9 : decode b_PR_wipe 9 = .ok (.getfield 12, 3) := by decide +kernel
theorem d_PR_wipe_12 : decode b_PR_wipe 12 = .ok (.iconst 0, 1) := by decide +kernel
theorem d_PR_wipe_13 : decode b_PR_wipe 13 = .ok (.putfield 74, 3) := by decide +kernel
theorem d_PR_wipe_16 : decode b_PR_wipe 16 = .ok (.iload_n 1, 1) := by decide +kernel
theorem d_PR_wipe_17 : decode b_PR_wipe 17 = .ok (.ireturn, 1) := by decide +kernel
theorem d_PR_write_0 : decode b_PR_write 0 = .ok (.iload_n 1, 1) := by decide +kernel
theorem d_PR_write_1 : decode b_PR_write 1 = .ok (.ifCond .lt 10, 3) := by decide +kernel
theorem d_PR_write_4 : decode b_PR_write 4 = .ok (.iload_n 1, 1) := by decide +kernel
theorem d_PR_write_5 : decode b_PR_write 5 = .ok (.sipush 255, 3) := by decide +kernel
theorem d_PR_write_8 : decode b_PR_write 8 = .ok (.if_icmp .le 6, 3) := by decide +kernel
theorem d_PR_write_11 : decode b_PR_write 11 = .ok (.bipush (-2), 2) := by decide +kernel
theorem d_PR_write_13 : decode b_PR_write 13 = .ok (.ireturn, 1) := by decide +kernel
theorem d_PR_write_14 : decode b_PR_write 14 = .ok (.aload_n 0, 1) := by decide +kernel
theorem d_PR_write_15 : decode b_PR_write 15 = .ok (.getfield 12, 3) := by decide +kernel
theorem d_PR_write_18 : decode b_PR_write 18 = .ok (.iload_n 1, 1) := by decide +kernel
theorem d_PR_write_19 : decode b_PR_write 19 = .ok (.invokevirtual 70, 3) := by decide +kernel
theorem d_PR_write_22 : decode b_PR_write 22 = .ok (.ifCond .eq 13, 3) := by decide +kernel
theorem d_PR_write_25 : decode b_PR_write 25 = .ok (.aload_n 0, 1) := by decide +kernel
theorem d_PR_write_26 : decode b_PR_write 26 = .ok (.getfield 12, 3) := by decide +kernel
theorem d_PR_write_29 : decode b_PR_write 29 = .ok (.getfield 74, 3) := by decide +kernel
theorem d_PR_write_32 : decode b_PR_write 32 = .ok (.goto 5, 3) := by decide +kernel
theorem d_PR_write_35 : decode b_PR_write 35 = .ok (.bipush (-4), 2) := by decide +kernel
theorem d_PR_write_37 : decode b_PR_write 37 = .ok (.ireturn, 1) := by decide +kernel
theorem d_PR_years_0 : decode b_PR_years 0 = .ok (.iload_n 1, 1) := by decide +kernel
theorem d_PR_years_1 : decode b_PR_years 1 = .ok (.iconst 1, 1) := by decide +kernel
theorem d_PR_years_2 : decode b_PR_years 2 = .ok (.if_icmp .lt 9, 3) := by decide +kernel
theorem d_PR_years_5 : decode b_PR_years 5 = .ok (.iload_n 1, 1) := by decide +kernel
theorem d_PR_years_6 : decode b_PR_years 6 = .ok (.bipush 30, 2) := by decide +kernel
theorem d_PR_years_8 : decode b_PR_years 8 = .ok (.if_icmp .le 6, 3) := by decide +kernel
theorem d_PR_years_11 : decode b_PR_years 11 = .ok (.bipush (-2), 2) := by decide +kernel
theorem d_PR_years_13 : decode b_PR_years 13 = .ok (.ireturn, 1) := by decide +kernel
theorem d_PR_years_14 : decode b_PR_years 14 = .ok (.aload_n 0, 1) := by decide +kernel
theorem d_PR_years_15 : decode b_PR_years 15 = .ok (.getfield 30, 3) := by decide +kernel
theorem d_PR_years_18 : decode b_PR_years 18 = .ok (.aload_n 0, 1) := by decide +kernel
theorem d_PR_years_19 : decode b_PR_years 19 = .ok (.getfield 26, 3) := by decide +kernel
theorem d_PR_years_22 : decode b_PR_years 22 = .ok (.invokevirtual 186, 3) := by decide +kernel
theorem d_PR_years_25 : decode b_PR_years 25 = .ok (.iconst 0, 1) := by decide +kernel
theorem d_PR_years_26 : decode b_PR_years 26 = .ok (.istore_n 2, 1) := by decide +kernel
theorem d_PR_years_27 : decode b_PR_years 27 = .ok (.iconst 0, 1) := by decide +kernel
theorem d_PR_years_28 : decode b_PR_years 28 = .ok (.istore_n 3, 1) := by decide +kernel
theorem d_PR_years_29 : decode b_PR_years 29 = .ok (.iload_n 3, 1) := by decide +kernel
theorem d_PR_years_30 : decode b_PR_years 30 = .ok (.iload_n 1, 1) := by decide +kernel
theorem d_PR_years_31 : decode b_PR_years 31 = .ok (.if_icmp .ge 100, 3) := by decide +kernel
theorem d_PR_years_34 : decode b_PR_years 34 = .ok (.aload_n 0, 1) := by decide +kernel
theorem d_PR_years_35 : decode b_PR_years 35 = .ok (.aload_n 0, 1) := by decide +kernel
theorem d_PR_years_36 : decode b_PR_years 36 = .ok (.getfield 66, 3) := by decide +kernel
theorem d_PR_years_39 : decode b_PR_years 39 = .ok (.ldc2_w 224, 3) := by decide +kernel
theorem d_PR_years_42 : decode b_PR_years 42 = .ok (.lmul, 1) := by decide +kernel
theorem d_PR_years_43 : decode b_PR_years 43 = .ok (.ldc2_w 226, 3) := by decide +kernel
theorem d_PR_years_46 : decode b_PR_years 46 = .ok (.ladd, 1) := by decide +kernel
theorem d_PR_years_47 : decode b_PR_years 47 = .ok (.putfield 66, 3) := by decide +kernel
theorem d_PR_years_50 : decode b_PR_years 50 = .ok (.aload_n 0, 1) := by decide +kernel
theorem d_PR_years_51 : decode b_PR_years 51 = .ok (.getfield 66, 3) := by decide +kernel
theorem d_PR_years_54 : decode b_PR_years 54 = .ok (.bipush 33, 2) := by decide +kernel
theorem d_PR_years_56 : decode b_PR_years 56 = .ok (.lushr, 1) := by decide +kernel
theorem d_PR_years_57 : decode b_PR_years 57 = .ok (.ldc2_w 228, 3) := by decide +kernel
theorem d_PR_years_60 : decode b_PR_years 60 = .ok (.lrem, 1) := by decide +kernel
theorem d_PR_years_61 : decode b_PR_years 61 = .ok (.l2i, 1) := by decide +kernel
theorem d_PR_years_62 : decode b_PR_years 62 = .ok (.istore 4, 2) := by decide +kernel
theorem d_PR_years_64 : decode b_PR_years 64 = .ok (.iload 4, 2) := by decide +kernel
theorem d_PR_years_66 : decode b_PR_years 66 = .ok (.iconst 4, 1) := by decide +kernel
theorem d_PR_years_67 : decode b_PR_years 67 = .ok (.if_icmp .ge 7, 3) := by decide +kernel
theorem d_PR_years_70 : decode b_PR_years 70 = .ok (.iconst 1, 1) := by decide +kernel
theorem d_PR_years_71 : decode b_PR_years 71 = .ok (.goto 15, 3) := by decide +kernel
theorem d_PR_years_74 : decode b_PR_years 74 = .ok (.iload 4, 2) := by decide +kernel
theorem d_PR_years_76 : decode b_PR_years 76 = .ok (.bipush 8, 2) := by decide +kernel
theorem d_PR_years_78 : decode b_PR_years 78 = .ok (.if_icmp .ge 7, 3) := by decide +kernel
theorem d_PR_years_81 : decode b_PR_years 81 = .ok (.iconst 2, 1) := by decide +kernel
theorem d_PR_years_82 : decode b_PR_years 82 = .ok (.goto 4, 3) := by decide +kernel
theorem d_PR_years_85 : decode b_PR_years 85 = .ok (.iconst 0, 1) := by decide +kernel
theorem d_PR_years_86 : decode b_PR_years 86 = .ok (.istore 5, 2) := by decide +kernel
theorem d_PR_years_88 : decode b_PR_years 88 = .ok (.aload_n 0, 1) := by decide +kernel
theorem d_PR_years_89 : decode b_PR_years 89 = .ok (.aload_n 0, 1) := by decide +kernel
theorem d_PR_years_90 : decode b_PR_years 90 = .ok (.getfield 30, 3) := by decide +kernel
theorem d_PR_years_93 : decode b_PR_years 93 = .ok (.iload 5, 2) := by decide +kernel
theorem d_PR_years_95 : decode b_PR_years 95 = .ok (.iload 5, 2) := by decide +kernel
theorem d_PR_years_97 : decode b_PR_years 97 = .ok (.ifCond .ne 7, 3) := by decide +kernel
theorem d_PR_years_100 : decode b_PR_years 100 = .ok (.iconst 0, 1) := by decide +kernel
theorem d_PR_years_101 : decode b_PR_years 101 = .ok (.goto 7, 3) := by decide +kernel
theorem d_PR_years_104 : decode b_PR_years 104 = .ok (.iload 4, 2) := by decide +kernel
theorem d_PR_years_106 : decode b_PR_years 106 = .ok (.iconst 4, 1) := by decide +kernel
theorem d_PR_years_107 : decode b_PR_years 107 = .ok (.irem, 1) := by decide +kernel
theorem d_PR_years_108 : decode b_PR_years 108 = .ok (.invokevirtual 198, 3) := by decide +kernel
theorem d_PR_years_111 : decode b_PR_years 111 = .ok (.pop, 1) := by decide +kernel
theorem d_PR_years_112 : decode b_PR_years 112 = .ok (.iload_n 2, 1) := by decide +kernel
theorem d_PR_years_113 : decode b_PR_years 113 = .ok (.aload_n 0, 1) := by decide +kernel
theorem d_PR_years_114 : decode b_PR_years 114 = .ok (.getfield 30, 3) := by decide +kernel
theorem d_PR_years_117 : decode b_PR_years 117 = .ok (.invokevirtual 91, 3) := by decide +kernel
theorem d_PR_years_120 : decode b_PR_years 120 = .ok (.invokestatic 141, 3) := by decide +kernel
theorem d_PR_years_123 : decode b_PR_years 123 = .ok (.iadd, 1) := by decide +kernel
theorem d_PR_years_124 : decode b_PR_years 124 = .ok (.istore_n 2, 1) := by decide +kernel
theorem d_PR_years_125 : decode b_PR_years 125 = .ok (.iinc 3 1, 3) := by decide +kernel
theorem d_PR_years_128 : decode b_PR_years 128 = .ok (.goto (-99), 3) := by decide +kernel
theorem d_PR_years_131 : decode b_PR_years 131 = .ok (.iload_n 2, 1) := by decide +kernel
theorem d_PR_years_132 : decode b_PR_years 132 = .ok (.ireturn, 1) := by decide +kernel
theorem d_Hall_init_0 : decode b_Hall_init 0 = .ok (.aload_n 0, 1) := by decide +kernel
theorem d_Hall_init_1 : decode b_Hall_init 1 = .ok (.invokespecial 3, 3) := by decide +kernel
theorem d_Hall_init_4 : decode b_Hall_init 4 = .ok (.aload_n 0, 1) := by decide +kernel
theorem d_Hall_init_5 : decode b_Hall_init 5 = .ok (.bipush 12, 2) := by decide +kernel
theorem d_Hall_init_7 : decode b_Hall_init 7 = .ok (.newarray .int, 2) := by decide +kernel
theorem d_Hall_init_9 : decode b_Hall_init 9 = .ok (.putfield 9, 3) := by decide +kernel
theorem d_Hall_init_12 : decode b_Hall_init 12 = .ok (.aload_n 0, 1) := by decide +kernel
theorem d_Hall_init_13 : decode b_Hall_init 13 = .ok (.iconst 5, 1) := by decide +kernel
theorem d_Hall_init_14 : decode b_Hall_init 14 = .ok (.newarray .int, 2) := by decide +kernel
theorem d_Hall_init_16 : decode b_Hall_init 16 = .ok (.putfield 15, 3) := by decide +kernel
theorem d_Hall_init_19 : decode b_Hall_init 19 = .ok (.aload_n 0, 1) := by decide +kernel
theorem d_Hall_init_20 : decode b_Hall_init 20 = .ok (.iconst 5, 1) := by decide +kernel
theorem d_Hall_init_21 : decode b_Hall_init 21 = .ok (.newarray .int, 2) := by decide +kernel
theorem d_Hall_init_23 : decode b_Hall_init 23 = .ok (.putfield 18, 3) := by decide +kernel
theorem d_Hall_init_26 : decode b_Hall_init 26 = .ok (.aload_n 0, 1) := by decide +kernel
theorem d_Hall_init_27 : decode b_Hall_init 27 = .ok (.bipush 20, 2) := by decide +kernel
theorem d_Hall_init_29 : decode b_Hall_init 29 = .ok (.newarray .int, 2) := by decide +kernel
theorem d_Hall_init_31 : decode b_Hall_init 31 = .ok (.putfield 21, 3) := by decide +kernel
theorem d_Hall_init_34 : decode b_Hall_init 34 = .ok (.aload_n 0, 1) := by decide +kernel
theorem d_Hall_init_35 : decode b_Hall_init 35 = .ok (.iconst 0, 1) := by decide +kernel
theorem d_Hall_init_36 : decode b_Hall_init 36 = .ok (.putfield 24, 3) := by decide +kernel
theorem d_Hall_init_39 : decode b_Hall_init 39 = .ok (.return_, 1) := by decide +kernel

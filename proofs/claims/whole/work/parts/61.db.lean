theorem dX4_init_0 : decode cX4_init 0 = .ok (.aload_n 0, 1) := by decide +kernel
theorem dX4_init_1 : decode cX4_init 1 = .ok (.invokespecial 3, 3) := by decide +kernel
theorem dX4_init_4 : decode cX4_init 4 = .ok (.aload_n 0, 1) := by decide +kernel
theorem dX4_init_5 : decode cX4_init 5 = .ok (.bipush 9, 2) := by decide +kernel
theorem dX4_init_7 : decode cX4_init 7 = .ok (.newarray .int, 2) := by decide +kernel
theorem dX4_init_9 : decode cX4_init 9 = .ok (.putfield 9, 3) := by decide +kernel
theorem dX4_init_12 : decode cX4_init 12 = .ok (.aload_n 0, 1) := by decide +kernel
theorem dX4_init_13 : decode cX4_init 13 = .ok (.bipush 9, 2) := by decide +kernel
theorem dX4_init_15 : decode cX4_init 15 = .ok (.newarray .int, 2) := by decide +kernel
theorem dX4_init_17 : decode cX4_init 17 = .ok (.putfield 15, 3) := by decide +kernel
theorem dX4_init_20 : decode cX4_init 20 = .ok (.aload_n 0, 1) := by decide +kernel
theorem dX4_init_21 : decode cX4_init 21 = .ok (.sipush 135, 3) := by decide +kernel
theorem dX4_init_24 : decode cX4_init 24 = .ok (.newarray .int, 2) := by decide +kernel
theorem dX4_init_26 : decode cX4_init 26 = .ok (.putfield 18, 3) := by decide +kernel
theorem dX4_init_29 : decode cX4_init 29 = .ok (.aload_n 0, 1) := by decide +kernel
theorem dX4_init_30 : decode cX4_init 30 = .ok (.bipush 15, 2) := by decide +kernel
theorem dX4_init_32 : decode cX4_init 32 = .ok (.newarray .int, 2) := by decide +kernel
theorem dX4_init_34 : decode cX4_init 34 = .ok (.putfield 21, 3) := by decide +kernel
theorem dX4_init_37 : decode cX4_init 37 = .ok (.aload_n 0, 1) := by decide +kernel
theorem dX4_init_38 : decode cX4_init 38 = .ok (.bipush 15, 2) := by decide +kernel
theorem dX4_init_40 : decode cX4_init 40 = .ok (.newarray .int, 2) := by decide +kernel
theorem dX4_init_42 : decode cX4_init 42 = .ok (.putfield 24, 3) := by decide +kernel
theorem dX4_init_45 : decode cX4_init 45 = .ok (.aload_n 0, 1) := by decide +kernel
theorem dX4_init_46 : decode cX4_init 46 = .ok (.bipush 9, 2) := by decide +kernel
theorem dX4_init_48 : decode cX4_init 48 = .ok (.newarray .int, 2) := by decide +kernel
theorem dX4_init_50 : decode cX4_init 50 = .ok (.putfield 27, 3) := by decide +kernel
theorem dX4_init_53 : decode cX4_init 53 = .ok (.aload_n 0, 1) := by decide +kernel
theorem dX4_init_54 : decode cX4_init 54 = .ok (.bipush 9, 2) := by decide +kernel
theorem dX4_init_56 : decode cX4_init 56 = .ok (.newarray .int, 2) := by decide +kernel
theorem dX4_init_58 : decode cX4_init 58 = .ok (.putfield 30, 3) := by decide +kernel
theorem dX4_init_61 : decode cX4_init 61 = .ok (.aload_n 0, 1) := by decide +kernel
theorem dX4_init_62 : decode cX4_init 62 = .ok (.bipush 9, 2) := by decide +kernel
theorem dX4_init_64 : decode cX4_init 64 = .ok (.newarray .int, 2) := by decide +kernel
theorem dX4_init_66 : decode cX4_init 66 = .ok (.putfield 33, 3) := by decide +kernel
theorem dX4_init_69 : decode cX4_init 69 = .ok (.aload_n 0, 1) := by decide +kernel
theorem dX4_init_70 : decode cX4_init 70 = .ok (.bipush 9, 2) := by decide +kernel
theorem dX4_init_72 : decode cX4_init 72 = .ok (.newarray .int, 2) := by decide +kernel
theorem dX4_init_74 : decode cX4_init 74 = .ok (.putfield 36, 3) := by decide +kernel
theorem dX4_init_77 : decode cX4_init 77 = .ok (.return_, 1) := by decide +kernel
theorem dX4_accepts_0 : decode cX4_accepts 0 = .ok (.aload_n 1, 1) := by decide +kernel
theorem dX4_accepts_1 : decode cX4_accepts 1 = .ok (.iconst 0, 1) := by decide +kernel
theorem dX4_accepts_2 : decode cX4_accepts 2 = .ok (.aload_n 0, 1) := by decide +kernel
theorem dX4_accepts_3 : decode cX4_accepts 3 = .ok (.getfield 9, 3) := by decide +kernel
theorem dX4_accepts_6 : decode cX4_accepts 6 = .ok (.iconst 0, 1) := by decide +kernel
theorem dX4_accepts_7 : decode cX4_accepts 7 = .ok (.bipush 9, 2) := by decide +kernel
theorem dX4_accepts_9 : decode cX4_accepts 9 = .ok (.invokestatic 39, 3) := by decide +kernel
theorem dX4_accepts_12 : decode cX4_accepts 12 = .ok (.iconst 0, 1) := by decide +kernel
theorem dX4_accepts_13 : decode cX4_accepts 13 = .ok (.istore_n 2, 1) := by decide +kernel
theorem dX4_accepts_14 : decode cX4_accepts 14 = .ok (.iload_n 2, 1) := by decide +kernel
theorem dX4_accepts_15 : decode cX4_accepts 15 = .ok (.bipush 9, 2) := by decide +kernel
theorem dX4_accepts_17 : decode cX4_accepts 17 = .ok (.if_icmp .ge 71, 3) := by decide +kernel
theorem dX4_accepts_20 : decode cX4_accepts 20 = .ok (.aload_n 0, 1) := by decide +kernel
theorem dX4_accepts_21 : decode cX4_accepts 21 = .ok (.invokevirtual 45, 3) := by decide +kernel
theorem dX4_accepts_24 : decode cX4_accepts 24 = .ok (.aload_n 0, 1) := by decide +kernel
theorem dX4_accepts_25 : decode cX4_accepts 25 = .ok (.invokevirtual 48, 3) := by decide +kernel
theorem dX4_accepts_28 : decode cX4_accepts 28 = .ok (.bipush 9, 2) := by decide +kernel
theorem dX4_accepts_30 : decode cX4_accepts 30 = .ok (.if_icmp .lt 10, 3) := by decide +kernel
theorem dX4_accepts_33 : decode cX4_accepts 33 = .ok (.aload_n 0, 1) := by decide +kernel
theorem dX4_accepts_34 : decode cX4_accepts 34 = .ok (.invokevirtual 52, 3) := by decide +kernel
theorem dX4_accepts_37 : decode cX4_accepts 37 = .ok (.ifCond .ne 5, 3) := by decide +kernel
theorem dX4_accepts_40 : decode cX4_accepts 40 = .ok (.iconst 1, 1) := by decide +kernel
theorem dX4_accepts_41 : decode cX4_accepts 41 = .ok (.ireturn, 1) := by decide +kernel
theorem dX4_accepts_42 : decode cX4_accepts 42 = .ok (.aload_n 0, 1) := by decide +kernel
theorem dX4_accepts_43 : decode cX4_accepts 43 = .ok (.invokevirtual 56, 3) := by decide +kernel
theorem dX4_accepts_46 : decode cX4_accepts 46 = .ok (.ifCond .ne 5, 3) := by decide +kernel
theorem dX4_accepts_49 : decode cX4_accepts 49 = .ok (.iconst 0, 1) := by decide +kernel
theorem dX4_accepts_50 : decode cX4_accepts 50 = .ok (.ireturn, 1) := by decide +kernel
theorem dX4_accepts_51 : decode cX4_accepts 51 = .ok (.iconst 0, 1) := by decide +kernel
theorem dX4_accepts_52 : decode cX4_accepts 52 = .ok (.istore_n 3, 1) := by decide +kernel
theorem dX4_accepts_53 : decode cX4_accepts 53 = .ok (.iload_n 3, 1) := by decide +kernel
theorem dX4_accepts_54 : decode cX4_accepts 54 = .ok (.bipush 9, 2) := by decide +kernel
theorem dX4_accepts_56 : decode cX4_accepts 56 = .ok (.if_icmp .ge 26, 3) := by decide +kernel
theorem dX4_accepts_59 : decode cX4_accepts 59 = .ok (.aload_n 0, 1) := by decide +kernel
theorem dX4_accepts_60 : decode cX4_accepts 60 = .ok (.getfield 9, 3) := by decide +kernel
theorem dX4_accepts_63 : decode cX4_accepts 63 = .ok (.iload_n 3, 1) := by decide +kernel
theorem dX4_accepts_64 : decode cX4_accepts 64 = .ok (.dup2, 1) := by decide +kernel
theorem dX4_accepts_65 : decode cX4_accepts 65 = .ok (.iaload, 1) := by decide +kernel
theorem dX4_accepts_66 : decode cX4_accepts 66 = .ok (.aload_n 0, 1) := by decide +kernel
theorem dX4_accepts_67 : decode cX4_accepts 67 = .ok (.getfield 15, 3) := by decide +kernel
theorem dX4_accepts_70 : decode cX4_accepts 70 = .ok (.iload_n 3, 1) := by decide +kernel
theorem dX4_accepts_71 : decode cX4_accepts 71 = .ok (.iaload, 1) := by decide +kernel
theorem dX4_accepts_72 : decode cX4_accepts 72 = .ok (.iconst (-1), 1) := by decide +kernel
theorem dX4_accepts_73 : decode cX4_accepts 73 = .ok (.ixor, 1) := by decide +kernel
theorem dX4_accepts_74 : decode cX4_accepts 74 = .ok (.iand, 1) := by decide +kernel
theorem dX4_accepts_75 : decode cX4_accepts 75 = .ok (.iastore, 1) := by decide +kernel
theorem dX4_accepts_76 : decode cX4_accepts 76 = .ok (.iinc 3 1, 3) := by decide +kernel
theorem dX4_accepts_79 : decode cX4_accepts 79 = .ok (.goto (-26), 3) := by decide +kernel
theorem dX4_accepts_82 : decode cX4_accepts 82 = .ok (.iinc 2 1, 3) := by decide +kernel
theorem dX4_accepts_85 : decode cX4_accepts 85 = .ok (.goto (-71), 3) := by decide +kernel
theorem dX4_accepts_88 : decode cX4_accepts 88 = .ok (.iconst 1, 1) := by decide +kernel
theorem dX4_accepts_89 : decode cX4_accepts 89 = .ok (.ireturn, 1) := by decide +kernel
theorem dX4_reduce_0 : decode cX4_reduce 0 = .ok (.iconst 0, 1) := by decide +kernel
theorem dX4_reduce_1 : decode cX4_reduce 1 = .ok (.istore_n 1, 1) := by decide +kernel
theorem dX4_reduce_2 : decode cX4_reduce 2 = .ok (.iload_n 1, 1) := by decide +kernel
theorem dX4_reduce_3 : decode cX4_reduce 3 = .ok (.bipush 9, 2) := by decide +kernel
theorem dX4_reduce_5 : decode cX4_reduce 5 = .ok (.if_icmp .ge 59, 3) := by decide +kernel
theorem dX4_reduce_8 : decode cX4_reduce 8 = .ok (.iconst 0, 1) := by decide +kernel
theorem dX4_reduce_9 : decode cX4_reduce 9 = .ok (.istore_n 2, 1) := by decide +kernel
theorem dX4_reduce_10 : decode cX4_reduce 10 = .ok (.iconst 0, 1) := by decide +kernel
theorem dX4_reduce_11 : decode cX4_reduce 11 = .ok (.istore_n 3, 1) := by decide +kernel
theorem dX4_reduce_12 : decode cX4_reduce 12 = .ok (.iload_n 3, 1) := by decide +kernel
theorem dX4_reduce_13 : decode cX4_reduce 13 = .ok (.bipush 9, 2) := by decide +kernel
theorem dX4_reduce_15 : decode cX4_reduce 15 = .ok (.if_icmp .ge 38, 3) := by decide +kernel
theorem dX4_reduce_18 : decode cX4_reduce 18 = .ok (.aload_n 0, 1) := by decide +kernel
theorem dX4_reduce_19 : decode cX4_reduce 19 = .ok (.getfield 9, 3) := by decide +kernel
theorem dX4_reduce_22 : decode cX4_reduce 22 = .ok (.iload_n 3, 1) := by decide +kernel
theorem dX4_reduce_23 : decode cX4_reduce 23 = .ok (.iaload, 1) := by decide +kernel
theorem dX4_reduce_24 : decode cX4_reduce 24 = .ok (.ifCond .eq 23, 3) := by decide +kernel
theorem dX4_reduce_27 : decode cX4_reduce 27 = .ok (.aload_n 0, 1) := by decide +kernel
theorem dX4_reduce_28 : decode cX4_reduce 28 = .ok (.getfield 9, 3) := by decide +kernel
theorem dX4_reduce_31 : decode cX4_reduce 31 = .ok (.iload_n 3, 1) := by decide +kernel
theorem dX4_reduce_32 : decode cX4_reduce 32 = .ok (.iaload, 1) := by decide +kernel
theorem dX4_reduce_33 : decode cX4_reduce 33 = .ok (.invokestatic 59, 3) := by decide +kernel
theorem dX4_reduce_36 : decode cX4_reduce 36 = .ok (.iconst 2, 1) := by decide +kernel
theorem dX4_reduce_37 : decode cX4_reduce 37 = .ok (.if_icmp .gt 10, 3) := by decide +kernel
theorem dX4_reduce_40 : decode cX4_reduce 40 = .ok (.aload_n 0, 1) := by decide +kernel
theorem dX4_reduce_41 : decode cX4_reduce 41 = .ok (.iload_n 3, 1) := by decide +kernel
theorem dX4_reduce_42 : decode cX4_reduce 42 = .ok (.invokevirtual 65, 3) := by decide +kernel
theorem dX4_reduce_45 : decode cX4_reduce 45 = .ok (.iconst 1, 1) := by decide +kernel
theorem dX4_reduce_46 : decode cX4_reduce 46 = .ok (.istore_n 2, 1) := by decide +kernel
theorem dX4_reduce_47 : decode cX4_reduce 47 = .ok (.iinc 3 1, 3) := by decide +kernel
theorem dX4_reduce_50 : decode cX4_reduce 50 = .ok (.goto (-38), 3) := by decide +kernel
theorem dX4_reduce_53 : decode cX4_reduce 53 = .ok (.iload_n 2, 1) := by decide +kernel
theorem dX4_reduce_54 : decode cX4_reduce 54 = .ok (.ifCond .ne 4, 3) := by decide +kernel
theorem dX4_reduce_57 : decode cX4_reduce 57 = .ok (.return_, 1) := by decide +kernel
theorem dX4_reduce_58 : decode cX4_reduce 58 = .ok (.iinc 1 1, 3) := by decide +kernel
theorem dX4_reduce_61 : decode cX4_reduce 61 = .ok (.goto (-59), 3) := by decide +kernel
theorem dX4_reduce_64 : decode cX4_reduce 64 = .ok (.return_, 1) := by decide +kernel
theorem dX4_countEdges_0 : decode cX4_countEdges 0 = .ok (.iconst 0, 1) := by decide +kernel
theorem dX4_countEdges_1 : decode cX4_countEdges 1 = .ok (.istore_n 1, 1) := by decide +kernel
theorem dX4_countEdges_2 : decode cX4_countEdges 2 = .ok (.iconst 0, 1) := by decide +kernel
theorem dX4_countEdges_3 : decode cX4_countEdges 3 = .ok (.istore_n 2, 1) := by decide +kernel
theorem dX4_countEdges_4 : decode cX4_countEdges 4 = .ok (.iload_n 2, 1) := by decide +kernel
theorem dX4_countEdges_5 : decode cX4_countEdges 5 = .ok (.bipush 9, 2) := by decide +kernel
theorem dX4_countEdges_7 : decode cX4_countEdges 7 = .ok (.if_icmp .ge 21, 3) := by decide +kernel
theorem dX4_countEdges_10 : decode cX4_countEdges 10 = .ok (.iload_n 1, 1) := by decide +kernel
theorem dX4_countEdges_11 : decode cX4_countEdges 11 = .ok (.aload_n 0, 1) := by decide +kernel
theorem dX4_countEdges_12 : decode cX4_countEdges 12 = .ok (.getfield 9, 3) := by decide +kernel
theorem dX4_countEdges_15 : decode cX4_countEdges 15 = .ok (.iload_n 2, 1) := by decide +kernel
theorem dX4_countEdges_16 : decode cX4_countEdges 16 = .ok (.iaload, 1) := by decide +kernel
theorem dX4_countEdges_17 : decode cX4_countEdges 17 = .ok (.invokestatic 59, 3) := by decide +kernel
theorem dX4_countEdges_20 : decode cX4_countEdges 20 = .ok (.iadd, 1) := by decide +kernel
theorem dX4_countEdges_21 : decode cX4_countEdges 21 = .ok (.istore_n 1, 1) := by decide +kernel
theorem dX4_countEdges_22 : decode cX4_countEdges 22 = .ok (.iinc 2 1, 3) := by decide +kernel
theorem dX4_countEdges_25 : decode cX4_countEdges 25 = .ok (.goto (-21), 3) := by decide +kernel
theorem dX4_countEdges_28 : decode cX4_countEdges 28 = .ok (.iload_n 1, 1) := by decide +kernel
theorem dX4_countEdges_29 : decode cX4_countEdges 29 = .ok (.iconst 2, 1) := by decide +kernel
theorem dX4_countEdges_30 : decode cX4_countEdges 30 = .ok (.idiv, 1) := by decide +kernel
theorem dX4_countEdges_31 : decode cX4_countEdges 31 = .ok (.ireturn, 1) := by decide +kernel
theorem dX4_bridgeOver_0 : decode cX4_bridgeOver 0 = .ok (.aload_n 0, 1) := by decide +kernel
theorem dX4_bridgeOver_1 : decode cX4_bridgeOver 1 = .ok (.getfield 9, 3) := by decide +kernel
theorem dX4_bridgeOver_4 : decode cX4_bridgeOver 4 = .ok (.iload_n 1, 1) := by decide +kernel
theorem dX4_bridgeOver_5 : decode cX4_bridgeOver 5 = .ok (.iaload, 1) := by decide +kernel
theorem dX4_bridgeOver_6 : decode cX4_bridgeOver 6 = .ok (.istore_n 2, 1) := by decide +kernel
theorem dX4_bridgeOver_7 : decode cX4_bridgeOver 7 = .ok (.aload_n 0, 1) := by decide +kernel
theorem dX4_bridgeOver_8 : decode cX4_bridgeOver 8 = .ok (.getfield 9, 3) := by decide +kernel
theorem dX4_bridgeOver_11 : decode cX4_bridgeOver 11 = .ok (.iload_n 1, 1) := by decide +kernel
theorem dX4_bridgeOver_12 : decode cX4_bridgeOver 12 = .ok (.iconst 0, 1) := by decide +kernel
theorem dX4_bridgeOver_13 : decode cX4_bridgeOver 13 = .ok (.iastore, 1) := by decide +kernel
theorem dX4_bridgeOver_14 : decode cX4_bridgeOver 14 = .ok (.iconst 0, 1) := by decide +kernel
theorem dX4_bridgeOver_15 : decode cX4_bridgeOver 15 = .ok (.istore_n 3, 1) := by decide +kernel
theorem dX4_bridgeOver_16 : decode cX4_bridgeOver 16 = .ok (.iload_n 3, 1) := by decide +kernel
theorem dX4_bridgeOver_17 : decode cX4_bridgeOver 17 = .ok (.bipush 9, 2) := by decide +kernel
theorem dX4_bridgeOver_19 : decode cX4_bridgeOver 19 = .ok (.if_icmp .ge 45, 3) := by decide +kernel
theorem dX4_bridgeOver_22 : decode cX4_bridgeOver 22 = .ok (.iload_n 2, 1) := by decide +kernel
theorem dX4_bridgeOver_23 : decode cX4_bridgeOver 23 = .ok (.iload_n 3, 1) := by decide +kernel
theorem dX4_bridgeOver_24 : decode cX4_bridgeOver 24 = .ok (.invokestatic 69, 3) := by decide +kernel
theorem dX4_bridgeOver_27 : decode cX4_bridgeOver 27 = .ok (.ifCond .eq 31, 3) := by decide +kernel
theorem dX4_bridgeOver_30 : decode cX4_bridgeOver 30 = .ok (.aload_n 0, 1) := by decide +kernel
theorem dX4_bridgeOver_31 : decode cX4_bridgeOver 31 = .ok (.getfield 9, 3) := by decide +kernel
theorem dX4_bridgeOver_34 : decode cX4_bridgeOver 34 = .ok (.iload_n 3, 1) := by decide +kernel
theorem dX4_bridgeOver_35 : decode cX4_bridgeOver 35 = .ok (.aload_n 0, 1) := by decide +kernel
theorem dX4_bridgeOver_36 : decode cX4_bridgeOver 36 = .ok (.getfield 9, 3) := by decide +kernel
theorem dX4_bridgeOver_39 : decode cX4_bridgeOver 39 = .ok (.iload_n 3, 1) := by decide +kernel
theorem dX4_bridgeOver_40 : decode cX4_bridgeOver 40 = .ok (.iaload, 1) := by decide +kernel
theorem dX4_bridgeOver_41 : decode cX4_bridgeOver 41 = .ok (.iload_n 1, 1) := by decide +kernel
theorem dX4_bridgeOver_42 : decode cX4_bridgeOver 42 = .ok (.invokestatic 73, 3) := by decide +kernel
theorem dX4_bridgeOver_45 : decode cX4_bridgeOver 45 = .ok (.iconst (-1), 1) := by decide +kernel
theorem dX4_bridgeOver_46 : decode cX4_bridgeOver 46 = .ok (.ixor, 1) := by decide +kernel
theorem dX4_bridgeOver_47 : decode cX4_bridgeOver 47 = .ok (.iand, 1) := by decide +kernel
theorem dX4_bridgeOver_48 : decode cX4_bridgeOver 48 = .ok (.iload_n 2, 1) := by decide +kernel
theorem dX4_bridgeOver_49 : decode cX4_bridgeOver 49 = .ok (.iload_n 3, 1) := by decide +kernel
theorem dX4_bridgeOver_50 : decode cX4_bridgeOver 50 = .ok (.invokestatic 73, 3) := by decide +kernel
theorem dX4_bridgeOver_53 : decode cX4_bridgeOver 53 = .ok (.iconst (-1), 1) := by decide +kernel
theorem dX4_bridgeOver_54 : decode cX4_bridgeOver 54 = .ok (.ixor, 1) := by decide +kernel
theorem dX4_bridgeOver_55 : decode cX4_bridgeOver 55 = .ok (.iand, 1) := by decide +kernel
theorem dX4_bridgeOver_56 : decode cX4_bridgeOver 56 = .ok (.ior, 1) := by decide +kernel
theorem dX4_bridgeOver_57 : decode cX4_bridgeOver 57 = .ok (.iastore, 1) := by decide +kernel
theorem dX4_bridgeOver_58 : decode cX4_bridgeOver 58 = .ok (.iinc 3 1, 3) := by decide +kernel
theorem dX4_bridgeOver_61 : decode cX4_bridgeOver 61 = .ok (.goto (-45), 3) := by decide +kernel
theorem dX4_bridgeOver_64 : decode cX4_bridgeOver 64 = .ok (.return_, 1) := by decide +kernel
theorem dX4_findCycle_0 : decode cX4_findCycle 0 = .ok (.iconst (-1), 1) := by decide +kernel
theorem dX4_findCycle_1 : decode cX4_findCycle 1 = .ok (.aload_n 0, 1) := by decide +kernel
theorem dX4_findCycle_2 : decode cX4_findCycle 2 = .ok (.getfield 9, 3) := by decide +kernel
theorem dX4_findCycle_5 : decode cX4_findCycle 5 = .ok (.invokestatic 76, 3) := by decide +kernel
theorem dX4_findCycle_8 : decode cX4_findCycle 8 = .ok (.invokestatic 80, 3) := by decide +kernel
theorem dX4_findCycle_11 : decode cX4_findCycle 11 = .ok (.istore_n 1, 1) := by decide +kernel
theorem dX4_findCycle_12 : decode cX4_findCycle 12 = .ok (.iconst 0, 1) := by decide +kernel
theorem dX4_findCycle_13 : decode cX4_findCycle 13 = .ok (.istore_n 2, 1) := by decide +kernel
theorem dX4_findCycle_14 : decode cX4_findCycle 14 = .ok (.iconst 0, 1) := by decide +kernel
theorem dX4_findCycle_15 : decode cX4_findCycle 15 = .ok (.istore_n 3, 1) := by decide +kernel
theorem dX4_findCycle_16 : decode cX4_findCycle 16 = .ok (.aload_n 0, 1) := by decide +kernel
theorem dX4_findCycle_17 : decode cX4_findCycle 17 = .ok (.iconst 0, 1) := by decide +kernel
theorem dX4_findCycle_18 : decode cX4_findCycle 18 = .ok (.putfield 83, 3) := by decide +kernel
theorem dX4_findCycle_21 : decode cX4_findCycle 21 = .ok (.iconst 0, 1) := by decide +kernel
theorem dX4_findCycle_22 : decode cX4_findCycle 22 = .ok (.istore 4, 2) := by decide +kernel
theorem dX4_findCycle_24 : decode cX4_findCycle 24 = .ok (.iload 4, 2) := by decide +kernel
theorem dX4_findCycle_26 : decode cX4_findCycle 26 = .ok (.bipush 9, 2) := by decide +kernel
theorem dX4_findCycle_28 : decode cX4_findCycle 28 = .ok (.if_icmp .ge 67, 3) := by decide +kernel
theorem dX4_findCycle_31 : decode cX4_findCycle 31 = .ok (.iload_n 1, 1) := by decide +kernel
theorem dX4_findCycle_32 : decode cX4_findCycle 32 = .ok (.ifCond .lt 63, 3) := by decide +kernel
theorem dX4_findCycle_35 : decode cX4_findCycle 35 = .ok (.iload_n 2, 1) := by decide +kernel
theorem dX4_findCycle_36 : decode cX4_findCycle 36 = .ok (.iload_n 1, 1) := by decide +kernel
theorem dX4_findCycle_37 : decode cX4_findCycle 37 = .ok (.invokestatic 69, 3) := by decide +kernel
theorem dX4_findCycle_40 : decode cX4_findCycle 40 = .ok (.ifCond .ne 55, 3) := by decide +kernel
theorem dX4_findCycle_43 : decode cX4_findCycle 43 = .ok (.aload_n 0, 1) := by decide +kernel
theorem dX4_findCycle_44 : decode cX4_findCycle 44 = .ok (.getfield 30, 3) := by decide +kernel
theorem dX4_findCycle_47 : decode cX4_findCycle 47 = .ok (.iload 4, 2) := by decide +kernel
theorem dX4_findCycle_49 : decode cX4_findCycle 49 = .ok (.iload_n 1, 1) := by decide +kernel
theorem dX4_findCycle_50 : decode cX4_findCycle 50 = .ok (.iastore, 1) := by decide +kernel
theorem dX4_findCycle_51 : decode cX4_findCycle 51 = .ok (.aload_n 0, 1) := by decide +kernel
theorem dX4_findCycle_52 : decode cX4_findCycle 52 = .ok (.iload 4, 2) := by decide +kernel
theorem dX4_findCycle_54 : decode cX4_findCycle 54 = .ok (.iconst 1, 1) := by decide +kernel
theorem dX4_findCycle_55 : decode cX4_findCycle 55 = .ok (.iadd, 1) := by decide +kernel
theorem dX4_findCycle_56 : decode cX4_findCycle 56 = .ok (.putfield 83, 3) := by decide +kernel
theorem dX4_findCycle_59 : decode cX4_findCycle 59 = .ok (.iload_n 2, 1) := by decide +kernel
theorem dX4_findCycle_60 : decode cX4_findCycle 60 = .ok (.iload_n 1, 1) := by decide +kernel
theorem dX4_findCycle_61 : decode cX4_findCycle 61 = .ok (.invokestatic 73, 3) := by decide +kernel
theorem dX4_findCycle_64 : decode cX4_findCycle 64 = .ok (.ior, 1) := by decide +kernel
theorem dX4_findCycle_65 : decode cX4_findCycle 65 = .ok (.istore_n 2, 1) := by decide +kernel
theorem dX4_findCycle_66 : decode cX4_findCycle 66 = .ok (.aload_n 0, 1) := by decide +kernel
theorem dX4_findCycle_67 : decode cX4_findCycle 67 = .ok (.getfield 9, 3) := by decide +kernel
theorem dX4_findCycle_70 : decode cX4_findCycle 70 = .ok (.iload_n 1, 1) := by decide +kernel
theorem dX4_findCycle_71 : decode cX4_findCycle 71 = .ok (.iaload, 1) := by decide +kernel
theorem dX4_findCycle_72 : decode cX4_findCycle 72 = .ok (.iload_n 3, 1) := by decide +kernel
theorem dX4_findCycle_73 : decode cX4_findCycle 73 = .ok (.iconst (-1), 1) := by decide +kernel
theorem dX4_findCycle_74 : decode cX4_findCycle 74 = .ok (.ixor, 1) := by decide +kernel
theorem dX4_findCycle_75 : decode cX4_findCycle 75 = .ok (.iand, 1) := by decide +kernel
theorem dX4_findCycle_76 : decode cX4_findCycle 76 = .ok (.invokestatic 80, 3) := by decide +kernel
theorem dX4_findCycle_79 : decode cX4_findCycle 79 = .ok (.istore 5, 2) := by decide +kernel
theorem dX4_findCycle_81 : decode cX4_findCycle 81 = .ok (.iload_n 1, 1) := by decide +kernel
theorem dX4_findCycle_82 : decode cX4_findCycle 82 = .ok (.invokestatic 73, 3) := by decide +kernel
theorem dX4_findCycle_85 : decode cX4_findCycle 85 = .ok (.istore_n 3, 1) := by decide +kernel
theorem dX4_findCycle_86 : decode cX4_findCycle 86 = .ok (.iload 5, 2) := by decide +kernel
theorem dX4_findCycle_88 : decode cX4_findCycle 88 = .ok (.istore_n 1, 1) := by decide +kernel
theorem dX4_findCycle_89 : decode cX4_findCycle 89 = .ok (.iinc 4 1, 3) := by decide +kernel
theorem dX4_findCycle_92 : decode cX4_findCycle 92 = .ok (.goto (-68), 3) := by decide +kernel
theorem dX4_findCycle_95 : decode cX4_findCycle 95 = .ok (.iload_n 1, 1) := by decide +kernel
theorem dX4_findCycle_96 : decode cX4_findCycle 96 = .ok (.ifCond .lt 11, 3) := by decide +kernel
theorem dX4_findCycle_99 : decode cX4_findCycle 99 = .ok (.iload_n 2, 1) := by decide +kernel
theorem dX4_findCycle_100 : decode cX4_findCycle 100 = .ok (.iload_n 1, 1) := by decide +kernel
theorem dX4_findCycle_101 : decode cX4_findCycle 101 = .ok (.invokestatic 69, 3) := by decide +kernel
theorem dX4_findCycle_104 : decode cX4_findCycle 104 = .ok (.ifCond .ne 5, 3) := by decide +kernel
theorem dX4_findCycle_107 : decode cX4_findCycle 107 = .ok (.iconst 0, 1) := by decide +kernel
theorem dX4_findCycle_108 : decode cX4_findCycle 108 = .ok (.ireturn, 1) := by decide +kernel
theorem dX4_findCycle_109 : decode cX4_findCycle 109 = .ok (.aload_n 0, 1) := by decide +kernel
theorem dX4_findCycle_110 : decode cX4_findCycle 110 = .ok (.iload_n 1, 1) := by decide +kernel
theorem dX4_findCycle_111 : decode cX4_findCycle 111 = .ok (.invokevirtual 87, 3) := by decide +kernel
theorem dX4_findCycle_114 : decode cX4_findCycle 114 = .ok (.iconst 1, 1) := by decide +kernel
theorem dX4_findCycle_115 : decode cX4_findCycle 115 = .ok (.ireturn, 1) := by decide +kernel
theorem dX4_cutPathBefore_0 : decode cX4_cutPathBefore 0 = .ok (.iconst 0, 1) := by decide +kernel
theorem dX4_cutPathBefore_1 : decode cX4_cutPathBefore 1 = .ok (.istore_n 2, 1) := by decide +kernel
theorem dX4_cutPathBefore_2 : decode cX4_cutPathBefore 2 = .ok (.iconst 0, 1) := by decide +kernel
theorem dX4_cutPathBefore_3 : decode cX4_cutPathBefore 3 = .ok (.istore_n 3, 1) := by decide +kernel
theorem dX4_cutPathBefore_4 : decode cX4_cutPathBefore 4 = .ok (.iconst 0, 1) := by decide +kernel
theorem dX4_cutPathBefore_5 : decode cX4_cutPathBefore 5 = .ok (.istore 4, 2) := by decide +kernel
theorem dX4_cutPathBefore_7 : decode cX4_cutPathBefore 7 = .ok (.iload 4, 2) := by decide +kernel
theorem dX4_cutPathBefore_9 : decode cX4_cutPathBefore 9 = .ok (.aload_n 0, 1) := by decide +kernel
theorem dX4_cutPathBefore_10 : decode cX4_cutPathBefore 10 = .ok (.getfield 83, 3) := by decide +kernel
theorem dX4_cutPathBefore_13 : decode cX4_cutPathBefore 13 = .ok (.if_icmp .ge 50, 3) := by decide +kernel
theorem dX4_cutPathBefore_16 : decode cX4_cutPathBefore 16 = .ok (.iload_n 3, 1) := by decide +kernel
theorem dX4_cutPathBefore_17 : decode cX4_cutPathBefore 17 = .ok (.ifCond .ne 14, 3) := by decide +kernel
theorem dX4_cutPathBefore_20 : decode cX4_cutPathBefore 20 = .ok (.aload_n 0, 1) := by decide +kernel
theorem dX4_cutPathBefore_21 : decode cX4_cutPathBefore 21 = .ok (.getfield 30, 3) := by decide +kernel
theorem dX4_cutPathBefore_24 : decode cX4_cutPathBefore 24 = .ok (.iload 4, 2) := by decide +kernel
theorem dX4_cutPathBefore_26 : decode cX4_cutPathBefore 26 = .ok (.iaload, 1) := by decide +kernel
theorem dX4_cutPathBefore_27 : decode cX4_cutPathBefore 27 = .ok (.iload_n 1, 1) := by decide +kernel
theorem dX4_cutPathBefore_28 : decode cX4_cutPathBefore 28 = .ok (.if_icmp .ne 7, 3) := by decide +kernel
theorem dX4_cutPathBefore_31 : decode cX4_cutPathBefore 31 = .ok (.iconst 1, 1) := by decide +kernel
theorem dX4_cutPathBefore_32 : decode cX4_cutPathBefore 32 = .ok (.goto 4, 3) := by decide +kernel
theorem dX4_cutPathBefore_35 : decode cX4_cutPathBefore 35 = .ok (.iconst 0, 1) := by decide +kernel
theorem dX4_cutPathBefore_36 : decode cX4_cutPathBefore 36 = .ok (.istore_n 3, 1) := by decide +kernel
theorem dX4_cutPathBefore_37 : decode cX4_cutPathBefore 37 = .ok (.iload_n 3, 1) := by decide +kernel
theorem dX4_cutPathBefore_38 : decode cX4_cutPathBefore 38 = .ok (.ifCond .eq 19, 3) := by decide +kernel
theorem dX4_cutPathBefore_41 : decode cX4_cutPathBefore 41 = .ok (.aload_n 0, 1) := by decide +kernel
theorem dX4_cutPathBefore_42 : decode cX4_cutPathBefore 42 = .ok (.getfield 30, 3) := by decide +kernel
theorem dX4_cutPathBefore_45 : decode cX4_cutPathBefore 45 = .ok (.iload_n 2, 1) := by decide +kernel
theorem dX4_cutPathBefore_46 : decode cX4_cutPathBefore 46 = .ok (.aload_n 0, 1) := by decide +kernel
theorem dX4_cutPathBefore_47 : decode cX4_cutPathBefore 47 = .ok (.getfield 30, 3) := by decide +kernel
theorem dX4_cutPathBefore_50 : decode cX4_cutPathBefore 50 = .ok (.iload 4, 2) := by decide +kernel
theorem dX4_cutPathBefore_52 : decode cX4_cutPathBefore 52 = .ok (.iaload, 1) := by decide +kernel
theorem dX4_cutPathBefore_53 : decode cX4_cutPathBefore 53 = .ok (.iastore, 1) := by decide +kernel
theorem dX4_cutPathBefore_54 : decode cX4_cutPathBefore 54 = .ok (.iinc 2 1, 3) := by decide +kernel
theorem dX4_cutPathBefore_57 : decode cX4_cutPathBefore 57 = .ok (.iinc 4 1, 3) := by decide +kernel
theorem dX4_cutPathBefore_60 : decode cX4_cutPathBefore 60 = .ok (.goto (-53), 3) := by decide +kernel
theorem dX4_cutPathBefore_63 : decode cX4_cutPathBefore 63 = .ok (.aload_n 0, 1) := by decide +kernel
theorem dX4_cutPathBefore_64 : decode cX4_cutPathBefore 64 = .ok (.iload_n 2, 1) := by decide +kernel
theorem dX4_cutPathBefore_65 : decode cX4_cutPathBefore 65 = .ok (.putfield 83, 3) := by decide +kernel
theorem dX4_cutPathBefore_68 : decode cX4_cutPathBefore 68 = .ok (.return_, 1) := by decide +kernel
theorem dX4_sketchBlock_0 : decode cX4_sketchBlock 0 = .ok (.aload_n 0, 1) := by decide +kernel
theorem dX4_sketchBlock_1 : decode cX4_sketchBlock 1 = .ok (.invokevirtual 90, 3) := by decide +kernel
theorem dX4_sketchBlock_4 : decode cX4_sketchBlock 4 = .ok (.aload_n 0, 1) := by decide +kernel
theorem dX4_sketchBlock_5 : decode cX4_sketchBlock 5 = .ok (.getfield 93, 3) := by decide +kernel
theorem dX4_sketchBlock_8 : decode cX4_sketchBlock 8 = .ok (.istore_n 1, 1) := by decide +kernel
theorem dX4_sketchBlock_9 : decode cX4_sketchBlock 9 = .ok (.iload_n 1, 1) := by decide +kernel
theorem dX4_sketchBlock_10 : decode cX4_sketchBlock 10 = .ok (.bipush 15, 2) := by decide +kernel
theorem dX4_sketchBlock_12 : decode cX4_sketchBlock 12 = .ok (.if_icmp .ge 55, 3) := by decide +kernel
theorem dX4_sketchBlock_15 : decode cX4_sketchBlock 15 = .ok (.aload_n 0, 1) := by decide +kernel
theorem dX4_sketchBlock_16 : decode cX4_sketchBlock 16 = .ok (.iconst 0, 1) := by decide +kernel
theorem dX4_sketchBlock_17 : decode cX4_sketchBlock 17 = .ok (.putfield 96, 3) := by decide +kernel
theorem dX4_sketchBlock_20 : decode cX4_sketchBlock 20 = .ok (.aload_n 0, 1) := by decide +kernel
theorem dX4_sketchBlock_21 : decode cX4_sketchBlock 21 = .ok (.invokevirtual 99, 3) := by decide +kernel
theorem dX4_sketchBlock_24 : decode cX4_sketchBlock 24 = .ok (.ifCond .eq 10, 3) := by decide +kernel
theorem dX4_sketchBlock_27 : decode cX4_sketchBlock 27 = .ok (.aload_n 0, 1) := by decide +kernel
theorem dX4_sketchBlock_28 : decode cX4_sketchBlock 28 = .ok (.invokevirtual 102, 3) := by decide +kernel
theorem dX4_sketchBlock_31 : decode cX4_sketchBlock 31 = .ok (.ifCond .ne 5, 3) := by decide +kernel
theorem dX4_sketchBlock_34 : decode cX4_sketchBlock 34 = .ok (.iconst 0, 1) := by decide +kernel
theorem dX4_sketchBlock_35 : decode cX4_sketchBlock 35 = .ok (.ireturn, 1) := by decide +kernel
theorem dX4_sketchBlock_36 : decode cX4_sketchBlock 36 = .ok (.aload_n 0, 1) := by decide +kernel
theorem dX4_sketchBlock_37 : decode cX4_sketchBlock 37 = .ok (.getfield 96, 3) := by decide +kernel
theorem dX4_sketchBlock_40 : decode cX4_sketchBlock 40 = .ok (.invokestatic 59, 3) := by decide +kernel
theorem dX4_sketchBlock_43 : decode cX4_sketchBlock 43 = .ok (.iconst 2, 1) := by decide +kernel
theorem dX4_sketchBlock_44 : decode cX4_sketchBlock 44 = .ok (.if_icmp .ge 5, 3) := by decide +kernel
theorem dX4_sketchBlock_47 : decode cX4_sketchBlock 47 = .ok (.iconst 1, 1) := by decide +kernel
theorem dX4_sketchBlock_48 : decode cX4_sketchBlock 48 = .ok (.ireturn, 1) := by decide +kernel
theorem dX4_sketchBlock_49 : decode cX4_sketchBlock 49 = .ok (.aload_n 0, 1) := by decide +kernel
theorem dX4_sketchBlock_50 : decode cX4_sketchBlock 50 = .ok (.invokevirtual 105, 3) := by decide +kernel
theorem dX4_sketchBlock_53 : decode cX4_sketchBlock 53 = .ok (.aload_n 0, 1) := by decide +kernel
theorem dX4_sketchBlock_54 : decode cX4_sketchBlock 54 = .ok (.invokevirtual 108, 3) := by decide +kernel
theorem dX4_sketchBlock_57 : decode cX4_sketchBlock 57 = .ok (.aload_n 0, 1) := by decide +kernel
theorem dX4_sketchBlock_58 : decode cX4_sketchBlock 58 = .ok (.invokevirtual 111, 3) := by decide +kernel
theorem dX4_sketchBlock_61 : decode cX4_sketchBlock 61 = .ok (.iinc 1 1, 3) := by decide +kernel
theorem dX4_sketchBlock_64 : decode cX4_sketchBlock 64 = .ok (.goto (-55), 3) := by decide +kernel
theorem dX4_sketchBlock_67 : decode cX4_sketchBlock 67 = .ok (.iconst 1, 1) := by decide +kernel
theorem dX4_sketchBlock_68 : decode cX4_sketchBlock 68 = .ok (.ireturn, 1) := by decide +kernel
theorem dX4_startSketch_0 : decode cX4_startSketch 0 = .ok (.aload_n 0, 1) := by decide +kernel
theorem dX4_startSketch_1 : decode cX4_startSketch 1 = .ok (.getfield 15, 3) := by decide +kernel
theorem dX4_startSketch_4 : decode cX4_startSketch 4 = .ok (.iconst 0, 1) := by decide +kernel
theorem dX4_startSketch_5 : decode cX4_startSketch 5 = .ok (.invokestatic 114, 3) := by decide +kernel
theorem dX4_startSketch_8 : decode cX4_startSketch 8 = .ok (.aload_n 0, 1) := by decide +kernel
theorem dX4_startSketch_9 : decode cX4_startSketch 9 = .ok (.iconst 0, 1) := by decide +kernel
theorem dX4_startSketch_10 : decode cX4_startSketch 10 = .ok (.putfield 120, 3) := by decide +kernel
theorem dX4_startSketch_13 : decode cX4_startSketch 13 = .ok (.aload_n 0, 1) := by decide +kernel
theorem dX4_startSketch_14 : decode cX4_startSketch 14 = .ok (.invokevirtual 111, 3) := by decide +kernel
theorem dX4_startSketch_17 : decode cX4_startSketch 17 = .ok (.aload_n 0, 1) := by decide +kernel
theorem dX4_startSketch_18 : decode cX4_startSketch 18 = .ok (.getfield 15, 3) := by decide +kernel
theorem dX4_startSketch_21 : decode cX4_startSketch 21 = .ok (.aload_n 0, 1) := by decide +kernel
theorem dX4_startSketch_22 : decode cX4_startSketch 22 = .ok (.getfield 30, 3) := by decide +kernel
theorem dX4_startSketch_25 : decode cX4_startSketch 25 = .ok (.iconst 0, 1) := by decide +kernel
theorem dX4_startSketch_26 : decode cX4_startSketch 26 = .ok (.iaload, 1) := by decide +kernel
theorem dX4_startSketch_27 : decode cX4_startSketch 27 = .ok (.aload_n 0, 1) := by decide +kernel
theorem dX4_startSketch_28 : decode cX4_startSketch 28 = .ok (.getfield 30, 3) := by decide +kernel
theorem dX4_startSketch_31 : decode cX4_startSketch 31 = .ok (.aload_n 0, 1) := by decide +kernel
theorem dX4_startSketch_32 : decode cX4_startSketch 32 = .ok (.getfield 83, 3) := by decide +kernel
theorem dX4_startSketch_35 : decode cX4_startSketch 35 = .ok (.iconst 1, 1) := by decide +kernel
theorem dX4_startSketch_36 : decode cX4_startSketch 36 = .ok (.isub, 1) := by decide +kernel
theorem dX4_startSketch_37 : decode cX4_startSketch 37 = .ok (.iaload, 1) := by decide +kernel
theorem dX4_startSketch_38 : decode cX4_startSketch 38 = .ok (.invokestatic 123, 3) := by decide +kernel
theorem dX4_startSketch_41 : decode cX4_startSketch 41 = .ok (.aload_n 0, 1) := by decide +kernel
theorem dX4_startSketch_42 : decode cX4_startSketch 42 = .ok (.iconst 2, 1) := by decide +kernel
theorem dX4_startSketch_43 : decode cX4_startSketch 43 = .ok (.putfield 93, 3) := by decide +kernel
theorem dX4_startSketch_46 : decode cX4_startSketch 46 = .ok (.iconst 0, 1) := by decide +kernel
theorem dX4_startSketch_47 : decode cX4_startSketch 47 = .ok (.istore_n 1, 1) := by decide +kernel
theorem dX4_startSketch_48 : decode cX4_startSketch 48 = .ok (.iload_n 1, 1) := by decide +kernel
theorem dX4_startSketch_49 : decode cX4_startSketch 49 = .ok (.aload_n 0, 1) := by decide +kernel
theorem dX4_startSketch_50 : decode cX4_startSketch 50 = .ok (.getfield 93, 3) := by decide +kernel
theorem dX4_startSketch_53 : decode cX4_startSketch 53 = .ok (.if_icmp .ge 49, 3) := by decide +kernel
theorem dX4_startSketch_56 : decode cX4_startSketch 56 = .ok (.aload_n 0, 1) := by decide +kernel
theorem dX4_startSketch_57 : decode cX4_startSketch 57 = .ok (.getfield 30, 3) := by decide +kernel
theorem dX4_startSketch_60 : decode cX4_startSketch 60 = .ok (.iconst 0, 1) := by decide +kernel
theorem dX4_startSketch_61 : decode cX4_startSketch 61 = .ok (.aload_n 0, 1) := by decide +kernel
theorem dX4_startSketch_62 : decode cX4_startSketch 62 = .ok (.getfield 18, 3) := by decide +kernel
theorem dX4_startSketch_65 : decode cX4_startSketch 65 = .ok (.iload_n 1, 1) := by decide +kernel
theorem dX4_startSketch_66 : decode cX4_startSketch 66 = .ok (.bipush 9, 2) := by decide +kernel
theorem dX4_startSketch_68 : decode cX4_startSketch 68 = .ok (.imul, 1) := by decide +kernel
theorem dX4_startSketch_69 : decode cX4_startSketch 69 = .ok (.aload_n 0, 1) := by decide +kernel
theorem dX4_startSketch_70 : decode cX4_startSketch 70 = .ok (.getfield 83, 3) := by decide +kernel
theorem dX4_startSketch_73 : decode cX4_startSketch 73 = .ok (.invokestatic 39, 3) := by decide +kernel
theorem dX4_startSketch_76 : decode cX4_startSketch 76 = .ok (.aload_n 0, 1) := by decide +kernel
theorem dX4_startSketch_77 : decode cX4_startSketch 77 = .ok (.getfield 21, 3) := by decide +kernel
theorem dX4_startSketch_80 : decode cX4_startSketch 80 = .ok (.iload_n 1, 1) := by decide +kernel
theorem dX4_startSketch_81 : decode cX4_startSketch 81 = .ok (.aload_n 0, 1) := by decide +kernel
theorem dX4_startSketch_82 : decode cX4_startSketch 82 = .ok (.getfield 83, 3) := by decide +kernel
theorem dX4_startSketch_85 : decode cX4_startSketch 85 = .ok (.iastore, 1) := by decide +kernel
theorem dX4_startSketch_86 : decode cX4_startSketch 86 = .ok (.aload_n 0, 1) := by decide +kernel
theorem dX4_startSketch_87 : decode cX4_startSketch 87 = .ok (.getfield 24, 3) := by decide +kernel
theorem dX4_startSketch_90 : decode cX4_startSketch 90 = .ok (.iload_n 1, 1) := by decide +kernel
theorem dX4_startSketch_91 : decode cX4_startSketch 91 = .ok (.aload_n 0, 1) := by decide +kernel
theorem dX4_startSketch_92 : decode cX4_startSketch 92 = .ok (.getfield 120, 3) := by decide +kernel
theorem dX4_startSketch_95 : decode cX4_startSketch 95 = .ok (.iastore, 1) := by decide +kernel
theorem dX4_startSketch_96 : decode cX4_startSketch 96 = .ok (.iinc 1 1, 3) := by decide +kernel
theorem dX4_startSketch_99 : decode cX4_startSketch 99 = .ok (.goto (-51), 3) := by decide +kernel
theorem dX4_startSketch_102 : decode cX4_startSketch 102 = .ok (.return_, 1) := by decide +kernel
theorem dX4_drawPath_0 : decode cX4_drawPath 0 = .ok (.iconst 0, 1) := by decide +kernel
theorem dX4_drawPath_1 : decode cX4_drawPath 1 = .ok (.istore_n 1, 1) := by decide +kernel
theorem dX4_drawPath_2 : decode cX4_drawPath 2 = .ok (.iload_n 1, 1) := by decide +kernel
theorem dX4_drawPath_3 : decode cX4_drawPath 3 = .ok (.aload_n 0, 1) := by decide +kernel
theorem dX4_drawPath_4 : decode cX4_drawPath 4 = .ok (.getfield 83, 3) := by decide +kernel
theorem dX4_drawPath_7 : decode cX4_drawPath 7 = .ok (.if_icmp .ge 52, 3) := by decide +kernel
theorem dX4_drawPath_10 : decode cX4_drawPath 10 = .ok (.aload_n 0, 1) := by decide +kernel
theorem dX4_drawPath_11 : decode cX4_drawPath 11 = .ok (.dup, 1) := by decide +kernel
theorem dX4_drawPath_12 : decode cX4_drawPath 12 = .ok (.getfield 120, 3) := by decide +kernel
theorem dX4_drawPath_15 : decode cX4_drawPath 15 = .ok (.aload_n 0, 1) := by decide +kernel
theorem dX4_drawPath_16 : decode cX4_drawPath 16 = .ok (.getfield 30, 3) := by decide +kernel
theorem dX4_drawPath_19 : decode cX4_drawPath 19 = .ok (.iload_n 1, 1) := by decide +kernel
theorem dX4_drawPath_20 : decode cX4_drawPath 20 = .ok (.iaload, 1) := by decide +kernel
theorem dX4_drawPath_21 : decode cX4_drawPath 21 = .ok (.invokestatic 73, 3) := by decide +kernel
theorem dX4_drawPath_24 : decode cX4_drawPath 24 = .ok (.ior, 1) := by decide +kernel
theorem dX4_drawPath_25 : decode cX4_drawPath 25 = .ok (.putfield 120, 3) := by decide +kernel
theorem dX4_drawPath_28 : decode cX4_drawPath 28 = .ok (.iload_n 1, 1) := by decide +kernel
theorem dX4_drawPath_29 : decode cX4_drawPath 29 = .ok (.ifCond .le 24, 3) := by decide +kernel
theorem dX4_drawPath_32 : decode cX4_drawPath 32 = .ok (.aload_n 0, 1) := by decide +kernel
theorem dX4_drawPath_33 : decode cX4_drawPath 33 = .ok (.getfield 15, 3) := by decide +kernel
theorem dX4_drawPath_36 : decode cX4_drawPath 36 = .ok (.aload_n 0, 1) := by decide +kernel
theorem dX4_drawPath_37 : decode cX4_drawPath 37 = .ok (.getfield 30, 3) := by decide +kernel
theorem dX4_drawPath_40 : decode cX4_drawPath 40 = .ok (.iload_n 1, 1) := by decide +kernel
theorem dX4_drawPath_41 : decode cX4_drawPath 41 = .ok (.iconst 1, 1) := by decide +kernel
theorem dX4_drawPath_42 : decode cX4_drawPath 42 = .ok (.isub, 1) := by decide +kernel
theorem dX4_drawPath_43 : decode cX4_drawPath 43 = .ok (.iaload, 1) := by decide +kernel
theorem dX4_drawPath_44 : decode cX4_drawPath 44 = .ok (.aload_n 0, 1) := by decide +kernel
theorem dX4_drawPath_45 : decode cX4_drawPath 45 = .ok (.getfield 30, 3) := by decide +kernel
theorem dX4_drawPath_48 : decode cX4_drawPath 48 = .ok (.iload_n 1, 1) := by decide +kernel
theorem dX4_drawPath_49 : decode cX4_drawPath 49 = .ok (.iaload, 1) := by decide +kernel
theorem dX4_drawPath_50 : decode cX4_drawPath 50 = .ok (.invokestatic 123, 3) := by decide +kernel
theorem dX4_drawPath_53 : decode cX4_drawPath 53 = .ok (.iinc 1 1, 3) := by decide +kernel
theorem dX4_drawPath_56 : decode cX4_drawPath 56 = .ok (.goto (-54), 3) := by decide +kernel
theorem dX4_drawPath_59 : decode cX4_drawPath 59 = .ok (.return_, 1) := by decide +kernel
theorem dX4_weighEdges_0 : decode cX4_weighEdges 0 = .ok (.iconst 0, 1) := by decide +kernel
theorem dX4_weighEdges_1 : decode cX4_weighEdges 1 = .ok (.istore_n 1, 1) := by decide +kernel
theorem dX4_weighEdges_2 : decode cX4_weighEdges 2 = .ok (.iload_n 1, 1) := by decide +kernel
theorem dX4_weighEdges_3 : decode cX4_weighEdges 3 = .ok (.bipush 9, 2) := by decide +kernel
theorem dX4_weighEdges_5 : decode cX4_weighEdges 5 = .ok (.if_icmp .ge 88, 3) := by decide +kernel
theorem dX4_weighEdges_8 : decode cX4_weighEdges 8 = .ok (.aload_n 0, 1) := by decide +kernel
theorem dX4_weighEdges_9 : decode cX4_weighEdges 9 = .ok (.getfield 120, 3) := by decide +kernel
theorem dX4_weighEdges_12 : decode cX4_weighEdges 12 = .ok (.iload_n 1, 1) := by decide +kernel
theorem dX4_weighEdges_13 : decode cX4_weighEdges 13 = .ok (.invokestatic 69, 3) := by decide +kernel
theorem dX4_weighEdges_16 : decode cX4_weighEdges 16 = .ok (.ifCond .eq 26, 3) := by decide +kernel
theorem dX4_weighEdges_19 : decode cX4_weighEdges 19 = .ok (.aload_n 0, 1) := by decide +kernel
theorem dX4_weighEdges_20 : decode cX4_weighEdges 20 = .ok (.getfield 9, 3) := by decide +kernel
theorem dX4_weighEdges_23 : decode cX4_weighEdges 23 = .ok (.iload_n 1, 1) := by decide +kernel
theorem dX4_weighEdges_24 : decode cX4_weighEdges 24 = .ok (.iaload, 1) := by decide +kernel
theorem dX4_weighEdges_25 : decode cX4_weighEdges 25 = .ok (.aload_n 0, 1) := by decide +kernel
theorem dX4_weighEdges_26 : decode cX4_weighEdges 26 = .ok (.getfield 120, 3) := by decide +kernel
theorem dX4_weighEdges_29 : decode cX4_weighEdges 29 = .ok (.iand, 1) := by decide +kernel
theorem dX4_weighEdges_30 : decode cX4_weighEdges 30 = .ok (.aload_n 0, 1) := by decide +kernel
theorem dX4_weighEdges_31 : decode cX4_weighEdges 31 = .ok (.getfield 15, 3) := by decide +kernel
theorem dX4_weighEdges_34 : decode cX4_weighEdges 34 = .ok (.iload_n 1, 1) := by decide +kernel
theorem dX4_weighEdges_35 : decode cX4_weighEdges 35 = .ok (.iaload, 1) := by decide +kernel
theorem dX4_weighEdges_36 : decode cX4_weighEdges 36 = .ok (.iconst (-1), 1) := by decide +kernel
theorem dX4_weighEdges_37 : decode cX4_weighEdges 37 = .ok (.ixor, 1) := by decide +kernel
theorem dX4_weighEdges_38 : decode cX4_weighEdges 38 = .ok (.iand, 1) := by decide +kernel
theorem dX4_weighEdges_39 : decode cX4_weighEdges 39 = .ok (.goto 4, 3) := by decide +kernel
theorem dX4_weighEdges_42 : decode cX4_weighEdges 42 = .ok (.iconst 0, 1) := by decide +kernel
theorem dX4_weighEdges_43 : decode cX4_weighEdges 43 = .ok (.istore_n 2, 1) := by decide +kernel
theorem dX4_weighEdges_44 : decode cX4_weighEdges 44 = .ok (.iload_n 1, 1) := by decide +kernel
theorem dX4_weighEdges_45 : decode cX4_weighEdges 45 = .ok (.iconst 1, 1) := by decide +kernel
theorem dX4_weighEdges_46 : decode cX4_weighEdges 46 = .ok (.iadd, 1) := by decide +kernel
theorem dX4_weighEdges_47 : decode cX4_weighEdges 47 = .ok (.istore_n 3, 1) := by decide +kernel
theorem dX4_weighEdges_48 : decode cX4_weighEdges 48 = .ok (.iload_n 3, 1) := by decide +kernel
theorem dX4_weighEdges_49 : decode cX4_weighEdges 49 = .ok (.bipush 9, 2) := by decide +kernel
theorem dX4_weighEdges_51 : decode cX4_weighEdges 51 = .ok (.if_icmp .ge 36, 3) := by decide +kernel
theorem dX4_weighEdges_54 : decode cX4_weighEdges 54 = .ok (.iload_n 2, 1) := by decide +kernel
theorem dX4_weighEdges_55 : decode cX4_weighEdges 55 = .ok (.iload_n 3, 1) := by decide +kernel
theorem dX4_weighEdges_56 : decode cX4_weighEdges 56 = .ok (.invokestatic 69, 3) := by decide +kernel
theorem dX4_weighEdges_59 : decode cX4_weighEdges 59 = .ok (.ifCond .eq 22, 3) := by decide +kernel
theorem dX4_weighEdges_62 : decode cX4_weighEdges 62 = .ok (.aload_n 0, 1) := by decide +kernel
theorem dX4_weighEdges_63 : decode cX4_weighEdges 63 = .ok (.iconst 0, 1) := by decide +kernel
theorem dX4_weighEdges_64 : decode cX4_weighEdges 64 = .ok (.iload_n 1, 1) := by decide +kernel
theorem dX4_weighEdges_65 : decode cX4_weighEdges 65 = .ok (.invokestatic 73, 3) := by decide +kernel
theorem dX4_weighEdges_68 : decode cX4_weighEdges 68 = .ok (.iload_n 3, 1) := by decide +kernel
theorem dX4_weighEdges_69 : decode cX4_weighEdges 69 = .ok (.invokestatic 73, 3) := by decide +kernel
theorem dX4_weighEdges_72 : decode cX4_weighEdges 72 = .ok (.ior, 1) := by decide +kernel
theorem dX4_weighEdges_73 : decode cX4_weighEdges 73 = .ok (.invokevirtual 127, 3) := by decide +kernel
theorem dX4_weighEdges_76 : decode cX4_weighEdges 76 = .ok (.ifCond .ne 5, 3) := by decide +kernel
theorem dX4_weighEdges_79 : decode cX4_weighEdges 79 = .ok (.iconst 0, 1) := by decide +kernel
theorem dX4_weighEdges_80 : decode cX4_weighEdges 80 = .ok (.ireturn, 1) := by decide +kernel
theorem dX4_weighEdges_81 : decode cX4_weighEdges 81 = .ok (.iinc 3 1, 3) := by decide +kernel
theorem dX4_weighEdges_84 : decode cX4_weighEdges 84 = .ok (.goto (-36), 3) := by decide +kernel
theorem dX4_weighEdges_87 : decode cX4_weighEdges 87 = .ok (.iinc 1 1, 3) := by decide +kernel
theorem dX4_weighEdges_90 : decode cX4_weighEdges 90 = .ok (.goto (-88), 3) := by decide +kernel
theorem dX4_weighEdges_93 : decode cX4_weighEdges 93 = .ok (.iconst 1, 1) := by decide +kernel
theorem dX4_weighEdges_94 : decode cX4_weighEdges 94 = .ok (.ireturn, 1) := by decide +kernel
theorem dX4_weighParts_0 : decode cX4_weighParts 0 = .ok (.aload_n 0, 1) := by decide +kernel
theorem dX4_weighParts_1 : decode cX4_weighParts 1 = .ok (.getfield 120, 3) := by decide +kernel
theorem dX4_weighParts_4 : decode cX4_weighParts 4 = .ok (.istore_n 1, 1) := by decide +kernel
theorem dX4_weighParts_5 : decode cX4_weighParts 5 = .ok (.iconst 0, 1) := by decide +kernel
theorem dX4_weighParts_6 : decode cX4_weighParts 6 = .ok (.istore_n 2, 1) := by decide +kernel
theorem dX4_weighParts_7 : decode cX4_weighParts 7 = .ok (.iload_n 2, 1) := by decide +kernel
theorem dX4_weighParts_8 : decode cX4_weighParts 8 = .ok (.bipush 9, 2) := by decide +kernel
theorem dX4_weighParts_10 : decode cX4_weighParts 10 = .ok (.if_icmp .ge 72, 3) := by decide +kernel
theorem dX4_weighParts_13 : decode cX4_weighParts 13 = .ok (.iload_n 1, 1) := by decide +kernel
theorem dX4_weighParts_14 : decode cX4_weighParts 14 = .ok (.iload_n 2, 1) := by decide +kernel
theorem dX4_weighParts_15 : decode cX4_weighParts 15 = .ok (.invokestatic 69, 3) := by decide +kernel
theorem dX4_weighParts_18 : decode cX4_weighParts 18 = .ok (.ifCond .ne 58, 3) := by decide +kernel
theorem dX4_weighParts_21 : decode cX4_weighParts 21 = .ok (.iload_n 2, 1) := by decide +kernel
theorem dX4_weighParts_22 : decode cX4_weighParts 22 = .ok (.aload_n 0, 1) := by decide +kernel
theorem dX4_weighParts_23 : decode cX4_weighParts 23 = .ok (.getfield 120, 3) := by decide +kernel
theorem dX4_weighParts_26 : decode cX4_weighParts 26 = .ok (.iconst (-1), 1) := by decide +kernel
theorem dX4_weighParts_27 : decode cX4_weighParts 27 = .ok (.ixor, 1) := by decide +kernel
theorem dX4_weighParts_28 : decode cX4_weighParts 28 = .ok (.aload_n 0, 1) := by decide +kernel
theorem dX4_weighParts_29 : decode cX4_weighParts 29 = .ok (.getfield 9, 3) := by decide +kernel
theorem dX4_weighParts_32 : decode cX4_weighParts 32 = .ok (.invokestatic 130, 3) := by decide +kernel
theorem dX4_weighParts_35 : decode cX4_weighParts 35 = .ok (.istore_n 3, 1) := by decide +kernel
theorem dX4_weighParts_36 : decode cX4_weighParts 36 = .ok (.iload_n 3, 1) := by decide +kernel
theorem dX4_weighParts_37 : decode cX4_weighParts 37 = .ok (.aload_n 0, 1) := by decide +kernel
theorem dX4_weighParts_38 : decode cX4_weighParts 38 = .ok (.getfield 9, 3) := by decide +kernel
theorem dX4_weighParts_41 : decode cX4_weighParts 41 = .ok (.invokestatic 76, 3) := by decide +kernel
theorem dX4_weighParts_44 : decode cX4_weighParts 44 = .ok (.aload_n 0, 1) := by decide +kernel
theorem dX4_weighParts_45 : decode cX4_weighParts 45 = .ok (.getfield 120, 3) := by decide +kernel
theorem dX4_weighParts_48 : decode cX4_weighParts 48 = .ok (.iand, 1) := by decide +kernel
theorem dX4_weighParts_49 : decode cX4_weighParts 49 = .ok (.istore 4, 2) := by decide +kernel
theorem dX4_weighParts_51 : decode cX4_weighParts 51 = .ok (.iload_n 1, 1) := by decide +kernel
theorem dX4_weighParts_52 : decode cX4_weighParts 52 = .ok (.iload_n 3, 1) := by decide +kernel
theorem dX4_weighParts_53 : decode cX4_weighParts 53 = .ok (.ior, 1) := by decide +kernel
theorem dX4_weighParts_54 : decode cX4_weighParts 54 = .ok (.istore_n 1, 1) := by decide +kernel
theorem dX4_weighParts_55 : decode cX4_weighParts 55 = .ok (.iload 4, 2) := by decide +kernel
theorem dX4_weighParts_57 : decode cX4_weighParts 57 = .ok (.invokestatic 59, 3) := by decide +kernel
theorem dX4_weighParts_60 : decode cX4_weighParts 60 = .ok (.iconst 2, 1) := by decide +kernel
theorem dX4_weighParts_61 : decode cX4_weighParts 61 = .ok (.if_icmp .lt 15, 3) := by decide +kernel
theorem dX4_weighParts_64 : decode cX4_weighParts 64 = .ok (.aload_n 0, 1) := by decide +kernel
theorem dX4_weighParts_65 : decode cX4_weighParts 65 = .ok (.iload_n 3, 1) := by decide +kernel
theorem dX4_weighParts_66 : decode cX4_weighParts 66 = .ok (.iload 4, 2) := by decide +kernel
theorem dX4_weighParts_68 : decode cX4_weighParts 68 = .ok (.invokevirtual 127, 3) := by decide +kernel
theorem dX4_weighParts_71 : decode cX4_weighParts 71 = .ok (.ifCond .ne 5, 3) := by decide +kernel
theorem dX4_weighParts_74 : decode cX4_weighParts 74 = .ok (.iconst 0, 1) := by decide +kernel
theorem dX4_weighParts_75 : decode cX4_weighParts 75 = .ok (.ireturn, 1) := by decide +kernel
theorem dX4_weighParts_76 : decode cX4_weighParts 76 = .ok (.iinc 2 1, 3) := by decide +kernel
theorem dX4_weighParts_79 : decode cX4_weighParts 79 = .ok (.goto (-72), 3) := by decide +kernel
theorem dX4_weighParts_82 : decode cX4_weighParts 82 = .ok (.iconst 1, 1) := by decide +kernel
theorem dX4_weighParts_83 : decode cX4_weighParts 83 = .ok (.ireturn, 1) := by decide +kernel
theorem dX4_weigh_0 : decode cX4_weigh 0 = .ok (.iconst 0, 1) := by decide +kernel
theorem dX4_weigh_1 : decode cX4_weigh 1 = .ok (.istore_n 3, 1) := by decide +kernel
theorem dX4_weigh_2 : decode cX4_weigh 2 = .ok (.iconst 0, 1) := by decide +kernel
theorem dX4_weigh_3 : decode cX4_weigh 3 = .ok (.istore 4, 2) := by decide +kernel
theorem dX4_weigh_5 : decode cX4_weigh 5 = .ok (.iconst 0, 1) := by decide +kernel
theorem dX4_weigh_6 : decode cX4_weigh 6 = .ok (.istore 5, 2) := by decide +kernel
theorem dX4_weigh_8 : decode cX4_weigh 8 = .ok (.iload 5, 2) := by decide +kernel
theorem dX4_weigh_10 : decode cX4_weigh 10 = .ok (.aload_n 0, 1) := by decide +kernel
theorem dX4_weigh_11 : decode cX4_weigh 11 = .ok (.getfield 93, 3) := by decide +kernel
theorem dX4_weigh_14 : decode cX4_weigh 14 = .ok (.if_icmp .ge 30, 3) := by decide +kernel
theorem dX4_weigh_17 : decode cX4_weigh 17 = .ok (.iload_n 2, 1) := by decide +kernel
theorem dX4_weigh_18 : decode cX4_weigh 18 = .ok (.aload_n 0, 1) := by decide +kernel
theorem dX4_weigh_19 : decode cX4_weigh 19 = .ok (.getfield 24, 3) := by decide +kernel
theorem dX4_weigh_22 : decode cX4_weigh 22 = .ok (.iload 5, 2) := by decide +kernel
theorem dX4_weigh_24 : decode cX4_weigh 24 = .ok (.iaload, 1) := by decide +kernel
theorem dX4_weigh_25 : decode cX4_weigh 25 = .ok (.iconst (-1), 1) := by decide +kernel
theorem dX4_weigh_26 : decode cX4_weigh 26 = .ok (.ixor, 1) := by decide +kernel
theorem dX4_weigh_27 : decode cX4_weigh 27 = .ok (.iand, 1) := by decide +kernel
theorem dX4_weigh_28 : decode cX4_weigh 28 = .ok (.ifCond .ne 10, 3) := by decide +kernel
theorem dX4_weigh_31 : decode cX4_weigh 31 = .ok (.iinc 3 1, 3) := by decide +kernel
theorem dX4_weigh_34 : decode cX4_weigh 34 = .ok (.iload 5, 2) := by decide +kernel
theorem dX4_weigh_36 : decode cX4_weigh 36 = .ok (.istore 4, 2) := by decide +kernel
theorem dX4_weigh_38 : decode cX4_weigh 38 = .ok (.iinc 5 1, 3) := by decide +kernel
theorem dX4_weigh_41 : decode cX4_weigh 41 = .ok (.goto (-33), 3) := by decide +kernel
theorem dX4_weigh_44 : decode cX4_weigh 44 = .ok (.aload_n 0, 1) := by decide +kernel
theorem dX4_weigh_45 : decode cX4_weigh 45 = .ok (.getfield 96, 3) := by decide +kernel
theorem dX4_weigh_48 : decode cX4_weigh 48 = .ok (.ifCond .eq 11, 3) := by decide +kernel
theorem dX4_weigh_51 : decode cX4_weigh 51 = .ok (.iload_n 3, 1) := by decide +kernel
theorem dX4_weigh_52 : decode cX4_weigh 52 = .ok (.aload_n 0, 1) := by decide +kernel
theorem dX4_weigh_53 : decode cX4_weigh 53 = .ok (.getfield 134, 3) := by decide +kernel
theorem dX4_weigh_56 : decode cX4_weigh 56 = .ok (.if_icmp .ge 24, 3) := by decide +kernel
theorem dX4_weigh_59 : decode cX4_weigh 59 = .ok (.aload_n 0, 1) := by decide +kernel
theorem dX4_weigh_60 : decode cX4_weigh 60 = .ok (.iload_n 1, 1) := by decide +kernel
theorem dX4_weigh_61 : decode cX4_weigh 61 = .ok (.putfield 137, 3) := by decide +kernel
theorem dX4_weigh_64 : decode cX4_weigh 64 = .ok (.aload_n 0, 1) := by decide +kernel
theorem dX4_weigh_65 : decode cX4_weigh 65 = .ok (.iload_n 2, 1) := by decide +kernel
theorem dX4_weigh_66 : decode cX4_weigh 66 = .ok (.putfield 96, 3) := by decide +kernel
theorem dX4_weigh_69 : decode cX4_weigh 69 = .ok (.aload_n 0, 1) := by decide +kernel
theorem dX4_weigh_70 : decode cX4_weigh 70 = .ok (.iload 4, 2) := by decide +kernel
theorem dX4_weigh_72 : decode cX4_weigh 72 = .ok (.putfield 140, 3) := by decide +kernel
theorem dX4_weigh_75 : decode cX4_weigh 75 = .ok (.aload_n 0, 1) := by decide +kernel
theorem dX4_weigh_76 : decode cX4_weigh 76 = .ok (.iload_n 3, 1) := by decide +kernel
theorem dX4_weigh_77 : decode cX4_weigh 77 = .ok (.putfield 134, 3) := by decide +kernel
theorem dX4_weigh_80 : decode cX4_weigh 80 = .ok (.iload_n 3, 1) := by decide +kernel
theorem dX4_weigh_81 : decode cX4_weigh 81 = .ok (.ifCond .le 7, 3) := by decide +kernel
theorem dX4_weigh_84 : decode cX4_weigh 84 = .ok (.iconst 1, 1) := by decide +kernel
theorem dX4_weigh_85 : decode cX4_weigh 85 = .ok (.goto 4, 3) := by decide +kernel
theorem dX4_weigh_88 : decode cX4_weigh 88 = .ok (.iconst 0, 1) := by decide +kernel
theorem dX4_weigh_89 : decode cX4_weigh 89 = .ok (.ireturn, 1) := by decide +kernel
theorem dX4_findPath_0 : decode cX4_findPath 0 = .ok (.aload_n 0, 1) := by decide +kernel
theorem dX4_findPath_1 : decode cX4_findPath 1 = .ok (.getfield 96, 3) := by decide +kernel
theorem dX4_findPath_4 : decode cX4_findPath 4 = .ok (.invokestatic 80, 3) := by decide +kernel
theorem dX4_findPath_7 : decode cX4_findPath 7 = .ok (.istore_n 1, 1) := by decide +kernel
theorem dX4_findPath_8 : decode cX4_findPath 8 = .ok (.aload_n 0, 1) := by decide +kernel
theorem dX4_findPath_9 : decode cX4_findPath 9 = .ok (.getfield 96, 3) := by decide +kernel
theorem dX4_findPath_12 : decode cX4_findPath 12 = .ok (.iload_n 1, 1) := by decide +kernel
theorem dX4_findPath_13 : decode cX4_findPath 13 = .ok (.invokestatic 73, 3) := by decide +kernel
theorem dX4_findPath_16 : decode cX4_findPath 16 = .ok (.iconst (-1), 1) := by decide +kernel
theorem dX4_findPath_17 : decode cX4_findPath 17 = .ok (.ixor, 1) := by decide +kernel
theorem dX4_findPath_18 : decode cX4_findPath 18 = .ok (.iand, 1) := by decide +kernel
theorem dX4_findPath_19 : decode cX4_findPath 19 = .ok (.istore_n 2, 1) := by decide +kernel
theorem dX4_findPath_20 : decode cX4_findPath 20 = .ok (.aload_n 0, 1) := by decide +kernel
theorem dX4_findPath_21 : decode cX4_findPath 21 = .ok (.getfield 137, 3) := by decide +kernel
theorem dX4_findPath_24 : decode cX4_findPath 24 = .ok (.ifCond .ne 26, 3) := by decide +kernel
theorem dX4_findPath_27 : decode cX4_findPath 27 = .ok (.aload_n 0, 1) := by decide +kernel
theorem dX4_findPath_28 : decode cX4_findPath 28 = .ok (.getfield 30, 3) := by decide +kernel
theorem dX4_findPath_31 : decode cX4_findPath 31 = .ok (.iconst 0, 1) := by decide +kernel
theorem dX4_findPath_32 : decode cX4_findPath 32 = .ok (.iload_n 1, 1) := by decide +kernel
theorem dX4_findPath_33 : decode cX4_findPath 33 = .ok (.iastore, 1) := by decide +kernel
theorem dX4_findPath_34 : decode cX4_findPath 34 = .ok (.aload_n 0, 1) := by decide +kernel
theorem dX4_findPath_35 : decode cX4_findPath 35 = .ok (.getfield 30, 3) := by decide +kernel
theorem dX4_findPath_38 : decode cX4_findPath 38 = .ok (.iconst 1, 1) := by decide +kernel
theorem dX4_findPath_39 : decode cX4_findPath 39 = .ok (.iload_n 2, 1) := by decide +kernel
theorem dX4_findPath_40 : decode cX4_findPath 40 = .ok (.invokestatic 80, 3) := by decide +kernel
theorem dX4_findPath_43 : decode cX4_findPath 43 = .ok (.iastore, 1) := by decide +kernel
theorem dX4_findPath_44 : decode cX4_findPath 44 = .ok (.aload_n 0, 1) := by decide +kernel
theorem dX4_findPath_45 : decode cX4_findPath 45 = .ok (.iconst 2, 1) := by decide +kernel
theorem dX4_findPath_46 : decode cX4_findPath 46 = .ok (.putfield 83, 3) := by decide +kernel
theorem dX4_findPath_49 : decode cX4_findPath 49 = .ok (.return_, 1) := by decide +kernel
theorem dX4_findPath_50 : decode cX4_findPath 50 = .ok (.aload_n 0, 1) := by decide +kernel
theorem dX4_findPath_51 : decode cX4_findPath 51 = .ok (.getfield 33, 3) := by decide +kernel
theorem dX4_findPath_54 : decode cX4_findPath 54 = .ok (.iconst 0, 1) := by decide +kernel
theorem dX4_findPath_55 : decode cX4_findPath 55 = .ok (.iload_n 1, 1) := by decide +kernel
theorem dX4_findPath_56 : decode cX4_findPath 56 = .ok (.iastore, 1) := by decide +kernel
theorem dX4_findPath_57 : decode cX4_findPath 57 = .ok (.iconst 1, 1) := by decide +kernel
theorem dX4_findPath_58 : decode cX4_findPath 58 = .ok (.istore_n 3, 1) := by decide +kernel
theorem dX4_findPath_59 : decode cX4_findPath 59 = .ok (.iload_n 1, 1) := by decide +kernel
theorem dX4_findPath_60 : decode cX4_findPath 60 = .ok (.invokestatic 73, 3) := by decide +kernel
theorem dX4_findPath_63 : decode cX4_findPath 63 = .ok (.istore 4, 2) := by decide +kernel
theorem dX4_findPath_65 : decode cX4_findPath 65 = .ok (.iconst 0, 1) := by decide +kernel
theorem dX4_findPath_66 : decode cX4_findPath 66 = .ok (.istore 5, 2) := by decide +kernel
theorem dX4_findPath_68 : decode cX4_findPath 68 = .ok (.iload 5, 2) := by decide +kernel
theorem dX4_findPath_70 : decode cX4_findPath 70 = .ok (.iload_n 3, 1) := by decide +kernel
theorem dX4_findPath_71 : decode cX4_findPath 71 = .ok (.if_icmp .ge 140, 3) := by decide +kernel
theorem dX4_findPath_74 : decode cX4_findPath 74 = .ok (.iload 5, 2) := by decide +kernel
theorem dX4_findPath_76 : decode cX4_findPath 76 = .ok (.bipush 9, 2) := by decide +kernel
theorem dX4_findPath_78 : decode cX4_findPath 78 = .ok (.if_icmp .ge 133, 3) := by decide +kernel
theorem dX4_findPath_81 : decode cX4_findPath 81 = .ok (.aload_n 0, 1) := by decide +kernel
theorem dX4_findPath_82 : decode cX4_findPath 82 = .ok (.getfield 33, 3) := by decide +kernel
theorem dX4_findPath_85 : decode cX4_findPath 85 = .ok (.iload 5, 2) := by decide +kernel
theorem dX4_findPath_87 : decode cX4_findPath 87 = .ok (.iaload, 1) := by decide +kernel
theorem dX4_findPath_88 : decode cX4_findPath 88 = .ok (.istore 6, 2) := by decide +kernel
theorem dX4_findPath_90 : decode cX4_findPath 90 = .ok (.iload 6, 2) := by decide +kernel
theorem dX4_findPath_92 : decode cX4_findPath 92 = .ok (.iload_n 1, 1) := by decide +kernel
theorem dX4_findPath_93 : decode cX4_findPath 93 = .ok (.if_icmp .eq 35, 3) := by decide +kernel
theorem dX4_findPath_96 : decode cX4_findPath 96 = .ok (.aload_n 0, 1) := by decide +kernel
theorem dX4_findPath_97 : decode cX4_findPath 97 = .ok (.getfield 9, 3) := by decide +kernel
theorem dX4_findPath_100 : decode cX4_findPath 100 = .ok (.iload 6, 2) := by decide +kernel
theorem dX4_findPath_102 : decode cX4_findPath 102 = .ok (.iaload, 1) := by decide +kernel
theorem dX4_findPath_103 : decode cX4_findPath 103 = .ok (.iload_n 2, 1) := by decide +kernel
theorem dX4_findPath_104 : decode cX4_findPath 104 = .ok (.iand, 1) := by decide +kernel
theorem dX4_findPath_105 : decode cX4_findPath 105 = .ok (.ifCond .eq 23, 3) := by decide +kernel
theorem dX4_findPath_108 : decode cX4_findPath 108 = .ok (.aload_n 0, 1) := by decide +kernel
theorem dX4_findPath_109 : decode cX4_findPath 109 = .ok (.aload_n 0, 1) := by decide +kernel
theorem dX4_findPath_110 : decode cX4_findPath 110 = .ok (.getfield 9, 3) := by decide +kernel
theorem dX4_findPath_113 : decode cX4_findPath 113 = .ok (.iload 6, 2) := by decide +kernel
theorem dX4_findPath_115 : decode cX4_findPath 115 = .ok (.iaload, 1) := by decide +kernel
theorem dX4_findPath_116 : decode cX4_findPath 116 = .ok (.iload_n 2, 1) := by decide +kernel
theorem dX4_findPath_117 : decode cX4_findPath 117 = .ok (.iand, 1) := by decide +kernel
theorem dX4_findPath_118 : decode cX4_findPath 118 = .ok (.invokestatic 80, 3) := by decide +kernel
theorem dX4_findPath_121 : decode cX4_findPath 121 = .ok (.iload 6, 2) := by decide +kernel
theorem dX4_findPath_123 : decode cX4_findPath 123 = .ok (.iload_n 1, 1) := by decide +kernel
theorem dX4_findPath_124 : decode cX4_findPath 124 = .ok (.invokevirtual 143, 3) := by decide +kernel
theorem dX4_findPath_127 : decode cX4_findPath 127 = .ok (.return_, 1) := by decide +kernel
theorem dX4_findPath_128 : decode cX4_findPath 128 = .ok (.iconst 0, 1) := by decide +kernel
theorem dX4_findPath_129 : decode cX4_findPath 129 = .ok (.istore 7, 2) := by decide +kernel
theorem dX4_findPath_131 : decode cX4_findPath 131 = .ok (.iload 7, 2) := by decide +kernel
theorem dX4_findPath_133 : decode cX4_findPath 133 = .ok (.bipush 9, 2) := by decide +kernel
theorem dX4_findPath_135 : decode cX4_findPath 135 = .ok (.if_icmp .ge 70, 3) := by decide +kernel
theorem dX4_findPath_138 : decode cX4_findPath 138 = .ok (.aload_n 0, 1) := by decide +kernel
theorem dX4_findPath_139 : decode cX4_findPath 139 = .ok (.getfield 9, 3) := by decide +kernel
theorem dX4_findPath_142 : decode cX4_findPath 142 = .ok (.iload 6, 2) := by decide +kernel
theorem dX4_findPath_144 : decode cX4_findPath 144 = .ok (.iaload, 1) := by decide +kernel
theorem dX4_findPath_145 : decode cX4_findPath 145 = .ok (.aload_n 0, 1) := by decide +kernel
theorem dX4_findPath_146 : decode cX4_findPath 146 = .ok (.getfield 137, 3) := by decide +kernel
theorem dX4_findPath_149 : decode cX4_findPath 149 = .ok (.iand, 1) := by decide +kernel
theorem dX4_findPath_150 : decode cX4_findPath 150 = .ok (.iload 4, 2) := by decide +kernel
theorem dX4_findPath_152 : decode cX4_findPath 152 = .ok (.iconst (-1), 1) := by decide +kernel
theorem dX4_findPath_153 : decode cX4_findPath 153 = .ok (.ixor, 1) := by decide +kernel
theorem dX4_findPath_154 : decode cX4_findPath 154 = .ok (.iand, 1) := by decide +kernel
theorem dX4_findPath_155 : decode cX4_findPath 155 = .ok (.iload 7, 2) := by decide +kernel
theorem dX4_findPath_157 : decode cX4_findPath 157 = .ok (.invokestatic 69, 3) := by decide +kernel
theorem dX4_findPath_160 : decode cX4_findPath 160 = .ok (.ifCond .eq 39, 3) := by decide +kernel
theorem dX4_findPath_163 : decode cX4_findPath 163 = .ok (.iload_n 3, 1) := by decide +kernel
theorem dX4_findPath_164 : decode cX4_findPath 164 = .ok (.bipush 9, 2) := by decide +kernel
theorem dX4_findPath_166 : decode cX4_findPath 166 = .ok (.if_icmp .ge 33, 3) := by decide +kernel
theorem dX4_findPath_169 : decode cX4_findPath 169 = .ok (.aload_n 0, 1) := by decide +kernel
theorem dX4_findPath_170 : decode cX4_findPath 170 = .ok (.getfield 36, 3) := by decide +kernel
theorem dX4_findPath_173 : decode cX4_findPath 173 = .ok (.iload 7, 2) := by decide +kernel
theorem dX4_findPath_175 : decode cX4_findPath 175 = .ok (.iload 6, 2) := by decide +kernel
theorem dX4_findPath_177 : decode cX4_findPath 177 = .ok (.iastore, 1) := by decide +kernel
theorem dX4_findPath_178 : decode cX4_findPath 178 = .ok (.aload_n 0, 1) := by decide +kernel
theorem dX4_findPath_179 : decode cX4_findPath 179 = .ok (.getfield 33, 3) := by decide +kernel
theorem dX4_findPath_182 : decode cX4_findPath 182 = .ok (.iload_n 3, 1) := by decide +kernel
theorem dX4_findPath_183 : decode cX4_findPath 183 = .ok (.iload 7, 2) := by decide +kernel
theorem dX4_findPath_185 : decode cX4_findPath 185 = .ok (.iastore, 1) := by decide +kernel
theorem dX4_findPath_186 : decode cX4_findPath 186 = .ok (.iinc 3 1, 3) := by decide +kernel
theorem dX4_findPath_189 : decode cX4_findPath 189 = .ok (.iload 4, 2) := by decide +kernel
theorem dX4_findPath_191 : decode cX4_findPath 191 = .ok (.iload 7, 2) := by decide +kernel
theorem dX4_findPath_193 : decode cX4_findPath 193 = .ok (.invokestatic 73, 3) := by decide +kernel
theorem dX4_findPath_196 : decode cX4_findPath 196 = .ok (.ior, 1) := by decide +kernel
theorem dX4_findPath_197 : decode cX4_findPath 197 = .ok (.istore 4, 2) := by decide +kernel
theorem dX4_findPath_199 : decode cX4_findPath 199 = .ok (.iinc 7 1, 3) := by decide +kernel
theorem dX4_findPath_202 : decode cX4_findPath 202 = .ok (.goto (-71), 3) := by decide +kernel
theorem dX4_findPath_205 : decode cX4_findPath 205 = .ok (.iinc 5 1, 3) := by decide +kernel
theorem dX4_findPath_208 : decode cX4_findPath 208 = .ok (.goto (-140), 3) := by decide +kernel
theorem dX4_findPath_211 : decode cX4_findPath 211 = .ok (.return_, 1) := by decide +kernel
theorem dX4_tracePath_0 : decode cX4_tracePath 0 = .ok (.aload_n 0, 1) := by decide +kernel
theorem dX4_tracePath_1 : decode cX4_tracePath 1 = .ok (.getfield 30, 3) := by decide +kernel
theorem dX4_tracePath_4 : decode cX4_tracePath 4 = .ok (.iconst 0, 1) := by decide +kernel
theorem dX4_tracePath_5 : decode cX4_tracePath 5 = .ok (.iload_n 1, 1) := by decide +kernel
theorem dX4_tracePath_6 : decode cX4_tracePath 6 = .ok (.iastore, 1) := by decide +kernel
theorem dX4_tracePath_7 : decode cX4_tracePath 7 = .ok (.iload_n 2, 1) := by decide +kernel
theorem dX4_tracePath_8 : decode cX4_tracePath 8 = .ok (.istore 4, 2) := by decide +kernel
theorem dX4_tracePath_10 : decode cX4_tracePath 10 = .ok (.iconst 1, 1) := by decide +kernel
theorem dX4_tracePath_11 : decode cX4_tracePath 11 = .ok (.istore 5, 2) := by decide +kernel
theorem dX4_tracePath_13 : decode cX4_tracePath 13 = .ok (.iload 5, 2) := by decide +kernel
theorem dX4_tracePath_15 : decode cX4_tracePath 15 = .ok (.bipush 8, 2) := by decide +kernel
theorem dX4_tracePath_17 : decode cX4_tracePath 17 = .ok (.if_icmp .ge 33, 3) := by decide +kernel
theorem dX4_tracePath_20 : decode cX4_tracePath 20 = .ok (.iload 4, 2) := by decide +kernel
theorem dX4_tracePath_22 : decode cX4_tracePath 22 = .ok (.iload_n 3, 1) := by decide +kernel
theorem dX4_tracePath_23 : decode cX4_tracePath 23 = .ok (.if_icmp .eq 27, 3) := by decide +kernel
theorem dX4_tracePath_26 : decode cX4_tracePath 26 = .ok (.aload_n 0, 1) := by decide +kernel
theorem dX4_tracePath_27 : decode cX4_tracePath 27 = .ok (.getfield 30, 3) := by decide +kernel
theorem dX4_tracePath_30 : decode cX4_tracePath 30 = .ok (.iload 5, 2) := by decide +kernel
theorem dX4_tracePath_32 : decode cX4_tracePath 32 = .ok (.iload 4, 2) := by decide +kernel
theorem dX4_tracePath_34 : decode cX4_tracePath 34 = .ok (.iastore, 1) := by decide +kernel
theorem dX4_tracePath_35 : decode cX4_tracePath 35 = .ok (.aload_n 0, 1) := by decide +kernel
theorem dX4_tracePath_36 : decode cX4_tracePath 36 = .ok (.getfield 36, 3) := by decide +kernel
theorem dX4_tracePath_39 : decode cX4_tracePath 39 = .ok (.iload 4, 2) := by decide +kernel
theorem dX4_tracePath_41 : decode cX4_tracePath 41 = .ok (.iaload, 1) := by decide +kernel
theorem dX4_tracePath_42 : decode cX4_tracePath 42 = .ok (.istore 4, 2) := by decide +kernel
theorem dX4_tracePath_44 : decode cX4_tracePath 44 = .ok (.iinc 5 1, 3) := by decide +kernel
theorem dX4_tracePath_47 : decode cX4_tracePath 47 = .ok (.goto (-34), 3) := by decide +kernel
theorem dX4_tracePath_50 : decode cX4_tracePath 50 = .ok (.aload_n 0, 1) := by decide +kernel
theorem dX4_tracePath_51 : decode cX4_tracePath 51 = .ok (.getfield 30, 3) := by decide +kernel
theorem dX4_tracePath_54 : decode cX4_tracePath 54 = .ok (.iload 5, 2) := by decide +kernel
theorem dX4_tracePath_56 : decode cX4_tracePath 56 = .ok (.iload_n 3, 1) := by decide +kernel
theorem dX4_tracePath_57 : decode cX4_tracePath 57 = .ok (.iastore, 1) := by decide +kernel
theorem dX4_tracePath_58 : decode cX4_tracePath 58 = .ok (.aload_n 0, 1) := by decide +kernel
theorem dX4_tracePath_59 : decode cX4_tracePath 59 = .ok (.iload 5, 2) := by decide +kernel
theorem dX4_tracePath_61 : decode cX4_tracePath 61 = .ok (.iconst 1, 1) := by decide +kernel
theorem dX4_tracePath_62 : decode cX4_tracePath 62 = .ok (.iadd, 1) := by decide +kernel
theorem dX4_tracePath_63 : decode cX4_tracePath 63 = .ok (.putfield 83, 3) := by decide +kernel
theorem dX4_tracePath_66 : decode cX4_tracePath 66 = .ok (.return_, 1) := by decide +kernel
theorem dX4_splitRing_0 : decode cX4_splitRing 0 = .ok (.aload_n 0, 1) := by decide +kernel
theorem dX4_splitRing_1 : decode cX4_splitRing 1 = .ok (.getfield 21, 3) := by decide +kernel
theorem dX4_splitRing_4 : decode cX4_splitRing 4 = .ok (.aload_n 0, 1) := by decide +kernel
theorem dX4_splitRing_5 : decode cX4_splitRing 5 = .ok (.getfield 140, 3) := by decide +kernel
theorem dX4_splitRing_8 : decode cX4_splitRing 8 = .ok (.iaload, 1) := by decide +kernel
theorem dX4_splitRing_9 : decode cX4_splitRing 9 = .ok (.istore_n 1, 1) := by decide +kernel
theorem dX4_splitRing_10 : decode cX4_splitRing 10 = .ok (.aload_n 0, 1) := by decide +kernel
theorem dX4_splitRing_11 : decode cX4_splitRing 11 = .ok (.getfield 18, 3) := by decide +kernel
theorem dX4_splitRing_14 : decode cX4_splitRing 14 = .ok (.aload_n 0, 1) := by decide +kernel
theorem dX4_splitRing_15 : decode cX4_splitRing 15 = .ok (.getfield 140, 3) := by decide +kernel
theorem dX4_splitRing_18 : decode cX4_splitRing 18 = .ok (.bipush 9, 2) := by decide +kernel
theorem dX4_splitRing_20 : decode cX4_splitRing 20 = .ok (.imul, 1) := by decide +kernel
theorem dX4_splitRing_21 : decode cX4_splitRing 21 = .ok (.aload_n 0, 1) := by decide +kernel
theorem dX4_splitRing_22 : decode cX4_splitRing 22 = .ok (.getfield 27, 3) := by decide +kernel
theorem dX4_splitRing_25 : decode cX4_splitRing 25 = .ok (.iconst 0, 1) := by decide +kernel
theorem dX4_splitRing_26 : decode cX4_splitRing 26 = .ok (.iload_n 1, 1) := by decide +kernel
theorem dX4_splitRing_27 : decode cX4_splitRing 27 = .ok (.invokestatic 39, 3) := by decide +kernel
theorem dX4_splitRing_30 : decode cX4_splitRing 30 = .ok (.aload_n 0, 1) := by decide +kernel
theorem dX4_splitRing_31 : decode cX4_splitRing 31 = .ok (.getfield 30, 3) := by decide +kernel
theorem dX4_splitRing_34 : decode cX4_splitRing 34 = .ok (.iconst 0, 1) := by decide +kernel
theorem dX4_splitRing_35 : decode cX4_splitRing 35 = .ok (.iaload, 1) := by decide +kernel
theorem dX4_splitRing_36 : decode cX4_splitRing 36 = .ok (.istore_n 2, 1) := by decide +kernel
theorem dX4_splitRing_37 : decode cX4_splitRing 37 = .ok (.aload_n 0, 1) := by decide +kernel
theorem dX4_splitRing_38 : decode cX4_splitRing 38 = .ok (.getfield 30, 3) := by decide +kernel
theorem dX4_splitRing_41 : decode cX4_splitRing 41 = .ok (.aload_n 0, 1) := by decide +kernel
theorem dX4_splitRing_42 : decode cX4_splitRing 42 = .ok (.getfield 83, 3) := by decide +kernel
theorem dX4_splitRing_45 : decode cX4_splitRing 45 = .ok (.iconst 1, 1) := by decide +kernel
theorem dX4_splitRing_46 : decode cX4_splitRing 46 = .ok (.isub, 1) := by decide +kernel
theorem dX4_splitRing_47 : decode cX4_splitRing 47 = .ok (.iaload, 1) := by decide +kernel
theorem dX4_splitRing_48 : decode cX4_splitRing 48 = .ok (.istore_n 3, 1) := by decide +kernel
theorem dX4_splitRing_49 : decode cX4_splitRing 49 = .ok (.aload_n 0, 1) := by decide +kernel
theorem dX4_splitRing_50 : decode cX4_splitRing 50 = .ok (.aload_n 0, 1) := by decide +kernel
theorem dX4_splitRing_51 : decode cX4_splitRing 51 = .ok (.getfield 140, 3) := by decide +kernel
theorem dX4_splitRing_54 : decode cX4_splitRing 54 = .ok (.iload_n 2, 1) := by decide +kernel
theorem dX4_splitRing_55 : decode cX4_splitRing 55 = .ok (.iload_n 3, 1) := by decide +kernel
theorem dX4_splitRing_56 : decode cX4_splitRing 56 = .ok (.iload_n 1, 1) := by decide +kernel
theorem dX4_splitRing_57 : decode cX4_splitRing 57 = .ok (.invokevirtual 147, 3) := by decide +kernel
theorem dX4_splitRing_60 : decode cX4_splitRing 60 = .ok (.aload_n 0, 1) := by decide +kernel
theorem dX4_splitRing_61 : decode cX4_splitRing 61 = .ok (.getfield 83, 3) := by decide +kernel
theorem dX4_splitRing_64 : decode cX4_splitRing 64 = .ok (.iconst 2, 1) := by decide +kernel
theorem dX4_splitRing_65 : decode cX4_splitRing 65 = .ok (.isub, 1) := by decide +kernel
theorem dX4_splitRing_66 : decode cX4_splitRing 66 = .ok (.istore 4, 2) := by decide +kernel
theorem dX4_splitRing_68 : decode cX4_splitRing 68 = .ok (.iload 4, 2) := by decide +kernel
theorem dX4_splitRing_70 : decode cX4_splitRing 70 = .ok (.ifCond .le 24, 3) := by decide +kernel
theorem dX4_splitRing_73 : decode cX4_splitRing 73 = .ok (.aload_n 0, 1) := by decide +kernel
theorem dX4_splitRing_74 : decode cX4_splitRing 74 = .ok (.aload_n 0, 1) := by decide +kernel
theorem dX4_splitRing_75 : decode cX4_splitRing 75 = .ok (.getfield 140, 3) := by decide +kernel
theorem dX4_splitRing_78 : decode cX4_splitRing 78 = .ok (.aload_n 0, 1) := by decide +kernel
theorem dX4_splitRing_79 : decode cX4_splitRing 79 = .ok (.getfield 30, 3) := by decide +kernel
theorem dX4_splitRing_82 : decode cX4_splitRing 82 = .ok (.iload 4, 2) := by decide +kernel
theorem dX4_splitRing_84 : decode cX4_splitRing 84 = .ok (.iaload, 1) := by decide +kernel
theorem dX4_splitRing_85 : decode cX4_splitRing 85 = .ok (.invokevirtual 151, 3) := by decide +kernel
theorem dX4_splitRing_88 : decode cX4_splitRing 88 = .ok (.iinc 4 (-1), 3) := by decide +kernel
theorem dX4_splitRing_91 : decode cX4_splitRing 91 = .ok (.goto (-23), 3) := by decide +kernel
theorem dX4_splitRing_94 : decode cX4_splitRing 94 = .ok (.aload_n 0, 1) := by decide +kernel
theorem dX4_splitRing_95 : decode cX4_splitRing 95 = .ok (.aload_n 0, 1) := by decide +kernel
theorem dX4_splitRing_96 : decode cX4_splitRing 96 = .ok (.getfield 93, 3) := by decide +kernel
theorem dX4_splitRing_99 : decode cX4_splitRing 99 = .ok (.iload_n 3, 1) := by decide +kernel
theorem dX4_splitRing_100 : decode cX4_splitRing 100 = .ok (.iload_n 2, 1) := by decide +kernel
theorem dX4_splitRing_101 : decode cX4_splitRing 101 = .ok (.iload_n 1, 1) := by decide +kernel
theorem dX4_splitRing_102 : decode cX4_splitRing 102 = .ok (.invokevirtual 147, 3) := by decide +kernel
theorem dX4_splitRing_105 : decode cX4_splitRing 105 = .ok (.iconst 1, 1) := by decide +kernel
theorem dX4_splitRing_106 : decode cX4_splitRing 106 = .ok (.istore 4, 2) := by decide +kernel
theorem dX4_splitRing_108 : decode cX4_splitRing 108 = .ok (.iload 4, 2) := by decide +kernel
theorem dX4_splitRing_110 : decode cX4_splitRing 110 = .ok (.aload_n 0, 1) := by decide +kernel
theorem dX4_splitRing_111 : decode cX4_splitRing 111 = .ok (.getfield 83, 3) := by decide +kernel
theorem dX4_splitRing_114 : decode cX4_splitRing 114 = .ok (.iconst 1, 1) := by decide +kernel
theorem dX4_splitRing_115 : decode cX4_splitRing 115 = .ok (.isub, 1) := by decide +kernel
theorem dX4_splitRing_116 : decode cX4_splitRing 116 = .ok (.if_icmp .ge 24, 3) := by decide +kernel
theorem dX4_splitRing_119 : decode cX4_splitRing 119 = .ok (.aload_n 0, 1) := by decide +kernel
theorem dX4_splitRing_120 : decode cX4_splitRing 120 = .ok (.aload_n 0, 1) := by decide +kernel
theorem dX4_splitRing_121 : decode cX4_splitRing 121 = .ok (.getfield 93, 3) := by decide +kernel
theorem dX4_splitRing_124 : decode cX4_splitRing 124 = .ok (.aload_n 0, 1) := by decide +kernel
theorem dX4_splitRing_125 : decode cX4_splitRing 125 = .ok (.getfield 30, 3) := by decide +kernel
theorem dX4_splitRing_128 : decode cX4_splitRing 128 = .ok (.iload 4, 2) := by decide +kernel
theorem dX4_splitRing_130 : decode cX4_splitRing 130 = .ok (.iaload, 1) := by decide +kernel
theorem dX4_splitRing_131 : decode cX4_splitRing 131 = .ok (.invokevirtual 151, 3) := by decide +kernel
theorem dX4_splitRing_134 : decode cX4_splitRing 134 = .ok (.iinc 4 1, 3) := by decide +kernel
theorem dX4_splitRing_137 : decode cX4_splitRing 137 = .ok (.goto (-29), 3) := by decide +kernel
theorem dX4_splitRing_140 : decode cX4_splitRing 140 = .ok (.aload_n 0, 1) := by decide +kernel
theorem dX4_splitRing_141 : decode cX4_splitRing 141 = .ok (.dup, 1) := by decide +kernel
theorem dX4_splitRing_142 : decode cX4_splitRing 142 = .ok (.getfield 93, 3) := by decide +kernel
theorem dX4_splitRing_145 : decode cX4_splitRing 145 = .ok (.iconst 1, 1) := by decide +kernel
theorem dX4_splitRing_146 : decode cX4_splitRing 146 = .ok (.iadd, 1) := by decide +kernel
theorem dX4_splitRing_147 : decode cX4_splitRing 147 = .ok (.putfield 93, 3) := by decide +kernel
theorem dX4_splitRing_150 : decode cX4_splitRing 150 = .ok (.return_, 1) := by decide +kernel
theorem dX4_copyArc_0 : decode cX4_copyArc 0 = .ok (.iconst 0, 1) := by decide +kernel
theorem dX4_copyArc_1 : decode cX4_copyArc 1 = .ok (.istore 5, 2) := by decide +kernel
theorem dX4_copyArc_3 : decode cX4_copyArc 3 = .ok (.iconst 0, 1) := by decide +kernel
theorem dX4_copyArc_4 : decode cX4_copyArc 4 = .ok (.istore 6, 2) := by decide +kernel
theorem dX4_copyArc_6 : decode cX4_copyArc 6 = .ok (.iload 6, 2) := by decide +kernel
theorem dX4_copyArc_8 : decode cX4_copyArc 8 = .ok (.iload 4, 2) := by decide +kernel
theorem dX4_copyArc_10 : decode cX4_copyArc 10 = .ok (.if_icmp .ge 29, 3) := by decide +kernel
theorem dX4_copyArc_13 : decode cX4_copyArc 13 = .ok (.aload_n 0, 1) := by decide +kernel
theorem dX4_copyArc_14 : decode cX4_copyArc 14 = .ok (.getfield 27, 3) := by decide +kernel
theorem dX4_copyArc_17 : decode cX4_copyArc 17 = .ok (.iload 6, 2) := by decide +kernel
theorem dX4_copyArc_19 : decode cX4_copyArc 19 = .ok (.iaload, 1) := by decide +kernel
theorem dX4_copyArc_20 : decode cX4_copyArc 20 = .ok (.iload_n 2, 1) := by decide +kernel
theorem dX4_copyArc_21 : decode cX4_copyArc 21 = .ok (.if_icmp .ne 8, 3) := by decide +kernel
theorem dX4_copyArc_24 : decode cX4_copyArc 24 = .ok (.iload 6, 2) := by decide +kernel
theorem dX4_copyArc_26 : decode cX4_copyArc 26 = .ok (.goto 5, 3) := by decide +kernel
theorem dX4_copyArc_29 : decode cX4_copyArc 29 = .ok (.iload 5, 2) := by decide +kernel
theorem dX4_copyArc_31 : decode cX4_copyArc 31 = .ok (.istore 5, 2) := by decide +kernel
theorem dX4_copyArc_33 : decode cX4_copyArc 33 = .ok (.iinc 6 1, 3) := by decide +kernel
theorem dX4_copyArc_36 : decode cX4_copyArc 36 = .ok (.goto (-30), 3) := by decide +kernel
theorem dX4_copyArc_39 : decode cX4_copyArc 39 = .ok (.aload_n 0, 1) := by decide +kernel
theorem dX4_copyArc_40 : decode cX4_copyArc 40 = .ok (.getfield 21, 3) := by decide +kernel
theorem dX4_copyArc_43 : decode cX4_copyArc 43 = .ok (.iload_n 1, 1) := by decide +kernel
theorem dX4_copyArc_44 : decode cX4_copyArc 44 = .ok (.iconst 0, 1) := by decide +kernel
theorem dX4_copyArc_45 : decode cX4_copyArc 45 = .ok (.iastore, 1) := by decide +kernel
theorem dX4_copyArc_46 : decode cX4_copyArc 46 = .ok (.aload_n 0, 1) := by decide +kernel
theorem dX4_copyArc_47 : decode cX4_copyArc 47 = .ok (.getfield 24, 3) := by decide +kernel
theorem dX4_copyArc_50 : decode cX4_copyArc 50 = .ok (.iload_n 1, 1) := by decide +kernel
theorem dX4_copyArc_51 : decode cX4_copyArc 51 = .ok (.iconst 0, 1) := by decide +kernel
theorem dX4_copyArc_52 : decode cX4_copyArc 52 = .ok (.iastore, 1) := by decide +kernel
theorem dX4_copyArc_53 : decode cX4_copyArc 53 = .ok (.iconst 0, 1) := by decide +kernel
theorem dX4_copyArc_54 : decode cX4_copyArc 54 = .ok (.istore 6, 2) := by decide +kernel
theorem dX4_copyArc_56 : decode cX4_copyArc 56 = .ok (.iload 6, 2) := by decide +kernel
theorem dX4_copyArc_58 : decode cX4_copyArc 58 = .ok (.iload 4, 2) := by decide +kernel
theorem dX4_copyArc_60 : decode cX4_copyArc 60 = .ok (.if_icmp .ge 51, 3) := by decide +kernel
theorem dX4_copyArc_63 : decode cX4_copyArc 63 = .ok (.aload_n 0, 1) := by decide +kernel
theorem dX4_copyArc_64 : decode cX4_copyArc 64 = .ok (.getfield 27, 3) := by decide +kernel
theorem dX4_copyArc_67 : decode cX4_copyArc 67 = .ok (.iload 5, 2) := by decide +kernel
theorem dX4_copyArc_69 : decode cX4_copyArc 69 = .ok (.iaload, 1) := by decide +kernel
theorem dX4_copyArc_70 : decode cX4_copyArc 70 = .ok (.istore 7, 2) := by decide +kernel
theorem dX4_copyArc_72 : decode cX4_copyArc 72 = .ok (.aload_n 0, 1) := by decide +kernel
theorem dX4_copyArc_73 : decode cX4_copyArc 73 = .ok (.iload_n 1, 1) := by decide +kernel
theorem dX4_copyArc_74 : decode cX4_copyArc 74 = .ok (.iload 7, 2) := by decide +kernel
theorem dX4_copyArc_76 : decode cX4_copyArc 76 = .ok (.invokevirtual 151, 3) := by decide +kernel
theorem dX4_copyArc_79 : decode cX4_copyArc 79 = .ok (.iload 7, 2) := by decide +kernel
theorem dX4_copyArc_81 : decode cX4_copyArc 81 = .ok (.iload_n 3, 1) := by decide +kernel
theorem dX4_copyArc_82 : decode cX4_copyArc 82 = .ok (.if_icmp .ne 4, 3) := by decide +kernel
theorem dX4_copyArc_85 : decode cX4_copyArc 85 = .ok (.return_, 1) := by decide +kernel
theorem dX4_copyArc_86 : decode cX4_copyArc 86 = .ok (.iload 5, 2) := by decide +kernel
theorem dX4_copyArc_88 : decode cX4_copyArc 88 = .ok (.iconst 1, 1) := by decide +kernel
theorem dX4_copyArc_89 : decode cX4_copyArc 89 = .ok (.iadd, 1) := by decide +kernel
theorem dX4_copyArc_90 : decode cX4_copyArc 90 = .ok (.iload 4, 2) := by decide +kernel
theorem dX4_copyArc_92 : decode cX4_copyArc 92 = .ok (.if_icmp .ge 10, 3) := by decide +kernel
theorem dX4_copyArc_95 : decode cX4_copyArc 95 = .ok (.iload 5, 2) := by decide +kernel
theorem dX4_copyArc_97 : decode cX4_copyArc 97 = .ok (.iconst 1, 1) := by decide +kernel
theorem dX4_copyArc_98 : decode cX4_copyArc 98 = .ok (.iadd, 1) := by decide +kernel
theorem dX4_copyArc_99 : decode cX4_copyArc 99 = .ok (.goto 4, 3) := by decide +kernel
theorem dX4_copyArc_102 : decode cX4_copyArc 102 = .ok (.iconst 0, 1) := by decide +kernel
theorem dX4_copyArc_103 : decode cX4_copyArc 103 = .ok (.istore 5, 2) := by decide +kernel
theorem dX4_copyArc_105 : decode cX4_copyArc 105 = .ok (.iinc 6 1, 3) := by decide +kernel
theorem dX4_copyArc_108 : decode cX4_copyArc 108 = .ok (.goto (-52), 3) := by decide +kernel
theorem dX4_copyArc_111 : decode cX4_copyArc 111 = .ok (.return_, 1) := by decide +kernel
theorem dX4_extendRing_0 : decode cX4_extendRing 0 = .ok (.aload_n 0, 1) := by decide +kernel
theorem dX4_extendRing_1 : decode cX4_extendRing 1 = .ok (.getfield 21, 3) := by decide +kernel
theorem dX4_extendRing_4 : decode cX4_extendRing 4 = .ok (.iload_n 1, 1) := by decide +kernel
theorem dX4_extendRing_5 : decode cX4_extendRing 5 = .ok (.iaload, 1) := by decide +kernel
theorem dX4_extendRing_6 : decode cX4_extendRing 6 = .ok (.bipush 9, 2) := by decide +kernel
theorem dX4_extendRing_8 : decode cX4_extendRing 8 = .ok (.if_icmp .ge 43, 3) := by decide +kernel
theorem dX4_extendRing_11 : decode cX4_extendRing 11 = .ok (.aload_n 0, 1) := by decide +kernel
theorem dX4_extendRing_12 : decode cX4_extendRing 12 = .ok (.getfield 18, 3) := by decide +kernel
theorem dX4_extendRing_15 : decode cX4_extendRing 15 = .ok (.iload_n 1, 1) := by decide +kernel
theorem dX4_extendRing_16 : decode cX4_extendRing 16 = .ok (.bipush 9, 2) := by decide +kernel
theorem dX4_extendRing_18 : decode cX4_extendRing 18 = .ok (.imul, 1) := by decide +kernel
theorem dX4_extendRing_19 : decode cX4_extendRing 19 = .ok (.aload_n 0, 1) := by decide +kernel
theorem dX4_extendRing_20 : decode cX4_extendRing 20 = .ok (.getfield 21, 3) := by decide +kernel
theorem dX4_extendRing_23 : decode cX4_extendRing 23 = .ok (.iload_n 1, 1) := by decide +kernel
theorem dX4_extendRing_24 : decode cX4_extendRing 24 = .ok (.iaload, 1) := by decide +kernel
theorem dX4_extendRing_25 : decode cX4_extendRing 25 = .ok (.iadd, 1) := by decide +kernel
theorem dX4_extendRing_26 : decode cX4_extendRing 26 = .ok (.iload_n 2, 1) := by decide +kernel
theorem dX4_extendRing_27 : decode cX4_extendRing 27 = .ok (.iastore, 1) := by decide +kernel
theorem dX4_extendRing_28 : decode cX4_extendRing 28 = .ok (.aload_n 0, 1) := by decide +kernel
theorem dX4_extendRing_29 : decode cX4_extendRing 29 = .ok (.getfield 21, 3) := by decide +kernel
theorem dX4_extendRing_32 : decode cX4_extendRing 32 = .ok (.iload_n 1, 1) := by decide +kernel
theorem dX4_extendRing_33 : decode cX4_extendRing 33 = .ok (.dup2, 1) := by decide +kernel
theorem dX4_extendRing_34 : decode cX4_extendRing 34 = .ok (.iaload, 1) := by decide +kernel
theorem dX4_extendRing_35 : decode cX4_extendRing 35 = .ok (.iconst 1, 1) := by decide +kernel
theorem dX4_extendRing_36 : decode cX4_extendRing 36 = .ok (.iadd, 1) := by decide +kernel
theorem dX4_extendRing_37 : decode cX4_extendRing 37 = .ok (.iastore, 1) := by decide +kernel
theorem dX4_extendRing_38 : decode cX4_extendRing 38 = .ok (.aload_n 0, 1) := by decide +kernel
theorem dX4_extendRing_39 : decode cX4_extendRing 39 = .ok (.getfield 24, 3) := by decide +kernel
theorem dX4_extendRing_42 : decode cX4_extendRing 42 = .ok (.iload_n 1, 1) := by decide +kernel
theorem dX4_extendRing_43 : decode cX4_extendRing 43 = .ok (.dup2, 1) := by decide +kernel
theorem dX4_extendRing_44 : decode cX4_extendRing 44 = .ok (.iaload, 1) := by decide +kernel
theorem dX4_extendRing_45 : decode cX4_extendRing 45 = .ok (.iload_n 2, 1) := by decide +kernel
theorem dX4_extendRing_46 : decode cX4_extendRing 46 = .ok (.invokestatic 73, 3) := by decide +kernel
theorem dX4_extendRing_49 : decode cX4_extendRing 49 = .ok (.ior, 1) := by decide +kernel
theorem dX4_extendRing_50 : decode cX4_extendRing 50 = .ok (.iastore, 1) := by decide +kernel
theorem dX4_extendRing_51 : decode cX4_extendRing 51 = .ok (.return_, 1) := by decide +kernel
theorem dX5_init_0 : decode cX5_init 0 = .ok (.aload_n 0, 1) := by decide +kernel
theorem dX5_init_1 : decode cX5_init 1 = .ok (.invokespecial 3, 3) := by decide +kernel
theorem dX5_init_4 : decode cX5_init 4 = .ok (.aload_n 0, 1) := by decide +kernel
theorem dX5_init_5 : decode cX5_init 5 = .ok (.bipush 100, 2) := by decide +kernel
theorem dX5_init_7 : decode cX5_init 7 = .ok (.newarray .int, 2) := by decide +kernel
theorem dX5_init_9 : decode cX5_init 9 = .ok (.putfield 9, 3) := by decide +kernel
theorem dX5_init_12 : decode cX5_init 12 = .ok (.return_, 1) := by decide +kernel
theorem dX5_add_0 : decode cX5_add 0 = .ok (.aload_n 0, 1) := by decide +kernel
theorem dX5_add_1 : decode cX5_add 1 = .ok (.getfield 9, 3) := by decide +kernel
theorem dX5_add_4 : decode cX5_add 4 = .ok (.aload_n 0, 1) := by decide +kernel
theorem dX5_add_5 : decode cX5_add 5 = .ok (.getfield 15, 3) := by decide +kernel
theorem dX5_add_8 : decode cX5_add 8 = .ok (.iload_n 1, 1) := by decide +kernel
theorem dX5_add_9 : decode cX5_add 9 = .ok (.iastore, 1) := by decide +kernel
theorem dX5_add_10 : decode cX5_add 10 = .ok (.aload_n 0, 1) := by decide +kernel
theorem dX5_add_11 : decode cX5_add 11 = .ok (.dup, 1) := by decide +kernel
theorem dX5_add_12 : decode cX5_add 12 = .ok (.getfield 15, 3) := by decide +kernel
theorem dX5_add_15 : decode cX5_add 15 = .ok (.iconst 1, 1) := by decide +kernel
theorem dX5_add_16 : decode cX5_add 16 = .ok (.iadd, 1) := by decide +kernel
theorem dX5_add_17 : decode cX5_add 17 = .ok (.putfield 15, 3) := by decide +kernel
theorem dX5_add_20 : decode cX5_add 20 = .ok (.return_, 1) := by decide +kernel
theorem dX5_read_0 : decode cX5_read 0 = .ok (.aload_n 0, 1) := by decide +kernel
theorem dX5_read_1 : decode cX5_read 1 = .ok (.iconst 0, 1) := by decide +kernel
theorem dX5_read_2 : decode cX5_read 2 = .ok (.putfield 19, 3) := by decide +kernel
theorem dX5_read_5 : decode cX5_read 5 = .ok (.iconst 0, 1) := by decide +kernel
theorem dX5_read_6 : decode cX5_read 6 = .ok (.istore_n 2, 1) := by decide +kernel
theorem dX5_read_7 : decode cX5_read 7 = .ok (.iload_n 2, 1) := by decide +kernel
theorem dX5_read_8 : decode cX5_read 8 = .ok (.aload_n 0, 1) := by decide +kernel
theorem dX5_read_9 : decode cX5_read 9 = .ok (.getfield 15, 3) := by decide +kernel
theorem dX5_read_12 : decode cX5_read 12 = .ok (.if_icmp .ge 36, 3) := by decide +kernel
theorem dX5_read_15 : decode cX5_read 15 = .ok (.aload_n 0, 1) := by decide +kernel
theorem dX5_read_16 : decode cX5_read 16 = .ok (.getfield 9, 3) := by decide +kernel
theorem dX5_read_19 : decode cX5_read 19 = .ok (.iload_n 2, 1) := by decide +kernel
theorem dX5_read_20 : decode cX5_read 20 = .ok (.iaload, 1) := by decide +kernel
theorem dX5_read_21 : decode cX5_read 21 = .ok (.bipush 32, 2) := by decide +kernel
theorem dX5_read_23 : decode cX5_read 23 = .ok (.if_icmp .eq 19, 3) := by decide +kernel
theorem dX5_read_26 : decode cX5_read 26 = .ok (.aload_n 0, 1) := by decide +kernel
theorem dX5_read_27 : decode cX5_read 27 = .ok (.aload_n 0, 1) := by decide +kernel
theorem dX5_read_28 : decode cX5_read 28 = .ok (.getfield 9, 3) := by decide +kernel
theorem dX5_read_31 : decode cX5_read 31 = .ok (.iload_n 2, 1) := by decide +kernel
theorem dX5_read_32 : decode cX5_read 32 = .ok (.iaload, 1) := by decide +kernel
theorem dX5_read_33 : decode cX5_read 33 = .ok (.aload_n 1, 1) := by decide +kernel
theorem dX5_read_34 : decode cX5_read 34 = .ok (.invokevirtual 22, 3) := by decide +kernel
theorem dX5_read_37 : decode cX5_read 37 = .ok (.ifCond .ne 5, 3) := by decide +kernel
theorem dX5_read_40 : decode cX5_read 40 = .ok (.iload_n 2, 1) := by decide +kernel
theorem dX5_read_41 : decode cX5_read 41 = .ok (.ireturn, 1) := by decide +kernel
theorem dX5_read_42 : decode cX5_read 42 = .ok (.iinc 2 1, 3) := by decide +kernel
theorem dX5_read_45 : decode cX5_read 45 = .ok (.goto (-38), 3) := by decide +kernel
theorem dX5_read_48 : decode cX5_read 48 = .ok (.aload_n 0, 1) := by decide +kernel
theorem dX5_read_49 : decode cX5_read 49 = .ok (.getfield 19, 3) := by decide +kernel
theorem dX5_read_52 : decode cX5_read 52 = .ok (.iconst 2, 1) := by decide +kernel
theorem dX5_read_53 : decode cX5_read 53 = .ok (.if_icmp .ne 7, 3) := by decide +kernel
theorem dX5_read_56 : decode cX5_read 56 = .ok (.iconst (-1), 1) := by decide +kernel
theorem dX5_read_57 : decode cX5_read 57 = .ok (.goto 7, 3) := by decide +kernel
theorem dX5_read_60 : decode cX5_read 60 = .ok (.aload_n 0, 1) := by decide +kernel
theorem dX5_read_61 : decode cX5_read 61 = .ok (.getfield 15, 3) := by decide +kernel
theorem dX5_read_64 : decode cX5_read 64 = .ok (.ireturn, 1) := by decide +kernel
theorem dX5_take_0 : decode cX5_take 0 = .ok (.iload_n 1, 1) := by decide +kernel
theorem dX5_take_1 : decode cX5_take 1 = .ok (.bipush 48, 2) := by decide +kernel
theorem dX5_take_3 : decode cX5_take 3 = .ok (.isub, 1) := by decide +kernel
theorem dX5_take_4 : decode cX5_take 4 = .ok (.istore_n 3, 1) := by decide +kernel
theorem dX5_take_5 : decode cX5_take 5 = .ok (.aload_n 0, 1) := by decide +kernel
theorem dX5_take_6 : decode cX5_take 6 = .ok (.getfield 19, 3) := by decide +kernel
theorem dX5_take_9 : decode cX5_take 9 = .ok (.tableswitch 95 0 3 #[31, 38, 55, 88], 31) := by decide +kernel
theorem dX5_take_40 : decode cX5_take 40 = .ok (.aload_n 0, 1) := by decide +kernel
theorem dX5_take_41 : decode cX5_take 41 = .ok (.iload_n 3, 1) := by decide +kernel
theorem dX5_take_42 : decode cX5_take 42 = .ok (.aload_n 2, 1) := by decide +kernel
theorem dX5_take_43 : decode cX5_take 43 = .ok (.invokevirtual 26, 3) := by decide +kernel
theorem dX5_take_46 : decode cX5_take 46 = .ok (.ireturn, 1) := by decide +kernel
theorem dX5_take_47 : decode cX5_take 47 = .ok (.aload_n 0, 1) := by decide +kernel
theorem dX5_take_48 : decode cX5_take 48 = .ok (.iconst 2, 1) := by decide +kernel
theorem dX5_take_49 : decode cX5_take 49 = .ok (.putfield 19, 3) := by decide +kernel
theorem dX5_take_52 : decode cX5_take 52 = .ok (.iload_n 1, 1) := by decide +kernel
theorem dX5_take_53 : decode cX5_take 53 = .ok (.bipush 58, 2) := by decide +kernel
theorem dX5_take_55 : decode cX5_take 55 = .ok (.if_icmp .ne 7, 3) := by decide +kernel
theorem dX5_take_58 : decode cX5_take 58 = .ok (.iconst 1, 1) := by decide +kernel
theorem dX5_take_59 : decode cX5_take 59 = .ok (.goto 4, 3) := by decide +kernel
theorem dX5_take_62 : decode cX5_take 62 = .ok (.iconst 0, 1) := by decide +kernel
theorem dX5_take_63 : decode cX5_take 63 = .ok (.ireturn, 1) := by decide +kernel
theorem dX5_take_64 : decode cX5_take 64 = .ok (.aload_n 0, 1) := by decide +kernel
theorem dX5_take_65 : decode cX5_take 65 = .ok (.iload_n 3, 1) := by decide +kernel
theorem dX5_take_66 : decode cX5_take 66 = .ok (.putfield 29, 3) := by decide +kernel
theorem dX5_take_69 : decode cX5_take 69 = .ok (.aload_n 0, 1) := by decide +kernel
theorem dX5_take_70 : decode cX5_take 70 = .ok (.iconst 3, 1) := by decide +kernel
theorem dX5_take_71 : decode cX5_take 71 = .ok (.putfield 19, 3) := by decide +kernel
theorem dX5_take_74 : decode cX5_take 74 = .ok (.aload_n 2, 1) := by decide +kernel
theorem dX5_take_75 : decode cX5_take 75 = .ok (.iload_n 3, 1) := by decide +kernel
theorem dX5_take_76 : decode cX5_take 76 = .ok (.invokevirtual 32, 3) := by decide +kernel
theorem dX5_take_79 : decode cX5_take 79 = .ok (.ifCond .eq 16, 3) := by decide +kernel
theorem dX5_take_82 : decode cX5_take 82 = .ok (.aload_n 2, 1) := by decide +kernel
theorem dX5_take_83 : decode cX5_take 83 = .ok (.getfield 38, 3) := by decide +kernel
theorem dX5_take_86 : decode cX5_take 86 = .ok (.bipush 20, 2) := by decide +kernel
theorem dX5_take_88 : decode cX5_take 88 = .ok (.if_icmp .ge 7, 3) := by decide +kernel
theorem dX5_take_91 : decode cX5_take 91 = .ok (.iconst 1, 1) := by decide +kernel
theorem dX5_take_92 : decode cX5_take 92 = .ok (.goto 4, 3) := by decide +kernel
theorem dX5_take_95 : decode cX5_take 95 = .ok (.iconst 0, 1) := by decide +kernel
theorem dX5_take_96 : decode cX5_take 96 = .ok (.ireturn, 1) := by decide +kernel
theorem dX5_take_97 : decode cX5_take 97 = .ok (.aload_n 0, 1) := by decide +kernel
theorem dX5_take_98 : decode cX5_take 98 = .ok (.iload_n 3, 1) := by decide +kernel
theorem dX5_take_99 : decode cX5_take 99 = .ok (.aload_n 2, 1) := by decide +kernel
theorem dX5_take_100 : decode cX5_take 100 = .ok (.invokevirtual 41, 3) := by decide +kernel
theorem dX5_take_103 : decode cX5_take 103 = .ok (.ireturn, 1) := by decide +kernel
theorem dX5_take_104 : decode cX5_take 104 = .ok (.aload_n 0, 1) := by decide +kernel
theorem dX5_take_105 : decode cX5_take 105 = .ok (.iconst 2, 1) := by decide +kernel
theorem dX5_take_106 : decode cX5_take 106 = .ok (.putfield 19, 3) := by decide +kernel
theorem dX5_take_109 : decode cX5_take 109 = .ok (.iload_n 1, 1) := by decide +kernel
theorem dX5_take_110 : decode cX5_take 110 = .ok (.bipush 59, 2) := by decide +kernel
theorem dX5_take_112 : decode cX5_take 112 = .ok (.if_icmp .ne 7, 3) := by decide +kernel
theorem dX5_take_115 : decode cX5_take 115 = .ok (.iconst 1, 1) := by decide +kernel
theorem dX5_take_116 : decode cX5_take 116 = .ok (.goto 4, 3) := by decide +kernel
theorem dX5_take_119 : decode cX5_take 119 = .ok (.iconst 0, 1) := by decide +kernel
theorem dX5_take_120 : decode cX5_take 120 = .ok (.ireturn, 1) := by decide +kernel
theorem dX5_takeNodes_0 : decode cX5_takeNodes 0 = .ok (.iload_n 1, 1) := by decide +kernel
theorem dX5_takeNodes_1 : decode cX5_takeNodes 1 = .ok (.iconst 2, 1) := by decide +kernel
theorem dX5_takeNodes_2 : decode cX5_takeNodes 2 = .ok (.if_icmp .lt 9, 3) := by decide +kernel
theorem dX5_takeNodes_5 : decode cX5_takeNodes 5 = .ok (.iload_n 1, 1) := by decide +kernel
theorem dX5_takeNodes_6 : decode cX5_takeNodes 6 = .ok (.bipush 9, 2) := by decide +kernel
theorem dX5_takeNodes_8 : decode cX5_takeNodes 8 = .ok (.if_icmp .le 5, 3) := by decide +kernel
theorem dX5_takeNodes_11 : decode cX5_takeNodes 11 = .ok (.iconst 0, 1) := by decide +kernel
theorem dX5_takeNodes_12 : decode cX5_takeNodes 12 = .ok (.ireturn, 1) := by decide +kernel
theorem dX5_takeNodes_13 : decode cX5_takeNodes 13 = .ok (.aload_n 2, 1) := by decide +kernel
theorem dX5_takeNodes_14 : decode cX5_takeNodes 14 = .ok (.iload_n 1, 1) := by decide +kernel
theorem dX5_takeNodes_15 : decode cX5_takeNodes 15 = .ok (.invokevirtual 44, 3) := by decide +kernel
theorem dX5_takeNodes_18 : decode cX5_takeNodes 18 = .ok (.aload_n 0, 1) := by decide +kernel
theorem dX5_takeNodes_19 : decode cX5_takeNodes 19 = .ok (.iconst 1, 1) := by decide +kernel
theorem dX5_takeNodes_20 : decode cX5_takeNodes 20 = .ok (.putfield 19, 3) := by decide +kernel
theorem dX5_takeNodes_23 : decode cX5_takeNodes 23 = .ok (.iconst 1, 1) := by decide +kernel
theorem dX5_takeNodes_24 : decode cX5_takeNodes 24 = .ok (.ireturn, 1) := by decide +kernel
theorem dX5_takeSecondEnd_0 : decode cX5_takeSecondEnd 0 = .ok (.aload_n 2, 1) := by decide +kernel
theorem dX5_takeSecondEnd_1 : decode cX5_takeSecondEnd 1 = .ok (.iload_n 1, 1) := by decide +kernel
theorem dX5_takeSecondEnd_2 : decode cX5_takeSecondEnd 2 = .ok (.invokevirtual 32, 3) := by decide +kernel
theorem dX5_takeSecondEnd_5 : decode cX5_takeSecondEnd 5 = .ok (.ifCond .eq 23, 3) := by decide +kernel
theorem dX5_takeSecondEnd_8 : decode cX5_takeSecondEnd 8 = .ok (.iload_n 1, 1) := by decide +kernel
theorem dX5_takeSecondEnd_9 : decode cX5_takeSecondEnd 9 = .ok (.aload_n 0, 1) := by decide +kernel
theorem dX5_takeSecondEnd_10 : decode cX5_takeSecondEnd 10 = .ok (.getfield 29, 3) := by decide +kernel
theorem dX5_takeSecondEnd_13 : decode cX5_takeSecondEnd 13 = .ok (.if_icmp .eq 15, 3) := by decide +kernel
theorem dX5_takeSecondEnd_16 : decode cX5_takeSecondEnd 16 = .ok (.aload_n 2, 1) := by decide +kernel
theorem dX5_takeSecondEnd_17 : decode cX5_takeSecondEnd 17 = .ok (.aload_n 0, 1) := by decide +kernel
theorem dX5_takeSecondEnd_18 : decode cX5_takeSecondEnd 18 = .ok (.getfield 29, 3) := by decide +kernel
theorem dX5_takeSecondEnd_21 : decode cX5_takeSecondEnd 21 = .ok (.iload_n 1, 1) := by decide +kernel
theorem dX5_takeSecondEnd_22 : decode cX5_takeSecondEnd 22 = .ok (.invokevirtual 48, 3) := by decide +kernel
theorem dX5_takeSecondEnd_25 : decode cX5_takeSecondEnd 25 = .ok (.ifCond .eq 5, 3) := by decide +kernel
theorem dX5_takeSecondEnd_28 : decode cX5_takeSecondEnd 28 = .ok (.iconst 0, 1) := by decide +kernel
theorem dX5_takeSecondEnd_29 : decode cX5_takeSecondEnd 29 = .ok (.ireturn, 1) := by decide +kernel
theorem dX5_takeSecondEnd_30 : decode cX5_takeSecondEnd 30 = .ok (.aload_n 2, 1) := by decide +kernel
theorem dX5_takeSecondEnd_31 : decode cX5_takeSecondEnd 31 = .ok (.aload_n 0, 1) := by decide +kernel
theorem dX5_takeSecondEnd_32 : decode cX5_takeSecondEnd 32 = .ok (.getfield 29, 3) := by decide +kernel
theorem dX5_takeSecondEnd_35 : decode cX5_takeSecondEnd 35 = .ok (.iload_n 1, 1) := by decide +kernel
theorem dX5_takeSecondEnd_36 : decode cX5_takeSecondEnd 36 = .ok (.aload_n 2, 1) := by decide +kernel
theorem dX5_takeSecondEnd_37 : decode cX5_takeSecondEnd 37 = .ok (.getfield 52, 3) := by decide +kernel
theorem dX5_takeSecondEnd_40 : decode cX5_takeSecondEnd 40 = .ok (.aload_n 0, 1) := by decide +kernel
theorem dX5_takeSecondEnd_41 : decode cX5_takeSecondEnd 41 = .ok (.getfield 29, 3) := by decide +kernel
theorem dX5_takeSecondEnd_44 : decode cX5_takeSecondEnd 44 = .ok (.iaload, 1) := by decide +kernel
theorem dX5_takeSecondEnd_45 : decode cX5_takeSecondEnd 45 = .ok (.aload_n 2, 1) := by decide +kernel
theorem dX5_takeSecondEnd_46 : decode cX5_takeSecondEnd 46 = .ok (.getfield 52, 3) := by decide +kernel
theorem dX5_takeSecondEnd_49 : decode cX5_takeSecondEnd 49 = .ok (.iload_n 1, 1) := by decide +kernel
theorem dX5_takeSecondEnd_50 : decode cX5_takeSecondEnd 50 = .ok (.iaload, 1) := by decide +kernel
theorem dX5_takeSecondEnd_51 : decode cX5_takeSecondEnd 51 = .ok (.invokevirtual 55, 3) := by decide +kernel
theorem dX5_takeSecondEnd_54 : decode cX5_takeSecondEnd 54 = .ok (.pop, 1) := by decide +kernel
theorem dX5_takeSecondEnd_55 : decode cX5_takeSecondEnd 55 = .ok (.aload_n 0, 1) := by decide +kernel
theorem dX5_takeSecondEnd_56 : decode cX5_takeSecondEnd 56 = .ok (.iconst 4, 1) := by decide +kernel
theorem dX5_takeSecondEnd_57 : decode cX5_takeSecondEnd 57 = .ok (.putfield 19, 3) := by decide +kernel
theorem dX5_takeSecondEnd_60 : decode cX5_takeSecondEnd 60 = .ok (.iconst 1, 1) := by decide +kernel
theorem dX5_takeSecondEnd_61 : decode cX5_takeSecondEnd 61 = .ok (.ireturn, 1) := by decide +kernel
theorem dX6_init_0 : decode cX6_init 0 = .ok (.aload_n 0, 1) := by decide +kernel
theorem dX6_init_1 : decode cX6_init 1 = .ok (.invokespecial 3, 3) := by decide +kernel
theorem dX6_init_4 : decode cX6_init 4 = .ok (.aload_n 0, 1) := by decide +kernel
theorem dX6_init_5 : decode cX6_init 5 = .ok (.bipush 40, 2) := by decide +kernel
theorem dX6_init_7 : decode cX6_init 7 = .ok (.newarray .int, 2) := by decide +kernel
theorem dX6_init_9 : decode cX6_init 9 = .ok (.putfield 9, 3) := by decide +kernel
theorem dX6_init_12 : decode cX6_init 12 = .ok (.aload_n 0, 1) := by decide +kernel
theorem dX6_init_13 : decode cX6_init 13 = .ok (.bipush 40, 2) := by decide +kernel
theorem dX6_init_15 : decode cX6_init 15 = .ok (.newarray .int, 2) := by decide +kernel
theorem dX6_init_17 : decode cX6_init 17 = .ok (.putfield 15, 3) := by decide +kernel
theorem dX6_init_20 : decode cX6_init 20 = .ok (.return_, 1) := by decide +kernel
theorem dX6_find_0 : decode cX6_find 0 = .ok (.aload_n 0, 1) := by decide +kernel
theorem dX6_find_1 : decode cX6_find 1 = .ok (.iconst 0, 1) := by decide +kernel
theorem dX6_find_2 : decode cX6_find 2 = .ok (.putfield 18, 3) := by decide +kernel
theorem dX6_find_5 : decode cX6_find 5 = .ok (.aload_n 2, 1) := by decide +kernel
theorem dX6_find_6 : decode cX6_find 6 = .ok (.iload_n 3, 1) := by decide +kernel
theorem dX6_find_7 : decode cX6_find 7 = .ok (.iload 4, 2) := by decide +kernel
theorem dX6_find_9 : decode cX6_find 9 = .ok (.invokevirtual 22, 3) := by decide +kernel
theorem dX6_find_12 : decode cX6_find 12 = .ok (.ifCond .ne 4, 3) := by decide +kernel
theorem dX6_find_15 : decode cX6_find 15 = .ok (.return_, 1) := by decide +kernel
theorem dX6_find_16 : decode cX6_find 16 = .ok (.aload_n 0, 1) := by decide +kernel
theorem dX6_find_17 : decode cX6_find 17 = .ok (.aload_n 1, 1) := by decide +kernel
theorem dX6_find_18 : decode cX6_find 18 = .ok (.aload_n 2, 1) := by decide +kernel
theorem dX6_find_19 : decode cX6_find 19 = .ok (.iload 4, 2) := by decide +kernel
theorem dX6_find_21 : decode cX6_find 21 = .ok (.invokevirtual 28, 3) := by decide +kernel
theorem dX6_find_24 : decode cX6_find 24 = .ok (.aload_n 0, 1) := by decide +kernel
theorem dX6_find_25 : decode cX6_find 25 = .ok (.aload_n 2, 1) := by decide +kernel
theorem dX6_find_26 : decode cX6_find 26 = .ok (.iload_n 3, 1) := by decide +kernel
theorem dX6_find_27 : decode cX6_find 27 = .ok (.invokevirtual 32, 3) := by decide +kernel
theorem dX6_find_30 : decode cX6_find 30 = .ok (.istore 5, 2) := by decide +kernel
theorem dX6_find_32 : decode cX6_find 32 = .ok (.iconst 0, 1) := by decide +kernel
theorem dX6_find_33 : decode cX6_find 33 = .ok (.istore 6, 2) := by decide +kernel
theorem dX6_find_35 : decode cX6_find 35 = .ok (.iload 6, 2) := by decide +kernel
theorem dX6_find_37 : decode cX6_find 37 = .ok (.aload_n 0, 1) := by decide +kernel
theorem dX6_find_38 : decode cX6_find 38 = .ok (.getfield 18, 3) := by decide +kernel
theorem dX6_find_41 : decode cX6_find 41 = .ok (.if_icmp .ge 21, 3) := by decide +kernel
theorem dX6_find_44 : decode cX6_find 44 = .ok (.aload_n 0, 1) := by decide +kernel
theorem dX6_find_45 : decode cX6_find 45 = .ok (.aload_n 1, 1) := by decide +kernel
theorem dX6_find_46 : decode cX6_find 46 = .ok (.aload_n 2, 1) := by decide +kernel
theorem dX6_find_47 : decode cX6_find 47 = .ok (.iload 5, 2) := by decide +kernel
theorem dX6_find_49 : decode cX6_find 49 = .ok (.iload 6, 2) := by decide +kernel
theorem dX6_find_51 : decode cX6_find 51 = .ok (.invokevirtual 36, 3) := by decide +kernel
theorem dX6_find_54 : decode cX6_find 54 = .ok (.istore 5, 2) := by decide +kernel
theorem dX6_find_56 : decode cX6_find 56 = .ok (.iinc 6 1, 3) := by decide +kernel
theorem dX6_find_59 : decode cX6_find 59 = .ok (.goto (-24), 3) := by decide +kernel
theorem dX6_find_62 : decode cX6_find 62 = .ok (.return_, 1) := by decide +kernel
theorem dX6_measure_0 : decode cX6_measure 0 = .ok (.iconst 0, 1) := by decide +kernel
theorem dX6_measure_1 : decode cX6_measure 1 = .ok (.istore 4, 2) := by decide +kernel
theorem dX6_measure_3 : decode cX6_measure 3 = .ok (.iload 4, 2) := by decide +kernel
theorem dX6_measure_5 : decode cX6_measure 5 = .ok (.aload_n 2, 1) := by decide +kernel
theorem dX6_measure_6 : decode cX6_measure 6 = .ok (.getfield 40, 3) := by decide +kernel
theorem dX6_measure_9 : decode cX6_measure 9 = .ok (.if_icmp .ge 31, 3) := by decide +kernel
theorem dX6_measure_12 : decode cX6_measure 12 = .ok (.aload_n 0, 1) := by decide +kernel
theorem dX6_measure_13 : decode cX6_measure 13 = .ok (.getfield 15, 3) := by decide +kernel
theorem dX6_measure_16 : decode cX6_measure 16 = .ok (.iload 4, 2) := by decide +kernel
theorem dX6_measure_18 : decode cX6_measure 18 = .ok (.aload_n 2, 1) := by decide +kernel
theorem dX6_measure_19 : decode cX6_measure 19 = .ok (.iload 4, 2) := by decide +kernel
theorem dX6_measure_21 : decode cX6_measure 21 = .ok (.iload_n 3, 1) := by decide +kernel
theorem dX6_measure_22 : decode cX6_measure 22 = .ok (.invokevirtual 43, 3) := by decide +kernel
theorem dX6_measure_25 : decode cX6_measure 25 = .ok (.ifCond .eq 7, 3) := by decide +kernel
theorem dX6_measure_28 : decode cX6_measure 28 = .ok (.iconst 0, 1) := by decide +kernel
theorem dX6_measure_29 : decode cX6_measure 29 = .ok (.goto 4, 3) := by decide +kernel
theorem dX6_measure_32 : decode cX6_measure 32 = .ok (.iconst (-1), 1) := by decide +kernel
theorem dX6_measure_33 : decode cX6_measure 33 = .ok (.iastore, 1) := by decide +kernel
theorem dX6_measure_34 : decode cX6_measure 34 = .ok (.iinc 4 1, 3) := by decide +kernel
theorem dX6_measure_37 : decode cX6_measure 37 = .ok (.goto (-34), 3) := by decide +kernel
theorem dX6_measure_40 : decode cX6_measure 40 = .ok (.iconst 0, 1) := by decide +kernel
theorem dX6_measure_41 : decode cX6_measure 41 = .ok (.istore 4, 2) := by decide +kernel
theorem dX6_measure_43 : decode cX6_measure 43 = .ok (.iload 4, 2) := by decide +kernel
theorem dX6_measure_45 : decode cX6_measure 45 = .ok (.aload_n 2, 1) := by decide +kernel
theorem dX6_measure_46 : decode cX6_measure 46 = .ok (.getfield 40, 3) := by decide +kernel
theorem dX6_measure_49 : decode cX6_measure 49 = .ok (.if_icmp .ge 78, 3) := by decide +kernel
theorem dX6_measure_52 : decode cX6_measure 52 = .ok (.iconst 0, 1) := by decide +kernel
theorem dX6_measure_53 : decode cX6_measure 53 = .ok (.istore 5, 2) := by decide +kernel
theorem dX6_measure_55 : decode cX6_measure 55 = .ok (.iload 5, 2) := by decide +kernel
theorem dX6_measure_57 : decode cX6_measure 57 = .ok (.iconst 2, 1) := by decide +kernel
theorem dX6_measure_58 : decode cX6_measure 58 = .ok (.aload_n 1, 1) := by decide +kernel
theorem dX6_measure_59 : decode cX6_measure 59 = .ok (.getfield 46, 3) := by decide +kernel
theorem dX6_measure_62 : decode cX6_measure 62 = .ok (.imul, 1) := by decide +kernel
theorem dX6_measure_63 : decode cX6_measure 63 = .ok (.if_icmp .ge 58, 3) := by decide +kernel
theorem dX6_measure_66 : decode cX6_measure 66 = .ok (.aload_n 2, 1) := by decide +kernel
theorem dX6_measure_67 : decode cX6_measure 67 = .ok (.getfield 51, 3) := by decide +kernel
theorem dX6_measure_70 : decode cX6_measure 70 = .ok (.iload 5, 2) := by decide +kernel
theorem dX6_measure_72 : decode cX6_measure 72 = .ok (.iconst 1, 1) := by decide +kernel
theorem dX6_measure_73 : decode cX6_measure 73 = .ok (.ixor, 1) := by decide +kernel
theorem dX6_measure_74 : decode cX6_measure 74 = .ok (.iaload, 1) := by decide +kernel
theorem dX6_measure_75 : decode cX6_measure 75 = .ok (.istore 6, 2) := by decide +kernel
theorem dX6_measure_77 : decode cX6_measure 77 = .ok (.aload_n 0, 1) := by decide +kernel
theorem dX6_measure_78 : decode cX6_measure 78 = .ok (.getfield 15, 3) := by decide +kernel
theorem dX6_measure_81 : decode cX6_measure 81 = .ok (.aload_n 2, 1) := by decide +kernel
theorem dX6_measure_82 : decode cX6_measure 82 = .ok (.getfield 51, 3) := by decide +kernel
theorem dX6_measure_85 : decode cX6_measure 85 = .ok (.iload 5, 2) := by decide +kernel
theorem dX6_measure_87 : decode cX6_measure 87 = .ok (.iaload, 1) := by decide +kernel
theorem dX6_measure_88 : decode cX6_measure 88 = .ok (.iaload, 1) := by decide +kernel
theorem dX6_measure_89 : decode cX6_measure 89 = .ok (.iload 4, 2) := by decide +kernel
theorem dX6_measure_91 : decode cX6_measure 91 = .ok (.if_icmp .ne 24, 3) := by decide +kernel
theorem dX6_measure_94 : decode cX6_measure 94 = .ok (.aload_n 0, 1) := by decide +kernel
theorem dX6_measure_95 : decode cX6_measure 95 = .ok (.getfield 15, 3) := by decide +kernel
theorem dX6_measure_98 : decode cX6_measure 98 = .ok (.iload 6, 2) := by decide +kernel
theorem dX6_measure_100 : decode cX6_measure 100 = .ok (.iaload, 1) := by decide +kernel
theorem dX6_measure_101 : decode cX6_measure 101 = .ok (.ifCond .ge 14, 3) := by decide +kernel
theorem dX6_measure_104 : decode cX6_measure 104 = .ok (.aload_n 0, 1) := by decide +kernel
theorem dX6_measure_105 : decode cX6_measure 105 = .ok (.getfield 15, 3) := by decide +kernel
theorem dX6_measure_108 : decode cX6_measure 108 = .ok (.iload 6, 2) := by decide +kernel
theorem dX6_measure_110 : decode cX6_measure 110 = .ok (.iload 4, 2) := by decide +kernel
theorem dX6_measure_112 : decode cX6_measure 112 = .ok (.iconst 1, 1) := by decide +kernel
theorem dX6_measure_113 : decode cX6_measure 113 = .ok (.iadd, 1) := by decide +kernel
theorem dX6_measure_114 : decode cX6_measure 114 = .ok (.iastore, 1) := by decide +kernel
theorem dX6_measure_115 : decode cX6_measure 115 = .ok (.iinc 5 1, 3) := by decide +kernel
theorem dX6_measure_118 : decode cX6_measure 118 = .ok (.goto (-63), 3) := by decide +kernel
theorem dX6_measure_121 : decode cX6_measure 121 = .ok (.iinc 4 1, 3) := by decide +kernel
theorem dX6_measure_124 : decode cX6_measure 124 = .ok (.goto (-81), 3) := by decide +kernel
theorem dX6_measure_127 : decode cX6_measure 127 = .ok (.return_, 1) := by decide +kernel
theorem dX6_chooseStart_0 : decode cX6_chooseStart 0 = .ok (.iconst 0, 1) := by decide +kernel
theorem dX6_chooseStart_1 : decode cX6_chooseStart 1 = .ok (.istore_n 3, 1) := by decide +kernel
theorem dX6_chooseStart_2 : decode cX6_chooseStart 2 = .ok (.aload_n 0, 1) := by decide +kernel
theorem dX6_chooseStart_3 : decode cX6_chooseStart 3 = .ok (.bipush 40, 2) := by decide +kernel
theorem dX6_chooseStart_5 : decode cX6_chooseStart 5 = .ok (.putfield 18, 3) := by decide +kernel
theorem dX6_chooseStart_8 : decode cX6_chooseStart 8 = .ok (.iconst 0, 1) := by decide +kernel
theorem dX6_chooseStart_9 : decode cX6_chooseStart 9 = .ok (.istore 4, 2) := by decide +kernel
theorem dX6_chooseStart_11 : decode cX6_chooseStart 11 = .ok (.iload 4, 2) := by decide +kernel
theorem dX6_chooseStart_13 : decode cX6_chooseStart 13 = .ok (.aload_n 1, 1) := by decide +kernel
theorem dX6_chooseStart_14 : decode cX6_chooseStart 14 = .ok (.getfield 40, 3) := by decide +kernel
theorem dX6_chooseStart_17 : decode cX6_chooseStart 17 = .ok (.if_icmp .ge 84, 3) := by decide +kernel
theorem dX6_chooseStart_20 : decode cX6_chooseStart 20 = .ok (.aload_n 1, 1) := by decide +kernel
theorem dX6_chooseStart_21 : decode cX6_chooseStart 21 = .ok (.iload 4, 2) := by decide +kernel
theorem dX6_chooseStart_23 : decode cX6_chooseStart 23 = .ok (.iload_n 2, 1) := by decide +kernel
theorem dX6_chooseStart_24 : decode cX6_chooseStart 24 = .ok (.invokevirtual 43, 3) := by decide +kernel
theorem dX6_chooseStart_27 : decode cX6_chooseStart 27 = .ok (.ifCond .eq 68, 3) := by decide +kernel
theorem dX6_chooseStart_30 : decode cX6_chooseStart 30 = .ok (.aload_n 0, 1) := by decide +kernel
theorem dX6_chooseStart_31 : decode cX6_chooseStart 31 = .ok (.getfield 15, 3) := by decide +kernel
theorem dX6_chooseStart_34 : decode cX6_chooseStart 34 = .ok (.iload 4, 2) := by decide +kernel
theorem dX6_chooseStart_36 : decode cX6_chooseStart 36 = .ok (.iaload, 1) := by decide +kernel
theorem dX6_chooseStart_37 : decode cX6_chooseStart 37 = .ok (.ifCond .lt 58, 3) := by decide +kernel
theorem dX6_chooseStart_40 : decode cX6_chooseStart 40 = .ok (.aload_n 0, 1) := by decide +kernel
theorem dX6_chooseStart_41 : decode cX6_chooseStart 41 = .ok (.getfield 15, 3) := by decide +kernel
theorem dX6_chooseStart_44 : decode cX6_chooseStart 44 = .ok (.iload 4, 2) := by decide +kernel
theorem dX6_chooseStart_46 : decode cX6_chooseStart 46 = .ok (.iaload, 1) := by decide +kernel
theorem dX6_chooseStart_47 : decode cX6_chooseStart 47 = .ok (.aload_n 0, 1) := by decide +kernel
theorem dX6_chooseStart_48 : decode cX6_chooseStart 48 = .ok (.getfield 18, 3) := by decide +kernel
theorem dX6_chooseStart_51 : decode cX6_chooseStart 51 = .ok (.if_icmp .gt 44, 3) := by decide +kernel
theorem dX6_chooseStart_54 : decode cX6_chooseStart 54 = .ok (.aload_n 0, 1) := by decide +kernel
theorem dX6_chooseStart_55 : decode cX6_chooseStart 55 = .ok (.getfield 15, 3) := by decide +kernel
theorem dX6_chooseStart_58 : decode cX6_chooseStart 58 = .ok (.iload 4, 2) := by decide +kernel
theorem dX6_chooseStart_60 : decode cX6_chooseStart 60 = .ok (.iaload, 1) := by decide +kernel
theorem dX6_chooseStart_61 : decode cX6_chooseStart 61 = .ok (.aload_n 0, 1) := by decide +kernel
theorem dX6_chooseStart_62 : decode cX6_chooseStart 62 = .ok (.getfield 18, 3) := by decide +kernel
theorem dX6_chooseStart_65 : decode cX6_chooseStart 65 = .ok (.if_icmp .ge 11, 3) := by decide +kernel
theorem dX6_chooseStart_68 : decode cX6_chooseStart 68 = .ok (.iload 4, 2) := by decide +kernel
theorem dX6_chooseStart_70 : decode cX6_chooseStart 70 = .ok (.invokestatic 54, 3) := by decide +kernel
theorem dX6_chooseStart_73 : decode cX6_chooseStart 73 = .ok (.goto 10, 3) := by decide +kernel
theorem dX6_chooseStart_76 : decode cX6_chooseStart 76 = .ok (.iload_n 3, 1) := by decide +kernel
theorem dX6_chooseStart_77 : decode cX6_chooseStart 77 = .ok (.iload 4, 2) := by decide +kernel
theorem dX6_chooseStart_79 : decode cX6_chooseStart 79 = .ok (.invokestatic 54, 3) := by decide +kernel
theorem dX6_chooseStart_82 : decode cX6_chooseStart 82 = .ok (.ior, 1) := by decide +kernel
theorem dX6_chooseStart_83 : decode cX6_chooseStart 83 = .ok (.istore_n 3, 1) := by decide +kernel
theorem dX6_chooseStart_84 : decode cX6_chooseStart 84 = .ok (.aload_n 0, 1) := by decide +kernel
theorem dX6_chooseStart_85 : decode cX6_chooseStart 85 = .ok (.aload_n 0, 1) := by decide +kernel
theorem dX6_chooseStart_86 : decode cX6_chooseStart 86 = .ok (.getfield 15, 3) := by decide +kernel
theorem dX6_chooseStart_89 : decode cX6_chooseStart 89 = .ok (.iload 4, 2) := by decide +kernel
theorem dX6_chooseStart_91 : decode cX6_chooseStart 91 = .ok (.iaload, 1) := by decide +kernel
theorem dX6_chooseStart_92 : decode cX6_chooseStart 92 = .ok (.putfield 18, 3) := by decide +kernel
theorem dX6_chooseStart_95 : decode cX6_chooseStart 95 = .ok (.iinc 4 1, 3) := by decide +kernel
theorem dX6_chooseStart_98 : decode cX6_chooseStart 98 = .ok (.goto (-87), 3) := by decide +kernel
theorem dX6_chooseStart_101 : decode cX6_chooseStart 101 = .ok (.iload_n 3, 1) := by decide +kernel
theorem dX6_chooseStart_102 : decode cX6_chooseStart 102 = .ok (.ireturn, 1) := by decide +kernel
theorem dX6_cross_0 : decode cX6_cross 0 = .ok (.iconst 0, 1) := by decide +kernel
theorem dX6_cross_1 : decode cX6_cross 1 = .ok (.istore 5, 2) := by decide +kernel
theorem dX6_cross_3 : decode cX6_cross 3 = .ok (.iload 5, 2) := by decide +kernel
theorem dX6_cross_5 : decode cX6_cross 5 = .ok (.iconst 2, 1) := by decide +kernel
theorem dX6_cross_6 : decode cX6_cross 6 = .ok (.aload_n 1, 1) := by decide +kernel
theorem dX6_cross_7 : decode cX6_cross 7 = .ok (.getfield 46, 3) := by decide +kernel
theorem dX6_cross_10 : decode cX6_cross 10 = .ok (.imul, 1) := by decide +kernel
theorem dX6_cross_11 : decode cX6_cross 11 = .ok (.if_icmp .ge 70, 3) := by decide +kernel
theorem dX6_cross_14 : decode cX6_cross 14 = .ok (.aload_n 2, 1) := by decide +kernel
theorem dX6_cross_15 : decode cX6_cross 15 = .ok (.getfield 51, 3) := by decide +kernel
theorem dX6_cross_18 : decode cX6_cross 18 = .ok (.iload 5, 2) := by decide +kernel
theorem dX6_cross_20 : decode cX6_cross 20 = .ok (.iconst 1, 1) := by decide +kernel
theorem dX6_cross_21 : decode cX6_cross 21 = .ok (.ixor, 1) := by decide +kernel
theorem dX6_cross_22 : decode cX6_cross 22 = .ok (.iaload, 1) := by decide +kernel
theorem dX6_cross_23 : decode cX6_cross 23 = .ok (.istore 6, 2) := by decide +kernel
theorem dX6_cross_25 : decode cX6_cross 25 = .ok (.iload_n 3, 1) := by decide +kernel
theorem dX6_cross_26 : decode cX6_cross 26 = .ok (.aload_n 2, 1) := by decide +kernel
theorem dX6_cross_27 : decode cX6_cross 27 = .ok (.getfield 51, 3) := by decide +kernel
theorem dX6_cross_30 : decode cX6_cross 30 = .ok (.iload 5, 2) := by decide +kernel
theorem dX6_cross_32 : decode cX6_cross 32 = .ok (.iaload, 1) := by decide +kernel
theorem dX6_cross_33 : decode cX6_cross 33 = .ok (.invokestatic 58, 3) := by decide +kernel
theorem dX6_cross_36 : decode cX6_cross 36 = .ok (.ifCond .eq 39, 3) := by decide +kernel
theorem dX6_cross_39 : decode cX6_cross 39 = .ok (.aload_n 0, 1) := by decide +kernel
theorem dX6_cross_40 : decode cX6_cross 40 = .ok (.getfield 15, 3) := by decide +kernel
theorem dX6_cross_43 : decode cX6_cross 43 = .ok (.iload 6, 2) := by decide +kernel
theorem dX6_cross_45 : decode cX6_cross 45 = .ok (.iaload, 1) := by decide +kernel
theorem dX6_cross_46 : decode cX6_cross 46 = .ok (.aload_n 0, 1) := by decide +kernel
theorem dX6_cross_47 : decode cX6_cross 47 = .ok (.getfield 18, 3) := by decide +kernel
theorem dX6_cross_50 : decode cX6_cross 50 = .ok (.iload 4, 2) := by decide +kernel
theorem dX6_cross_52 : decode cX6_cross 52 = .ok (.isub, 1) := by decide +kernel
theorem dX6_cross_53 : decode cX6_cross 53 = .ok (.iconst 1, 1) := by decide +kernel
theorem dX6_cross_54 : decode cX6_cross 54 = .ok (.isub, 1) := by decide +kernel
theorem dX6_cross_55 : decode cX6_cross 55 = .ok (.if_icmp .ne 20, 3) := by decide +kernel
theorem dX6_cross_58 : decode cX6_cross 58 = .ok (.aload_n 0, 1) := by decide +kernel
theorem dX6_cross_59 : decode cX6_cross 59 = .ok (.getfield 9, 3) := by decide +kernel
theorem dX6_cross_62 : decode cX6_cross 62 = .ok (.iload 4, 2) := by decide +kernel
theorem dX6_cross_64 : decode cX6_cross 64 = .ok (.iload 5, 2) := by decide +kernel
theorem dX6_cross_66 : decode cX6_cross 66 = .ok (.iconst 2, 1) := by decide +kernel
theorem dX6_cross_67 : decode cX6_cross 67 = .ok (.idiv, 1) := by decide +kernel
theorem dX6_cross_68 : decode cX6_cross 68 = .ok (.iastore, 1) := by decide +kernel
theorem dX6_cross_69 : decode cX6_cross 69 = .ok (.iload 6, 2) := by decide +kernel
theorem dX6_cross_71 : decode cX6_cross 71 = .ok (.invokestatic 54, 3) := by decide +kernel
theorem dX6_cross_74 : decode cX6_cross 74 = .ok (.ireturn, 1) := by decide +kernel
theorem dX6_cross_75 : decode cX6_cross 75 = .ok (.iinc 5 1, 3) := by decide +kernel
theorem dX6_cross_78 : decode cX6_cross 78 = .ok (.goto (-75), 3) := by decide +kernel
theorem dX6_cross_81 : decode cX6_cross 81 = .ok (.iload_n 3, 1) := by decide +kernel
theorem dX6_cross_82 : decode cX6_cross 82 = .ok (.ireturn, 1) := by decide +kernel

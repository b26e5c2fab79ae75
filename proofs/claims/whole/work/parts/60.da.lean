theorem dX0_init_0 : decode cX0_init 0 = .ok (.aload_n 0, 1) := by decide +kernel
theorem dX0_init_1 : decode cX0_init 1 = .ok (.invokespecial 3, 3) := by decide +kernel
theorem dX0_init_4 : decode cX0_init 4 = .ok (.aload_n 0, 1) := by decide +kernel
theorem dX0_init_5 : decode cX0_init 5 = .ok (.iconst 4, 1) := by decide +kernel
theorem dX0_init_6 : decode cX0_init 6 = .ok (.putfield 9, 3) := by decide +kernel
theorem dX0_init_9 : decode cX0_init 9 = .ok (.aload_n 0, 1) := by decide +kernel
theorem dX0_init_10 : decode cX0_init 10 = .ok (.bipush 40, 2) := by decide +kernel
theorem dX0_init_12 : decode cX0_init 12 = .ok (.newarray .int, 2) := by decide +kernel
theorem dX0_init_14 : decode cX0_init 14 = .ok (.putfield 15, 3) := by decide +kernel
theorem dX0_init_17 : decode cX0_init 17 = .ok (.aload_n 0, 1) := by decide +kernel
theorem dX0_init_18 : decode cX0_init 18 = .ok (.bipush 40, 2) := by decide +kernel
theorem dX0_init_20 : decode cX0_init 20 = .ok (.newarray .int, 2) := by decide +kernel
theorem dX0_init_22 : decode cX0_init 22 = .ok (.putfield 19, 3) := by decide +kernel
theorem dX0_init_25 : decode cX0_init 25 = .ok (.aload_n 0, 1) := by decide +kernel
theorem dX0_init_26 : decode cX0_init 26 = .ok (.bipush 40, 2) := by decide +kernel
theorem dX0_init_28 : decode cX0_init 28 = .ok (.newarray .int, 2) := by decide +kernel
theorem dX0_init_30 : decode cX0_init 30 = .ok (.putfield 22, 3) := by decide +kernel
theorem dX0_init_33 : decode cX0_init 33 = .ok (.aload_n 0, 1) := by decide +kernel
theorem dX0_init_34 : decode cX0_init 34 = .ok (.bipush 40, 2) := by decide +kernel
theorem dX0_init_36 : decode cX0_init 36 = .ok (.newarray .int, 2) := by decide +kernel
theorem dX0_init_38 : decode cX0_init 38 = .ok (.putfield 25, 3) := by decide +kernel
theorem dX0_init_41 : decode cX0_init 41 = .ok (.aload_n 0, 1) := by decide +kernel
theorem dX0_init_42 : decode cX0_init 42 = .ok (.bipush 40, 2) := by decide +kernel
theorem dX0_init_44 : decode cX0_init 44 = .ok (.newarray .int, 2) := by decide +kernel
theorem dX0_init_46 : decode cX0_init 46 = .ok (.putfield 28, 3) := by decide +kernel
theorem dX0_init_49 : decode cX0_init 49 = .ok (.aload_n 0, 1) := by decide +kernel
theorem dX0_init_50 : decode cX0_init 50 = .ok (.bipush 9, 2) := by decide +kernel
theorem dX0_init_52 : decode cX0_init 52 = .ok (.newarray .int, 2) := by decide +kernel
theorem dX0_init_54 : decode cX0_init 54 = .ok (.putfield 31, 3) := by decide +kernel
theorem dX0_init_57 : decode cX0_init 57 = .ok (.return_, 1) := by decide +kernel
theorem dX0_trace_0 : decode cX0_trace 0 = .ok (.aload_n 0, 1) := by decide +kernel
theorem dX0_trace_1 : decode cX0_trace 1 = .ok (.iconst 0, 1) := by decide +kernel
theorem dX0_trace_2 : decode cX0_trace 2 = .ok (.putfield 34, 3) := by decide +kernel
theorem dX0_trace_5 : decode cX0_trace 5 = .ok (.aload_n 0, 1) := by decide +kernel
theorem dX0_trace_6 : decode cX0_trace 6 = .ok (.getfield 19, 3) := by decide +kernel
theorem dX0_trace_9 : decode cX0_trace 9 = .ok (.iconst (-1), 1) := by decide +kernel
theorem dX0_trace_10 : decode cX0_trace 10 = .ok (.invokestatic 37, 3) := by decide +kernel
theorem dX0_trace_13 : decode cX0_trace 13 = .ok (.iconst 0, 1) := by decide +kernel
theorem dX0_trace_14 : decode cX0_trace 14 = .ok (.istore_n 2, 1) := by decide +kernel
theorem dX0_trace_15 : decode cX0_trace 15 = .ok (.iload_n 2, 1) := by decide +kernel
theorem dX0_trace_16 : decode cX0_trace 16 = .ok (.iconst 2, 1) := by decide +kernel
theorem dX0_trace_17 : decode cX0_trace 17 = .ok (.aload_n 1, 1) := by decide +kernel
theorem dX0_trace_18 : decode cX0_trace 18 = .ok (.getfield 43, 3) := by decide +kernel
theorem dX0_trace_21 : decode cX0_trace 21 = .ok (.imul, 1) := by decide +kernel
theorem dX0_trace_22 : decode cX0_trace 22 = .ok (.if_icmp .ge 20, 3) := by decide +kernel
theorem dX0_trace_25 : decode cX0_trace 25 = .ok (.aload_n 0, 1) := by decide +kernel
theorem dX0_trace_26 : decode cX0_trace 26 = .ok (.getfield 15, 3) := by decide +kernel
theorem dX0_trace_29 : decode cX0_trace 29 = .ok (.iload_n 2, 1) := by decide +kernel
theorem dX0_trace_30 : decode cX0_trace 30 = .ok (.aload_n 1, 1) := by decide +kernel
theorem dX0_trace_31 : decode cX0_trace 31 = .ok (.iload_n 2, 1) := by decide +kernel
theorem dX0_trace_32 : decode cX0_trace 32 = .ok (.invokevirtual 48, 3) := by decide +kernel
theorem dX0_trace_35 : decode cX0_trace 35 = .ok (.iastore, 1) := by decide +kernel
theorem dX0_trace_36 : decode cX0_trace 36 = .ok (.iinc 2 1, 3) := by decide +kernel
theorem dX0_trace_39 : decode cX0_trace 39 = .ok (.goto (-24), 3) := by decide +kernel
theorem dX0_trace_42 : decode cX0_trace 42 = .ok (.iconst 0, 1) := by decide +kernel
theorem dX0_trace_43 : decode cX0_trace 43 = .ok (.istore_n 2, 1) := by decide +kernel
theorem dX0_trace_44 : decode cX0_trace 44 = .ok (.iload_n 2, 1) := by decide +kernel
theorem dX0_trace_45 : decode cX0_trace 45 = .ok (.iconst 2, 1) := by decide +kernel
theorem dX0_trace_46 : decode cX0_trace 46 = .ok (.aload_n 1, 1) := by decide +kernel
theorem dX0_trace_47 : decode cX0_trace 47 = .ok (.getfield 43, 3) := by decide +kernel
theorem dX0_trace_50 : decode cX0_trace 50 = .ok (.imul, 1) := by decide +kernel
theorem dX0_trace_51 : decode cX0_trace 51 = .ok (.if_icmp .ge 24, 3) := by decide +kernel
theorem dX0_trace_54 : decode cX0_trace 54 = .ok (.aload_n 0, 1) := by decide +kernel
theorem dX0_trace_55 : decode cX0_trace 55 = .ok (.getfield 19, 3) := by decide +kernel
theorem dX0_trace_58 : decode cX0_trace 58 = .ok (.iload_n 2, 1) := by decide +kernel
theorem dX0_trace_59 : decode cX0_trace 59 = .ok (.iaload, 1) := by decide +kernel
theorem dX0_trace_60 : decode cX0_trace 60 = .ok (.ifCond .ge 9, 3) := by decide +kernel
theorem dX0_trace_63 : decode cX0_trace 63 = .ok (.aload_n 0, 1) := by decide +kernel
theorem dX0_trace_64 : decode cX0_trace 64 = .ok (.aload_n 1, 1) := by decide +kernel
theorem dX0_trace_65 : decode cX0_trace 65 = .ok (.iload_n 2, 1) := by decide +kernel
theorem dX0_trace_66 : decode cX0_trace 66 = .ok (.invokevirtual 52, 3) := by decide +kernel
theorem dX0_trace_69 : decode cX0_trace 69 = .ok (.iinc 2 1, 3) := by decide +kernel
theorem dX0_trace_72 : decode cX0_trace 72 = .ok (.goto (-28), 3) := by decide +kernel
theorem dX0_trace_75 : decode cX0_trace 75 = .ok (.aload_n 1, 1) := by decide +kernel
theorem dX0_trace_76 : decode cX0_trace 76 = .ok (.aload_n 0, 1) := by decide +kernel
theorem dX0_trace_77 : decode cX0_trace 77 = .ok (.getfield 31, 3) := by decide +kernel
theorem dX0_trace_80 : decode cX0_trace 80 = .ok (.invokevirtual 56, 3) := by decide +kernel
theorem dX0_trace_83 : decode cX0_trace 83 = .ok (.aload_n 0, 1) := by decide +kernel
theorem dX0_trace_84 : decode cX0_trace 84 = .ok (.aload_n 1, 1) := by decide +kernel
theorem dX0_trace_85 : decode cX0_trace 85 = .ok (.invokevirtual 60, 3) := by decide +kernel
theorem dX0_trace_88 : decode cX0_trace 88 = .ok (.return_, 1) := by decide +kernel
theorem dX0_walkFrom_0 : decode cX0_walkFrom 0 = .ok (.aload_n 0, 1) := by decide +kernel
theorem dX0_walkFrom_1 : decode cX0_walkFrom 1 = .ok (.getfield 22, 3) := by decide +kernel
theorem dX0_walkFrom_4 : decode cX0_walkFrom 4 = .ok (.aload_n 0, 1) := by decide +kernel
theorem dX0_walkFrom_5 : decode cX0_walkFrom 5 = .ok (.getfield 34, 3) := by decide +kernel
theorem dX0_walkFrom_8 : decode cX0_walkFrom 8 = .ok (.iload_n 2, 1) := by decide +kernel
theorem dX0_walkFrom_9 : decode cX0_walkFrom 9 = .ok (.iastore, 1) := by decide +kernel
theorem dX0_walkFrom_10 : decode cX0_walkFrom 10 = .ok (.aload_n 0, 1) := by decide +kernel
theorem dX0_walkFrom_11 : decode cX0_walkFrom 11 = .ok (.getfield 25, 3) := by decide +kernel
theorem dX0_walkFrom_14 : decode cX0_walkFrom 14 = .ok (.aload_n 0, 1) := by decide +kernel
theorem dX0_walkFrom_15 : decode cX0_walkFrom 15 = .ok (.getfield 34, 3) := by decide +kernel
theorem dX0_walkFrom_18 : decode cX0_walkFrom 18 = .ok (.iconst 0, 1) := by decide +kernel
theorem dX0_walkFrom_19 : decode cX0_walkFrom 19 = .ok (.iastore, 1) := by decide +kernel
theorem dX0_walkFrom_20 : decode cX0_walkFrom 20 = .ok (.aload_n 0, 1) := by decide +kernel
theorem dX0_walkFrom_21 : decode cX0_walkFrom 21 = .ok (.getfield 28, 3) := by decide +kernel
theorem dX0_walkFrom_24 : decode cX0_walkFrom 24 = .ok (.aload_n 0, 1) := by decide +kernel
theorem dX0_walkFrom_25 : decode cX0_walkFrom 25 = .ok (.getfield 34, 3) := by decide +kernel
theorem dX0_walkFrom_28 : decode cX0_walkFrom 28 = .ok (.iconst 0, 1) := by decide +kernel
theorem dX0_walkFrom_29 : decode cX0_walkFrom 29 = .ok (.iastore, 1) := by decide +kernel
theorem dX0_walkFrom_30 : decode cX0_walkFrom 30 = .ok (.iload_n 2, 1) := by decide +kernel
theorem dX0_walkFrom_31 : decode cX0_walkFrom 31 = .ok (.istore_n 3, 1) := by decide +kernel
theorem dX0_walkFrom_32 : decode cX0_walkFrom 32 = .ok (.iconst 0, 1) := by decide +kernel
theorem dX0_walkFrom_33 : decode cX0_walkFrom 33 = .ok (.istore 4, 2) := by decide +kernel
theorem dX0_walkFrom_35 : decode cX0_walkFrom 35 = .ok (.iload 4, 2) := by decide +kernel
theorem dX0_walkFrom_37 : decode cX0_walkFrom 37 = .ok (.bipush 40, 2) := by decide +kernel
theorem dX0_walkFrom_39 : decode cX0_walkFrom 39 = .ok (.if_icmp .ge 68, 3) := by decide +kernel
theorem dX0_walkFrom_42 : decode cX0_walkFrom 42 = .ok (.aload_n 0, 1) := by decide +kernel
theorem dX0_walkFrom_43 : decode cX0_walkFrom 43 = .ok (.getfield 19, 3) := by decide +kernel
theorem dX0_walkFrom_46 : decode cX0_walkFrom 46 = .ok (.iload_n 3, 1) := by decide +kernel
theorem dX0_walkFrom_47 : decode cX0_walkFrom 47 = .ok (.iaload, 1) := by decide +kernel
theorem dX0_walkFrom_48 : decode cX0_walkFrom 48 = .ok (.ifCond .ge 59, 3) := by decide +kernel
theorem dX0_walkFrom_51 : decode cX0_walkFrom 51 = .ok (.aload_n 0, 1) := by decide +kernel
theorem dX0_walkFrom_52 : decode cX0_walkFrom 52 = .ok (.getfield 19, 3) := by decide +kernel
theorem dX0_walkFrom_55 : decode cX0_walkFrom 55 = .ok (.iload_n 3, 1) := by decide +kernel
theorem dX0_walkFrom_56 : decode cX0_walkFrom 56 = .ok (.aload_n 0, 1) := by decide +kernel
theorem dX0_walkFrom_57 : decode cX0_walkFrom 57 = .ok (.getfield 34, 3) := by decide +kernel
theorem dX0_walkFrom_60 : decode cX0_walkFrom 60 = .ok (.iastore, 1) := by decide +kernel
theorem dX0_walkFrom_61 : decode cX0_walkFrom 61 = .ok (.aload_n 0, 1) := by decide +kernel
theorem dX0_walkFrom_62 : decode cX0_walkFrom 62 = .ok (.getfield 25, 3) := by decide +kernel
theorem dX0_walkFrom_65 : decode cX0_walkFrom 65 = .ok (.aload_n 0, 1) := by decide +kernel
theorem dX0_walkFrom_66 : decode cX0_walkFrom 66 = .ok (.getfield 34, 3) := by decide +kernel
theorem dX0_walkFrom_69 : decode cX0_walkFrom 69 = .ok (.dup2, 1) := by decide +kernel
theorem dX0_walkFrom_70 : decode cX0_walkFrom 70 = .ok (.iaload, 1) := by decide +kernel
theorem dX0_walkFrom_71 : decode cX0_walkFrom 71 = .ok (.iconst 1, 1) := by decide +kernel
theorem dX0_walkFrom_72 : decode cX0_walkFrom 72 = .ok (.iadd, 1) := by decide +kernel
theorem dX0_walkFrom_73 : decode cX0_walkFrom 73 = .ok (.iastore, 1) := by decide +kernel
theorem dX0_walkFrom_74 : decode cX0_walkFrom 74 = .ok (.aload_n 0, 1) := by decide +kernel
theorem dX0_walkFrom_75 : decode cX0_walkFrom 75 = .ok (.getfield 28, 3) := by decide +kernel
theorem dX0_walkFrom_78 : decode cX0_walkFrom 78 = .ok (.aload_n 0, 1) := by decide +kernel
theorem dX0_walkFrom_79 : decode cX0_walkFrom 79 = .ok (.getfield 34, 3) := by decide +kernel
theorem dX0_walkFrom_82 : decode cX0_walkFrom 82 = .ok (.dup2, 1) := by decide +kernel
theorem dX0_walkFrom_83 : decode cX0_walkFrom 83 = .ok (.iaload, 1) := by decide +kernel
theorem dX0_walkFrom_84 : decode cX0_walkFrom 84 = .ok (.aload_n 1, 1) := by decide +kernel
theorem dX0_walkFrom_85 : decode cX0_walkFrom 85 = .ok (.iload_n 3, 1) := by decide +kernel
theorem dX0_walkFrom_86 : decode cX0_walkFrom 86 = .ok (.invokevirtual 64, 3) := by decide +kernel
theorem dX0_walkFrom_89 : decode cX0_walkFrom 89 = .ok (.invokestatic 67, 3) := by decide +kernel
theorem dX0_walkFrom_92 : decode cX0_walkFrom 92 = .ok (.ior, 1) := by decide +kernel
theorem dX0_walkFrom_93 : decode cX0_walkFrom 93 = .ok (.iastore, 1) := by decide +kernel
theorem dX0_walkFrom_94 : decode cX0_walkFrom 94 = .ok (.aload_n 0, 1) := by decide +kernel
theorem dX0_walkFrom_95 : decode cX0_walkFrom 95 = .ok (.getfield 15, 3) := by decide +kernel
theorem dX0_walkFrom_98 : decode cX0_walkFrom 98 = .ok (.iload_n 3, 1) := by decide +kernel
theorem dX0_walkFrom_99 : decode cX0_walkFrom 99 = .ok (.iaload, 1) := by decide +kernel
theorem dX0_walkFrom_100 : decode cX0_walkFrom 100 = .ok (.istore_n 3, 1) := by decide +kernel
theorem dX0_walkFrom_101 : decode cX0_walkFrom 101 = .ok (.iinc 4 1, 3) := by decide +kernel
theorem dX0_walkFrom_104 : decode cX0_walkFrom 104 = .ok (.goto (-69), 3) := by decide +kernel
theorem dX0_walkFrom_107 : decode cX0_walkFrom 107 = .ok (.aload_n 0, 1) := by decide +kernel
theorem dX0_walkFrom_108 : decode cX0_walkFrom 108 = .ok (.dup, 1) := by decide +kernel
theorem dX0_walkFrom_109 : decode cX0_walkFrom 109 = .ok (.getfield 34, 3) := by decide +kernel
theorem dX0_walkFrom_112 : decode cX0_walkFrom 112 = .ok (.iconst 1, 1) := by decide +kernel
theorem dX0_walkFrom_113 : decode cX0_walkFrom 113 = .ok (.iadd, 1) := by decide +kernel
theorem dX0_walkFrom_114 : decode cX0_walkFrom 114 = .ok (.putfield 34, 3) := by decide +kernel
theorem dX0_walkFrom_117 : decode cX0_walkFrom 117 = .ok (.return_, 1) := by decide +kernel
theorem dX0_countComponents_0 : decode cX0_countComponents 0 = .ok (.aload_n 0, 1) := by decide +kernel
theorem dX0_countComponents_1 : decode cX0_countComponents 1 = .ok (.iconst 0, 1) := by decide +kernel
theorem dX0_countComponents_2 : decode cX0_countComponents 2 = .ok (.putfield 9, 3) := by decide +kernel
theorem dX0_countComponents_5 : decode cX0_countComponents 5 = .ok (.aload_n 1, 1) := by decide +kernel
theorem dX0_countComponents_6 : decode cX0_countComponents 6 = .ok (.getfield 43, 3) := by decide +kernel
theorem dX0_countComponents_9 : decode cX0_countComponents 9 = .ok (.aload_n 0, 1) := by decide +kernel
theorem dX0_countComponents_10 : decode cX0_countComponents 10 = .ok (.getfield 34, 3) := by decide +kernel
theorem dX0_countComponents_13 : decode cX0_countComponents 13 = .ok (.isub, 1) := by decide +kernel
theorem dX0_countComponents_14 : decode cX0_countComponents 14 = .ok (.istore_n 2, 1) := by decide +kernel
theorem dX0_countComponents_15 : decode cX0_countComponents 15 = .ok (.iconst 0, 1) := by decide +kernel
theorem dX0_countComponents_16 : decode cX0_countComponents 16 = .ok (.istore_n 3, 1) := by decide +kernel
theorem dX0_countComponents_17 : decode cX0_countComponents 17 = .ok (.iconst 0, 1) := by decide +kernel
theorem dX0_countComponents_18 : decode cX0_countComponents 18 = .ok (.istore 4, 2) := by decide +kernel
theorem dX0_countComponents_20 : decode cX0_countComponents 20 = .ok (.iload 4, 2) := by decide +kernel
theorem dX0_countComponents_22 : decode cX0_countComponents 22 = .ok (.aload_n 1, 1) := by decide +kernel
theorem dX0_countComponents_23 : decode cX0_countComponents 23 = .ok (.getfield 70, 3) := by decide +kernel
theorem dX0_countComponents_26 : decode cX0_countComponents 26 = .ok (.if_icmp .ge 69, 3) := by decide +kernel
theorem dX0_countComponents_29 : decode cX0_countComponents 29 = .ok (.iload_n 3, 1) := by decide +kernel
theorem dX0_countComponents_30 : decode cX0_countComponents 30 = .ok (.iload 4, 2) := by decide +kernel
theorem dX0_countComponents_32 : decode cX0_countComponents 32 = .ok (.invokestatic 73, 3) := by decide +kernel
theorem dX0_countComponents_35 : decode cX0_countComponents 35 = .ok (.ifCond .ne 54, 3) := by decide +kernel
theorem dX0_countComponents_38 : decode cX0_countComponents 38 = .ok (.iload 4, 2) := by decide +kernel
theorem dX0_countComponents_40 : decode cX0_countComponents 40 = .ok (.iconst (-1), 1) := by decide +kernel
theorem dX0_countComponents_41 : decode cX0_countComponents 41 = .ok (.aload_n 0, 1) := by decide +kernel
theorem dX0_countComponents_42 : decode cX0_countComponents 42 = .ok (.getfield 31, 3) := by decide +kernel
theorem dX0_countComponents_45 : decode cX0_countComponents 45 = .ok (.invokestatic 77, 3) := by decide +kernel
theorem dX0_countComponents_48 : decode cX0_countComponents 48 = .ok (.istore 5, 2) := by decide +kernel
theorem dX0_countComponents_50 : decode cX0_countComponents 50 = .ok (.iload_n 3, 1) := by decide +kernel
theorem dX0_countComponents_51 : decode cX0_countComponents 51 = .ok (.iload 5, 2) := by decide +kernel
theorem dX0_countComponents_53 : decode cX0_countComponents 53 = .ok (.ior, 1) := by decide +kernel
theorem dX0_countComponents_54 : decode cX0_countComponents 54 = .ok (.istore_n 3, 1) := by decide +kernel
theorem dX0_countComponents_55 : decode cX0_countComponents 55 = .ok (.aload_n 0, 1) := by decide +kernel
theorem dX0_countComponents_56 : decode cX0_countComponents 56 = .ok (.dup, 1) := by decide +kernel
theorem dX0_countComponents_57 : decode cX0_countComponents 57 = .ok (.getfield 9, 3) := by decide +kernel
theorem dX0_countComponents_60 : decode cX0_countComponents 60 = .ok (.iconst 1, 1) := by decide +kernel
theorem dX0_countComponents_61 : decode cX0_countComponents 61 = .ok (.iadd, 1) := by decide +kernel
theorem dX0_countComponents_62 : decode cX0_countComponents 62 = .ok (.putfield 9, 3) := by decide +kernel
theorem dX0_countComponents_65 : decode cX0_countComponents 65 = .ok (.iload_n 2, 1) := by decide +kernel
theorem dX0_countComponents_66 : decode cX0_countComponents 66 = .ok (.aload_n 0, 1) := by decide +kernel
theorem dX0_countComponents_67 : decode cX0_countComponents 67 = .ok (.getfield 31, 3) := by decide +kernel
theorem dX0_countComponents_70 : decode cX0_countComponents 70 = .ok (.iload 4, 2) := by decide +kernel
theorem dX0_countComponents_72 : decode cX0_countComponents 72 = .ok (.iaload, 1) := by decide +kernel
theorem dX0_countComponents_73 : decode cX0_countComponents 73 = .ok (.ifCond .ne 7, 3) := by decide +kernel
theorem dX0_countComponents_76 : decode cX0_countComponents 76 = .ok (.iconst 0, 1) := by decide +kernel
theorem dX0_countComponents_77 : decode cX0_countComponents 77 = .ok (.goto 10, 3) := by decide +kernel
theorem dX0_countComponents_80 : decode cX0_countComponents 80 = .ok (.iconst 2, 1) := by decide +kernel
theorem dX0_countComponents_81 : decode cX0_countComponents 81 = .ok (.iload 5, 2) := by decide +kernel
theorem dX0_countComponents_83 : decode cX0_countComponents 83 = .ok (.invokestatic 81, 3) := by decide +kernel
theorem dX0_countComponents_86 : decode cX0_countComponents 86 = .ok (.isub, 1) := by decide +kernel
theorem dX0_countComponents_87 : decode cX0_countComponents 87 = .ok (.iadd, 1) := by decide +kernel
theorem dX0_countComponents_88 : decode cX0_countComponents 88 = .ok (.istore_n 2, 1) := by decide +kernel
theorem dX0_countComponents_89 : decode cX0_countComponents 89 = .ok (.iinc 4 1, 3) := by decide +kernel
theorem dX0_countComponents_92 : decode cX0_countComponents 92 = .ok (.goto (-72), 3) := by decide +kernel
theorem dX0_countComponents_95 : decode cX0_countComponents 95 = .ok (.aload_n 0, 1) := by decide +kernel
theorem dX0_countComponents_96 : decode cX0_countComponents 96 = .ok (.iload_n 2, 1) := by decide +kernel
theorem dX0_countComponents_97 : decode cX0_countComponents 97 = .ok (.iconst 2, 1) := by decide +kernel
theorem dX0_countComponents_98 : decode cX0_countComponents 98 = .ok (.idiv, 1) := by decide +kernel
theorem dX0_countComponents_99 : decode cX0_countComponents 99 = .ok (.putfield 86, 3) := by decide +kernel
theorem dX0_countComponents_102 : decode cX0_countComponents 102 = .ok (.return_, 1) := by decide +kernel
theorem dX0_exists_0 : decode cX0_exists 0 = .ok (.iload_n 1, 1) := by decide +kernel
theorem dX0_exists_1 : decode cX0_exists 1 = .ok (.ifCond .lt 15, 3) := by decide +kernel
theorem dX0_exists_4 : decode cX0_exists 4 = .ok (.iload_n 1, 1) := by decide +kernel
theorem dX0_exists_5 : decode cX0_exists 5 = .ok (.aload_n 0, 1) := by decide +kernel
theorem dX0_exists_6 : decode cX0_exists 6 = .ok (.getfield 34, 3) := by decide +kernel
theorem dX0_exists_9 : decode cX0_exists 9 = .ok (.if_icmp .ge 7, 3) := by decide +kernel
theorem dX0_exists_12 : decode cX0_exists 12 = .ok (.iconst 1, 1) := by decide +kernel
theorem dX0_exists_13 : decode cX0_exists 13 = .ok (.goto 4, 3) := by decide +kernel
theorem dX0_exists_16 : decode cX0_exists 16 = .ok (.iconst 0, 1) := by decide +kernel
theorem dX0_exists_17 : decode cX0_exists 17 = .ok (.ireturn, 1) := by decide +kernel
theorem dX0_holds_0 : decode cX0_holds 0 = .ok (.aload_n 0, 1) := by decide +kernel
theorem dX0_holds_1 : decode cX0_holds 1 = .ok (.getfield 28, 3) := by decide +kernel
theorem dX0_holds_4 : decode cX0_holds 4 = .ok (.iload_n 1, 1) := by decide +kernel
theorem dX0_holds_5 : decode cX0_holds 5 = .ok (.iaload, 1) := by decide +kernel
theorem dX0_holds_6 : decode cX0_holds 6 = .ok (.iload_n 2, 1) := by decide +kernel
theorem dX0_holds_7 : decode cX0_holds 7 = .ok (.invokestatic 73, 3) := by decide +kernel
theorem dX0_holds_10 : decode cX0_holds 10 = .ok (.ireturn, 1) := by decide +kernel
theorem dX0_areConnected_0 : decode cX0_areConnected 0 = .ok (.iload_n 1, 1) := by decide +kernel
theorem dX0_areConnected_1 : decode cX0_areConnected 1 = .ok (.iconst (-1), 1) := by decide +kernel
theorem dX0_areConnected_2 : decode cX0_areConnected 2 = .ok (.aload_n 0, 1) := by decide +kernel
theorem dX0_areConnected_3 : decode cX0_areConnected 3 = .ok (.getfield 31, 3) := by decide +kernel
theorem dX0_areConnected_6 : decode cX0_areConnected 6 = .ok (.invokestatic 77, 3) := by decide +kernel
theorem dX0_areConnected_9 : decode cX0_areConnected 9 = .ok (.iload_n 2, 1) := by decide +kernel
theorem dX0_areConnected_10 : decode cX0_areConnected 10 = .ok (.invokestatic 73, 3) := by decide +kernel
theorem dX0_areConnected_13 : decode cX0_areConnected 13 = .ok (.ireturn, 1) := by decide +kernel
theorem dX0_directedAt_0 : decode cX0_directedAt 0 = .ok (.aload_n 0, 1) := by decide +kernel
theorem dX0_directedAt_1 : decode cX0_directedAt 1 = .ok (.getfield 22, 3) := by decide +kernel
theorem dX0_directedAt_4 : decode cX0_directedAt 4 = .ok (.iload_n 1, 1) := by decide +kernel
theorem dX0_directedAt_5 : decode cX0_directedAt 5 = .ok (.iaload, 1) := by decide +kernel
theorem dX0_directedAt_6 : decode cX0_directedAt 6 = .ok (.istore_n 3, 1) := by decide +kernel
theorem dX0_directedAt_7 : decode cX0_directedAt 7 = .ok (.iconst 0, 1) := by decide +kernel
theorem dX0_directedAt_8 : decode cX0_directedAt 8 = .ok (.istore 4, 2) := by decide +kernel
theorem dX0_directedAt_10 : decode cX0_directedAt 10 = .ok (.iload 4, 2) := by decide +kernel
theorem dX0_directedAt_12 : decode cX0_directedAt 12 = .ok (.iload_n 2, 1) := by decide +kernel
theorem dX0_directedAt_13 : decode cX0_directedAt 13 = .ok (.if_icmp .ge 16, 3) := by decide +kernel
theorem dX0_directedAt_16 : decode cX0_directedAt 16 = .ok (.aload_n 0, 1) := by decide +kernel
theorem dX0_directedAt_17 : decode cX0_directedAt 17 = .ok (.getfield 15, 3) := by decide +kernel
theorem dX0_directedAt_20 : decode cX0_directedAt 20 = .ok (.iload_n 3, 1) := by decide +kernel
theorem dX0_directedAt_21 : decode cX0_directedAt 21 = .ok (.iaload, 1) := by decide +kernel
theorem dX0_directedAt_22 : decode cX0_directedAt 22 = .ok (.istore_n 3, 1) := by decide +kernel
theorem dX0_directedAt_23 : decode cX0_directedAt 23 = .ok (.iinc 4 1, 3) := by decide +kernel
theorem dX0_directedAt_26 : decode cX0_directedAt 26 = .ok (.goto (-16), 3) := by decide +kernel
theorem dX0_directedAt_29 : decode cX0_directedAt 29 = .ok (.iload_n 3, 1) := by decide +kernel
theorem dX0_directedAt_30 : decode cX0_directedAt 30 = .ok (.ireturn, 1) := by decide +kernel
theorem dX0_firstEdgeLeaving_0 : decode cX0_firstEdgeLeaving 0 = .ok (.aload_n 0, 1) := by decide +kernel
theorem dX0_firstEdgeLeaving_1 : decode cX0_firstEdgeLeaving 1 = .ok (.getfield 22, 3) := by decide +kernel
theorem dX0_firstEdgeLeaving_4 : decode cX0_firstEdgeLeaving 4 = .ok (.iload_n 2, 1) := by decide +kernel
theorem dX0_firstEdgeLeaving_5 : decode cX0_firstEdgeLeaving 5 = .ok (.iaload, 1) := by decide +kernel
theorem dX0_firstEdgeLeaving_6 : decode cX0_firstEdgeLeaving 6 = .ok (.istore 4, 2) := by decide +kernel
theorem dX0_firstEdgeLeaving_8 : decode cX0_firstEdgeLeaving 8 = .ok (.iconst 0, 1) := by decide +kernel
theorem dX0_firstEdgeLeaving_9 : decode cX0_firstEdgeLeaving 9 = .ok (.istore 5, 2) := by decide +kernel
theorem dX0_firstEdgeLeaving_11 : decode cX0_firstEdgeLeaving 11 = .ok (.iload 5, 2) := by decide +kernel
theorem dX0_firstEdgeLeaving_13 : decode cX0_firstEdgeLeaving 13 = .ok (.aload_n 0, 1) := by decide +kernel
theorem dX0_firstEdgeLeaving_14 : decode cX0_firstEdgeLeaving 14 = .ok (.getfield 25, 3) := by decide +kernel
theorem dX0_firstEdgeLeaving_17 : decode cX0_firstEdgeLeaving 17 = .ok (.iload_n 2, 1) := by decide +kernel
theorem dX0_firstEdgeLeaving_18 : decode cX0_firstEdgeLeaving 18 = .ok (.iaload, 1) := by decide +kernel
theorem dX0_firstEdgeLeaving_19 : decode cX0_firstEdgeLeaving 19 = .ok (.if_icmp .ge 28, 3) := by decide +kernel
theorem dX0_firstEdgeLeaving_22 : decode cX0_firstEdgeLeaving 22 = .ok (.aload_n 1, 1) := by decide +kernel
theorem dX0_firstEdgeLeaving_23 : decode cX0_firstEdgeLeaving 23 = .ok (.iload 4, 2) := by decide +kernel
theorem dX0_firstEdgeLeaving_25 : decode cX0_firstEdgeLeaving 25 = .ok (.invokevirtual 64, 3) := by decide +kernel
theorem dX0_firstEdgeLeaving_28 : decode cX0_firstEdgeLeaving 28 = .ok (.iload_n 3, 1) := by decide +kernel
theorem dX0_firstEdgeLeaving_29 : decode cX0_firstEdgeLeaving 29 = .ok (.if_icmp .eq 18, 3) := by decide +kernel
theorem dX0_firstEdgeLeaving_32 : decode cX0_firstEdgeLeaving 32 = .ok (.aload_n 0, 1) := by decide +kernel
theorem dX0_firstEdgeLeaving_33 : decode cX0_firstEdgeLeaving 33 = .ok (.getfield 15, 3) := by decide +kernel
theorem dX0_firstEdgeLeaving_36 : decode cX0_firstEdgeLeaving 36 = .ok (.iload 4, 2) := by decide +kernel
theorem dX0_firstEdgeLeaving_38 : decode cX0_firstEdgeLeaving 38 = .ok (.iaload, 1) := by decide +kernel
theorem dX0_firstEdgeLeaving_39 : decode cX0_firstEdgeLeaving 39 = .ok (.istore 4, 2) := by decide +kernel
theorem dX0_firstEdgeLeaving_41 : decode cX0_firstEdgeLeaving 41 = .ok (.iinc 5 1, 3) := by decide +kernel
theorem dX0_firstEdgeLeaving_44 : decode cX0_firstEdgeLeaving 44 = .ok (.goto (-33), 3) := by decide +kernel
theorem dX0_firstEdgeLeaving_47 : decode cX0_firstEdgeLeaving 47 = .ok (.iload 4, 2) := by decide +kernel
theorem dX0_firstEdgeLeaving_49 : decode cX0_firstEdgeLeaving 49 = .ok (.iconst 2, 1) := by decide +kernel
theorem dX0_firstEdgeLeaving_50 : decode cX0_firstEdgeLeaving 50 = .ok (.idiv, 1) := by decide +kernel
theorem dX0_firstEdgeLeaving_51 : decode cX0_firstEdgeLeaving 51 = .ok (.ireturn, 1) := by decide +kernel
theorem dX0_countNeighbours_0 : decode cX0_countNeighbours 0 = .ok (.iconst 0, 1) := by decide +kernel
theorem dX0_countNeighbours_1 : decode cX0_countNeighbours 1 = .ok (.istore_n 3, 1) := by decide +kernel
theorem dX0_countNeighbours_2 : decode cX0_countNeighbours 2 = .ok (.iconst 0, 1) := by decide +kernel
theorem dX0_countNeighbours_3 : decode cX0_countNeighbours 3 = .ok (.istore 4, 2) := by decide +kernel
theorem dX0_countNeighbours_5 : decode cX0_countNeighbours 5 = .ok (.iload 4, 2) := by decide +kernel
theorem dX0_countNeighbours_7 : decode cX0_countNeighbours 7 = .ok (.iconst 2, 1) := by decide +kernel
theorem dX0_countNeighbours_8 : decode cX0_countNeighbours 8 = .ok (.aload_n 1, 1) := by decide +kernel
theorem dX0_countNeighbours_9 : decode cX0_countNeighbours 9 = .ok (.getfield 43, 3) := by decide +kernel
theorem dX0_countNeighbours_12 : decode cX0_countNeighbours 12 = .ok (.imul, 1) := by decide +kernel
theorem dX0_countNeighbours_13 : decode cX0_countNeighbours 13 = .ok (.if_icmp .ge 48, 3) := by decide +kernel
theorem dX0_countNeighbours_16 : decode cX0_countNeighbours 16 = .ok (.aload_n 0, 1) := by decide +kernel
theorem dX0_countNeighbours_17 : decode cX0_countNeighbours 17 = .ok (.getfield 19, 3) := by decide +kernel
theorem dX0_countNeighbours_20 : decode cX0_countNeighbours 20 = .ok (.iload 4, 2) := by decide +kernel
theorem dX0_countNeighbours_22 : decode cX0_countNeighbours 22 = .ok (.iaload, 1) := by decide +kernel
theorem dX0_countNeighbours_23 : decode cX0_countNeighbours 23 = .ok (.iload_n 2, 1) := by decide +kernel
theorem dX0_countNeighbours_24 : decode cX0_countNeighbours 24 = .ok (.if_icmp .ne 31, 3) := by decide +kernel
theorem dX0_countNeighbours_27 : decode cX0_countNeighbours 27 = .ok (.aload_n 0, 1) := by decide +kernel
theorem dX0_countNeighbours_28 : decode cX0_countNeighbours 28 = .ok (.getfield 19, 3) := by decide +kernel
theorem dX0_countNeighbours_31 : decode cX0_countNeighbours 31 = .ok (.iload 4, 2) := by decide +kernel
theorem dX0_countNeighbours_33 : decode cX0_countNeighbours 33 = .ok (.iconst 1, 1) := by decide +kernel
theorem dX0_countNeighbours_34 : decode cX0_countNeighbours 34 = .ok (.ixor, 1) := by decide +kernel
theorem dX0_countNeighbours_35 : decode cX0_countNeighbours 35 = .ok (.iaload, 1) := by decide +kernel
theorem dX0_countNeighbours_36 : decode cX0_countNeighbours 36 = .ok (.iload_n 2, 1) := by decide +kernel
theorem dX0_countNeighbours_37 : decode cX0_countNeighbours 37 = .ok (.if_icmp .eq 18, 3) := by decide +kernel
theorem dX0_countNeighbours_40 : decode cX0_countNeighbours 40 = .ok (.iload_n 3, 1) := by decide +kernel
theorem dX0_countNeighbours_41 : decode cX0_countNeighbours 41 = .ok (.aload_n 0, 1) := by decide +kernel
theorem dX0_countNeighbours_42 : decode cX0_countNeighbours 42 = .ok (.getfield 19, 3) := by decide +kernel
theorem dX0_countNeighbours_45 : decode cX0_countNeighbours 45 = .ok (.iload 4, 2) := by decide +kernel
theorem dX0_countNeighbours_47 : decode cX0_countNeighbours 47 = .ok (.iconst 1, 1) := by decide +kernel
theorem dX0_countNeighbours_48 : decode cX0_countNeighbours 48 = .ok (.ixor, 1) := by decide +kernel
theorem dX0_countNeighbours_49 : decode cX0_countNeighbours 49 = .ok (.iaload, 1) := by decide +kernel
theorem dX0_countNeighbours_50 : decode cX0_countNeighbours 50 = .ok (.invokestatic 67, 3) := by decide +kernel
theorem dX0_countNeighbours_53 : decode cX0_countNeighbours 53 = .ok (.ior, 1) := by decide +kernel
theorem dX0_countNeighbours_54 : decode cX0_countNeighbours 54 = .ok (.istore_n 3, 1) := by decide +kernel
theorem dX0_countNeighbours_55 : decode cX0_countNeighbours 55 = .ok (.iinc 4 1, 3) := by decide +kernel
theorem dX0_countNeighbours_58 : decode cX0_countNeighbours 58 = .ok (.goto (-53), 3) := by decide +kernel
theorem dX0_countNeighbours_61 : decode cX0_countNeighbours 61 = .ok (.iload_n 3, 1) := by decide +kernel
theorem dX0_countNeighbours_62 : decode cX0_countNeighbours 62 = .ok (.invokestatic 81, 3) := by decide +kernel
theorem dX0_countNeighbours_65 : decode cX0_countNeighbours 65 = .ok (.ireturn, 1) := by decide +kernel
theorem dX0_widen_0 : decode cX0_widen 0 = .ok (.iload_n 1, 1) := by decide +kernel
theorem dX0_widen_1 : decode cX0_widen 1 = .ok (.istore_n 2, 1) := by decide +kernel
theorem dX0_widen_2 : decode cX0_widen 2 = .ok (.iconst 0, 1) := by decide +kernel
theorem dX0_widen_3 : decode cX0_widen 3 = .ok (.istore_n 3, 1) := by decide +kernel
theorem dX0_widen_4 : decode cX0_widen 4 = .ok (.iload_n 3, 1) := by decide +kernel
theorem dX0_widen_5 : decode cX0_widen 5 = .ok (.aload_n 0, 1) := by decide +kernel
theorem dX0_widen_6 : decode cX0_widen 6 = .ok (.getfield 34, 3) := by decide +kernel
theorem dX0_widen_9 : decode cX0_widen 9 = .ok (.if_icmp .ge 29, 3) := by decide +kernel
theorem dX0_widen_12 : decode cX0_widen 12 = .ok (.aload_n 0, 1) := by decide +kernel
theorem dX0_widen_13 : decode cX0_widen 13 = .ok (.getfield 28, 3) := by decide +kernel
theorem dX0_widen_16 : decode cX0_widen 16 = .ok (.iload_n 3, 1) := by decide +kernel
theorem dX0_widen_17 : decode cX0_widen 17 = .ok (.iaload, 1) := by decide +kernel
theorem dX0_widen_18 : decode cX0_widen 18 = .ok (.iload_n 1, 1) := by decide +kernel
theorem dX0_widen_19 : decode cX0_widen 19 = .ok (.iand, 1) := by decide +kernel
theorem dX0_widen_20 : decode cX0_widen 20 = .ok (.ifCond .eq 12, 3) := by decide +kernel
theorem dX0_widen_23 : decode cX0_widen 23 = .ok (.iload_n 2, 1) := by decide +kernel
theorem dX0_widen_24 : decode cX0_widen 24 = .ok (.aload_n 0, 1) := by decide +kernel
theorem dX0_widen_25 : decode cX0_widen 25 = .ok (.getfield 28, 3) := by decide +kernel
theorem dX0_widen_28 : decode cX0_widen 28 = .ok (.iload_n 3, 1) := by decide +kernel
theorem dX0_widen_29 : decode cX0_widen 29 = .ok (.iaload, 1) := by decide +kernel
theorem dX0_widen_30 : decode cX0_widen 30 = .ok (.ior, 1) := by decide +kernel
theorem dX0_widen_31 : decode cX0_widen 31 = .ok (.istore_n 2, 1) := by decide +kernel
theorem dX0_widen_32 : decode cX0_widen 32 = .ok (.iinc 3 1, 3) := by decide +kernel
theorem dX0_widen_35 : decode cX0_widen 35 = .ok (.goto (-31), 3) := by decide +kernel
theorem dX0_widen_38 : decode cX0_widen 38 = .ok (.iload_n 2, 1) := by decide +kernel
theorem dX0_widen_39 : decode cX0_widen 39 = .ok (.ireturn, 1) := by decide +kernel
theorem dX1_init_0 : decode cX1_init 0 = .ok (.aload_n 0, 1) := by decide +kernel
theorem dX1_init_1 : decode cX1_init 1 = .ok (.invokespecial 3, 3) := by decide +kernel
theorem dX1_init_4 : decode cX1_init 4 = .ok (.aload_n 0, 1) := by decide +kernel
theorem dX1_init_5 : decode cX1_init 5 = .ok (.iconst 4, 1) := by decide +kernel
theorem dX1_init_6 : decode cX1_init 6 = .ok (.putfield 9, 3) := by decide +kernel
theorem dX1_init_9 : decode cX1_init 9 = .ok (.aload_n 0, 1) := by decide +kernel
theorem dX1_init_10 : decode cX1_init 10 = .ok (.bipush 20, 2) := by decide +kernel
theorem dX1_init_12 : decode cX1_init 12 = .ok (.newarray .int, 2) := by decide +kernel
theorem dX1_init_14 : decode cX1_init 14 = .ok (.putfield 15, 3) := by decide +kernel
theorem dX1_init_17 : decode cX1_init 17 = .ok (.aload_n 0, 1) := by decide +kernel
theorem dX1_init_18 : decode cX1_init 18 = .ok (.bipush 20, 2) := by decide +kernel
theorem dX1_init_20 : decode cX1_init 20 = .ok (.newarray .int, 2) := by decide +kernel
theorem dX1_init_22 : decode cX1_init 22 = .ok (.putfield 19, 3) := by decide +kernel
theorem dX1_init_25 : decode cX1_init 25 = .ok (.aload_n 0, 1) := by decide +kernel
theorem dX1_init_26 : decode cX1_init 26 = .ok (.bipush 9, 2) := by decide +kernel
theorem dX1_init_28 : decode cX1_init 28 = .ok (.newarray .int, 2) := by decide +kernel
theorem dX1_init_30 : decode cX1_init 30 = .ok (.putfield 22, 3) := by decide +kernel
theorem dX1_init_33 : decode cX1_init 33 = .ok (.aload_n 0, 1) := by decide +kernel
theorem dX1_init_34 : decode cX1_init 34 = .ok (.bipush 72, 2) := by decide +kernel
theorem dX1_init_36 : decode cX1_init 36 = .ok (.newarray .int, 2) := by decide +kernel
theorem dX1_init_38 : decode cX1_init 38 = .ok (.putfield 25, 3) := by decide +kernel
theorem dX1_init_41 : decode cX1_init 41 = .ok (.return_, 1) := by decide +kernel
theorem dX1_makeEmpty_0 : decode cX1_makeEmpty 0 = .ok (.aload_n 0, 1) := by decide +kernel
theorem dX1_makeEmpty_1 : decode cX1_makeEmpty 1 = .ok (.iload_n 1, 1) := by decide +kernel
theorem dX1_makeEmpty_2 : decode cX1_makeEmpty 2 = .ok (.putfield 9, 3) := by decide +kernel
theorem dX1_makeEmpty_5 : decode cX1_makeEmpty 5 = .ok (.aload_n 0, 1) := by decide +kernel
theorem dX1_makeEmpty_6 : decode cX1_makeEmpty 6 = .ok (.iconst 0, 1) := by decide +kernel
theorem dX1_makeEmpty_7 : decode cX1_makeEmpty 7 = .ok (.putfield 28, 3) := by decide +kernel
theorem dX1_makeEmpty_10 : decode cX1_makeEmpty 10 = .ok (.aload_n 0, 1) := by decide +kernel
theorem dX1_makeEmpty_11 : decode cX1_makeEmpty 11 = .ok (.getfield 22, 3) := by decide +kernel
theorem dX1_makeEmpty_14 : decode cX1_makeEmpty 14 = .ok (.iconst 0, 1) := by decide +kernel
theorem dX1_makeEmpty_15 : decode cX1_makeEmpty 15 = .ok (.invokestatic 31, 3) := by decide +kernel
theorem dX1_makeEmpty_18 : decode cX1_makeEmpty 18 = .ok (.return_, 1) := by decide +kernel
theorem dX1_copyFrom_0 : decode cX1_copyFrom 0 = .ok (.aload_n 0, 1) := by decide +kernel
theorem dX1_copyFrom_1 : decode cX1_copyFrom 1 = .ok (.aload_n 1, 1) := by decide +kernel
theorem dX1_copyFrom_2 : decode cX1_copyFrom 2 = .ok (.getfield 9, 3) := by decide +kernel
theorem dX1_copyFrom_5 : decode cX1_copyFrom 5 = .ok (.putfield 9, 3) := by decide +kernel
theorem dX1_copyFrom_8 : decode cX1_copyFrom 8 = .ok (.aload_n 0, 1) := by decide +kernel
theorem dX1_copyFrom_9 : decode cX1_copyFrom 9 = .ok (.aload_n 1, 1) := by decide +kernel
theorem dX1_copyFrom_10 : decode cX1_copyFrom 10 = .ok (.getfield 28, 3) := by decide +kernel
theorem dX1_copyFrom_13 : decode cX1_copyFrom 13 = .ok (.putfield 28, 3) := by decide +kernel
theorem dX1_copyFrom_16 : decode cX1_copyFrom 16 = .ok (.aload_n 0, 1) := by decide +kernel
theorem dX1_copyFrom_17 : decode cX1_copyFrom 17 = .ok (.aload_n 1, 1) := by decide +kernel
theorem dX1_copyFrom_18 : decode cX1_copyFrom 18 = .ok (.getfield 37, 3) := by decide +kernel
theorem dX1_copyFrom_21 : decode cX1_copyFrom 21 = .ok (.putfield 37, 3) := by decide +kernel
theorem dX1_copyFrom_24 : decode cX1_copyFrom 24 = .ok (.aload_n 1, 1) := by decide +kernel
theorem dX1_copyFrom_25 : decode cX1_copyFrom 25 = .ok (.getfield 15, 3) := by decide +kernel
theorem dX1_copyFrom_28 : decode cX1_copyFrom 28 = .ok (.iconst 0, 1) := by decide +kernel
theorem dX1_copyFrom_29 : decode cX1_copyFrom 29 = .ok (.aload_n 0, 1) := by decide +kernel
theorem dX1_copyFrom_30 : decode cX1_copyFrom 30 = .ok (.getfield 15, 3) := by decide +kernel
theorem dX1_copyFrom_33 : decode cX1_copyFrom 33 = .ok (.iconst 0, 1) := by decide +kernel
theorem dX1_copyFrom_34 : decode cX1_copyFrom 34 = .ok (.bipush 20, 2) := by decide +kernel
theorem dX1_copyFrom_36 : decode cX1_copyFrom 36 = .ok (.invokestatic 40, 3) := by decide +kernel
theorem dX1_copyFrom_39 : decode cX1_copyFrom 39 = .ok (.aload_n 1, 1) := by decide +kernel
theorem dX1_copyFrom_40 : decode cX1_copyFrom 40 = .ok (.getfield 19, 3) := by decide +kernel
theorem dX1_copyFrom_43 : decode cX1_copyFrom 43 = .ok (.iconst 0, 1) := by decide +kernel
theorem dX1_copyFrom_44 : decode cX1_copyFrom 44 = .ok (.aload_n 0, 1) := by decide +kernel
theorem dX1_copyFrom_45 : decode cX1_copyFrom 45 = .ok (.getfield 19, 3) := by decide +kernel
theorem dX1_copyFrom_48 : decode cX1_copyFrom 48 = .ok (.iconst 0, 1) := by decide +kernel
theorem dX1_copyFrom_49 : decode cX1_copyFrom 49 = .ok (.bipush 20, 2) := by decide +kernel
theorem dX1_copyFrom_51 : decode cX1_copyFrom 51 = .ok (.invokestatic 40, 3) := by decide +kernel
theorem dX1_copyFrom_54 : decode cX1_copyFrom 54 = .ok (.aload_n 1, 1) := by decide +kernel
theorem dX1_copyFrom_55 : decode cX1_copyFrom 55 = .ok (.getfield 22, 3) := by decide +kernel
theorem dX1_copyFrom_58 : decode cX1_copyFrom 58 = .ok (.iconst 0, 1) := by decide +kernel
theorem dX1_copyFrom_59 : decode cX1_copyFrom 59 = .ok (.aload_n 0, 1) := by decide +kernel
theorem dX1_copyFrom_60 : decode cX1_copyFrom 60 = .ok (.getfield 22, 3) := by decide +kernel
theorem dX1_copyFrom_63 : decode cX1_copyFrom 63 = .ok (.iconst 0, 1) := by decide +kernel
theorem dX1_copyFrom_64 : decode cX1_copyFrom 64 = .ok (.bipush 9, 2) := by decide +kernel
theorem dX1_copyFrom_66 : decode cX1_copyFrom 66 = .ok (.invokestatic 40, 3) := by decide +kernel
theorem dX1_copyFrom_69 : decode cX1_copyFrom 69 = .ok (.aload_n 1, 1) := by decide +kernel
theorem dX1_copyFrom_70 : decode cX1_copyFrom 70 = .ok (.getfield 25, 3) := by decide +kernel
theorem dX1_copyFrom_73 : decode cX1_copyFrom 73 = .ok (.iconst 0, 1) := by decide +kernel
theorem dX1_copyFrom_74 : decode cX1_copyFrom 74 = .ok (.aload_n 0, 1) := by decide +kernel
theorem dX1_copyFrom_75 : decode cX1_copyFrom 75 = .ok (.getfield 25, 3) := by decide +kernel
theorem dX1_copyFrom_78 : decode cX1_copyFrom 78 = .ok (.iconst 0, 1) := by decide +kernel
theorem dX1_copyFrom_79 : decode cX1_copyFrom 79 = .ok (.bipush 72, 2) := by decide +kernel
theorem dX1_copyFrom_81 : decode cX1_copyFrom 81 = .ok (.invokestatic 40, 3) := by decide +kernel
theorem dX1_copyFrom_84 : decode cX1_copyFrom 84 = .ok (.return_, 1) := by decide +kernel
theorem dX1_hasNode_0 : decode cX1_hasNode 0 = .ok (.iload_n 1, 1) := by decide +kernel
theorem dX1_hasNode_1 : decode cX1_hasNode 1 = .ok (.ifCond .lt 15, 3) := by decide +kernel
theorem dX1_hasNode_4 : decode cX1_hasNode 4 = .ok (.iload_n 1, 1) := by decide +kernel
theorem dX1_hasNode_5 : decode cX1_hasNode 5 = .ok (.aload_n 0, 1) := by decide +kernel
theorem dX1_hasNode_6 : decode cX1_hasNode 6 = .ok (.getfield 9, 3) := by decide +kernel
theorem dX1_hasNode_9 : decode cX1_hasNode 9 = .ok (.if_icmp .ge 7, 3) := by decide +kernel
theorem dX1_hasNode_12 : decode cX1_hasNode 12 = .ok (.iconst 1, 1) := by decide +kernel
theorem dX1_hasNode_13 : decode cX1_hasNode 13 = .ok (.goto 4, 3) := by decide +kernel
theorem dX1_hasNode_16 : decode cX1_hasNode 16 = .ok (.iconst 0, 1) := by decide +kernel
theorem dX1_hasNode_17 : decode cX1_hasNode 17 = .ok (.ireturn, 1) := by decide +kernel
theorem dX1_hasEdge_0 : decode cX1_hasEdge 0 = .ok (.iload_n 1, 1) := by decide +kernel
theorem dX1_hasEdge_1 : decode cX1_hasEdge 1 = .ok (.ifCond .lt 15, 3) := by decide +kernel
theorem dX1_hasEdge_4 : decode cX1_hasEdge 4 = .ok (.iload_n 1, 1) := by decide +kernel
theorem dX1_hasEdge_5 : decode cX1_hasEdge 5 = .ok (.aload_n 0, 1) := by decide +kernel
theorem dX1_hasEdge_6 : decode cX1_hasEdge 6 = .ok (.getfield 28, 3) := by decide +kernel
theorem dX1_hasEdge_9 : decode cX1_hasEdge 9 = .ok (.if_icmp .ge 7, 3) := by decide +kernel
theorem dX1_hasEdge_12 : decode cX1_hasEdge 12 = .ok (.iconst 1, 1) := by decide +kernel
theorem dX1_hasEdge_13 : decode cX1_hasEdge 13 = .ok (.goto 4, 3) := by decide +kernel
theorem dX1_hasEdge_16 : decode cX1_hasEdge 16 = .ok (.iconst 0, 1) := by decide +kernel
theorem dX1_hasEdge_17 : decode cX1_hasEdge 17 = .ok (.ireturn, 1) := by decide +kernel
theorem dX1_hasDirected_0 : decode cX1_hasDirected 0 = .ok (.iload_n 1, 1) := by decide +kernel
theorem dX1_hasDirected_1 : decode cX1_hasDirected 1 = .ok (.ifCond .lt 17, 3) := by decide +kernel
theorem dX1_hasDirected_4 : decode cX1_hasDirected 4 = .ok (.iload_n 1, 1) := by decide +kernel
theorem dX1_hasDirected_5 : decode cX1_hasDirected 5 = .ok (.iconst 2, 1) := by decide +kernel
theorem dX1_hasDirected_6 : decode cX1_hasDirected 6 = .ok (.aload_n 0, 1) := by decide +kernel
theorem dX1_hasDirected_7 : decode cX1_hasDirected 7 = .ok (.getfield 28, 3) := by decide +kernel
theorem dX1_hasDirected_10 : decode cX1_hasDirected 10 = .ok (.imul, 1) := by decide +kernel
theorem dX1_hasDirected_11 : decode cX1_hasDirected 11 = .ok (.if_icmp .ge 7, 3) := by decide +kernel
theorem dX1_hasDirected_14 : decode cX1_hasDirected 14 = .ok (.iconst 1, 1) := by decide +kernel
theorem dX1_hasDirected_15 : decode cX1_hasDirected 15 = .ok (.goto 4, 3) := by decide +kernel
theorem dX1_hasDirected_18 : decode cX1_hasDirected 18 = .ok (.iconst 0, 1) := by decide +kernel
theorem dX1_hasDirected_19 : decode cX1_hasDirected 19 = .ok (.ireturn, 1) := by decide +kernel
theorem dX1_isEnd_0 : decode cX1_isEnd 0 = .ok (.aload_n 0, 1) := by decide +kernel
theorem dX1_isEnd_1 : decode cX1_isEnd 1 = .ok (.iload_n 1, 1) := by decide +kernel
theorem dX1_isEnd_2 : decode cX1_isEnd 2 = .ok (.invokevirtual 46, 3) := by decide +kernel
theorem dX1_isEnd_5 : decode cX1_isEnd 5 = .ok (.ifCond .eq 27, 3) := by decide +kernel
theorem dX1_isEnd_8 : decode cX1_isEnd 8 = .ok (.aload_n 0, 1) := by decide +kernel
theorem dX1_isEnd_9 : decode cX1_isEnd 9 = .ok (.getfield 15, 3) := by decide +kernel
theorem dX1_isEnd_12 : decode cX1_isEnd 12 = .ok (.iload_n 1, 1) := by decide +kernel
theorem dX1_isEnd_13 : decode cX1_isEnd 13 = .ok (.iaload, 1) := by decide +kernel
theorem dX1_isEnd_14 : decode cX1_isEnd 14 = .ok (.iload_n 2, 1) := by decide +kernel
theorem dX1_isEnd_15 : decode cX1_isEnd 15 = .ok (.if_icmp .eq 13, 3) := by decide +kernel
theorem dX1_isEnd_18 : decode cX1_isEnd 18 = .ok (.aload_n 0, 1) := by decide +kernel
theorem dX1_isEnd_19 : decode cX1_isEnd 19 = .ok (.getfield 19, 3) := by decide +kernel
theorem dX1_isEnd_22 : decode cX1_isEnd 22 = .ok (.iload_n 1, 1) := by decide +kernel
theorem dX1_isEnd_23 : decode cX1_isEnd 23 = .ok (.iaload, 1) := by decide +kernel
theorem dX1_isEnd_24 : decode cX1_isEnd 24 = .ok (.iload_n 2, 1) := by decide +kernel
theorem dX1_isEnd_25 : decode cX1_isEnd 25 = .ok (.if_icmp .ne 7, 3) := by decide +kernel
theorem dX1_isEnd_28 : decode cX1_isEnd 28 = .ok (.iconst 1, 1) := by decide +kernel
theorem dX1_isEnd_29 : decode cX1_isEnd 29 = .ok (.goto 4, 3) := by decide +kernel
theorem dX1_isEnd_32 : decode cX1_isEnd 32 = .ok (.iconst 0, 1) := by decide +kernel
theorem dX1_isEnd_33 : decode cX1_isEnd 33 = .ok (.ireturn, 1) := by decide +kernel
theorem dX1_areJoined_0 : decode cX1_areJoined 0 = .ok (.iconst 0, 1) := by decide +kernel
theorem dX1_areJoined_1 : decode cX1_areJoined 1 = .ok (.istore_n 3, 1) := by decide +kernel
theorem dX1_areJoined_2 : decode cX1_areJoined 2 = .ok (.iload_n 3, 1) := by decide +kernel
theorem dX1_areJoined_3 : decode cX1_areJoined 3 = .ok (.aload_n 0, 1) := by decide +kernel
theorem dX1_areJoined_4 : decode cX1_areJoined 4 = .ok (.getfield 28, 3) := by decide +kernel
theorem dX1_areJoined_7 : decode cX1_areJoined 7 = .ok (.if_icmp .ge 39, 3) := by decide +kernel
theorem dX1_areJoined_10 : decode cX1_areJoined 10 = .ok (.aload_n 0, 1) := by decide +kernel
theorem dX1_areJoined_11 : decode cX1_areJoined 11 = .ok (.getfield 15, 3) := by decide +kernel
theorem dX1_areJoined_14 : decode cX1_areJoined 14 = .ok (.iload_n 3, 1) := by decide +kernel
theorem dX1_areJoined_15 : decode cX1_areJoined 15 = .ok (.iaload, 1) := by decide +kernel
theorem dX1_areJoined_16 : decode cX1_areJoined 16 = .ok (.iload_n 1, 1) := by decide +kernel
theorem dX1_areJoined_17 : decode cX1_areJoined 17 = .ok (.iload_n 2, 1) := by decide +kernel
theorem dX1_areJoined_18 : decode cX1_areJoined 18 = .ok (.invokestatic 50, 3) := by decide +kernel
theorem dX1_areJoined_21 : decode cX1_areJoined 21 = .ok (.if_icmp .ne 19, 3) := by decide +kernel
theorem dX1_areJoined_24 : decode cX1_areJoined 24 = .ok (.aload_n 0, 1) := by decide +kernel
theorem dX1_areJoined_25 : decode cX1_areJoined 25 = .ok (.getfield 19, 3) := by decide +kernel
theorem dX1_areJoined_28 : decode cX1_areJoined 28 = .ok (.iload_n 3, 1) := by decide +kernel
theorem dX1_areJoined_29 : decode cX1_areJoined 29 = .ok (.iaload, 1) := by decide +kernel
theorem dX1_areJoined_30 : decode cX1_areJoined 30 = .ok (.iload_n 1, 1) := by decide +kernel
theorem dX1_areJoined_31 : decode cX1_areJoined 31 = .ok (.iload_n 2, 1) := by decide +kernel
theorem dX1_areJoined_32 : decode cX1_areJoined 32 = .ok (.invokestatic 56, 3) := by decide +kernel
theorem dX1_areJoined_35 : decode cX1_areJoined 35 = .ok (.if_icmp .ne 5, 3) := by decide +kernel
theorem dX1_areJoined_38 : decode cX1_areJoined 38 = .ok (.iconst 1, 1) := by decide +kernel
theorem dX1_areJoined_39 : decode cX1_areJoined 39 = .ok (.ireturn, 1) := by decide +kernel
theorem dX1_areJoined_40 : decode cX1_areJoined 40 = .ok (.iinc 3 1, 3) := by decide +kernel
theorem dX1_areJoined_43 : decode cX1_areJoined 43 = .ok (.goto (-41), 3) := by decide +kernel
theorem dX1_areJoined_46 : decode cX1_areJoined 46 = .ok (.iconst 0, 1) := by decide +kernel
theorem dX1_areJoined_47 : decode cX1_areJoined 47 = .ok (.ireturn, 1) := by decide +kernel
theorem dX1_edgeAt_0 : decode cX1_edgeAt 0 = .ok (.aload_n 0, 1) := by decide +kernel
theorem dX1_edgeAt_1 : decode cX1_edgeAt 1 = .ok (.getfield 25, 3) := by decide +kernel
theorem dX1_edgeAt_4 : decode cX1_edgeAt 4 = .ok (.iload_n 1, 1) := by decide +kernel
theorem dX1_edgeAt_5 : decode cX1_edgeAt 5 = .ok (.bipush 8, 2) := by decide +kernel
theorem dX1_edgeAt_7 : decode cX1_edgeAt 7 = .ok (.imul, 1) := by decide +kernel
theorem dX1_edgeAt_8 : decode cX1_edgeAt 8 = .ok (.iload_n 2, 1) := by decide +kernel
theorem dX1_edgeAt_9 : decode cX1_edgeAt 9 = .ok (.iadd, 1) := by decide +kernel
theorem dX1_edgeAt_10 : decode cX1_edgeAt 10 = .ok (.iaload, 1) := by decide +kernel
theorem dX1_edgeAt_11 : decode cX1_edgeAt 11 = .ok (.ireturn, 1) := by decide +kernel
theorem dX1_slotOf_0 : decode cX1_slotOf 0 = .ok (.iconst 0, 1) := by decide +kernel
theorem dX1_slotOf_1 : decode cX1_slotOf 1 = .ok (.istore_n 3, 1) := by decide +kernel
theorem dX1_slotOf_2 : decode cX1_slotOf 2 = .ok (.iload_n 3, 1) := by decide +kernel
theorem dX1_slotOf_3 : decode cX1_slotOf 3 = .ok (.aload_n 0, 1) := by decide +kernel
theorem dX1_slotOf_4 : decode cX1_slotOf 4 = .ok (.getfield 22, 3) := by decide +kernel
theorem dX1_slotOf_7 : decode cX1_slotOf 7 = .ok (.iload_n 1, 1) := by decide +kernel
theorem dX1_slotOf_8 : decode cX1_slotOf 8 = .ok (.iaload, 1) := by decide +kernel
theorem dX1_slotOf_9 : decode cX1_slotOf 9 = .ok (.if_icmp .ge 21, 3) := by decide +kernel
theorem dX1_slotOf_12 : decode cX1_slotOf 12 = .ok (.aload_n 0, 1) := by decide +kernel
theorem dX1_slotOf_13 : decode cX1_slotOf 13 = .ok (.iload_n 1, 1) := by decide +kernel
theorem dX1_slotOf_14 : decode cX1_slotOf 14 = .ok (.iload_n 3, 1) := by decide +kernel
theorem dX1_slotOf_15 : decode cX1_slotOf 15 = .ok (.invokevirtual 59, 3) := by decide +kernel
theorem dX1_slotOf_18 : decode cX1_slotOf 18 = .ok (.iload_n 2, 1) := by decide +kernel
theorem dX1_slotOf_19 : decode cX1_slotOf 19 = .ok (.if_icmp .ne 5, 3) := by decide +kernel
theorem dX1_slotOf_22 : decode cX1_slotOf 22 = .ok (.iload_n 3, 1) := by decide +kernel
theorem dX1_slotOf_23 : decode cX1_slotOf 23 = .ok (.ireturn, 1) := by decide +kernel
theorem dX1_slotOf_24 : decode cX1_slotOf 24 = .ok (.iinc 3 1, 3) := by decide +kernel
theorem dX1_slotOf_27 : decode cX1_slotOf 27 = .ok (.goto (-25), 3) := by decide +kernel
theorem dX1_slotOf_30 : decode cX1_slotOf 30 = .ok (.iconst (-1), 1) := by decide +kernel
theorem dX1_slotOf_31 : decode cX1_slotOf 31 = .ok (.ireturn, 1) := by decide +kernel
theorem dX1_connect_0 : decode cX1_connect 0 = .ok (.aload_n 0, 1) := by decide +kernel
theorem dX1_connect_1 : decode cX1_connect 1 = .ok (.getfield 28, 3) := by decide +kernel
theorem dX1_connect_4 : decode cX1_connect 4 = .ok (.istore 5, 2) := by decide +kernel
theorem dX1_connect_6 : decode cX1_connect 6 = .ok (.aload_n 0, 1) := by decide +kernel
theorem dX1_connect_7 : decode cX1_connect 7 = .ok (.getfield 15, 3) := by decide +kernel
theorem dX1_connect_10 : decode cX1_connect 10 = .ok (.iload 5, 2) := by decide +kernel
theorem dX1_connect_12 : decode cX1_connect 12 = .ok (.iload_n 1, 1) := by decide +kernel
theorem dX1_connect_13 : decode cX1_connect 13 = .ok (.iload_n 2, 1) := by decide +kernel
theorem dX1_connect_14 : decode cX1_connect 14 = .ok (.invokestatic 50, 3) := by decide +kernel
theorem dX1_connect_17 : decode cX1_connect 17 = .ok (.iastore, 1) := by decide +kernel
theorem dX1_connect_18 : decode cX1_connect 18 = .ok (.aload_n 0, 1) := by decide +kernel
theorem dX1_connect_19 : decode cX1_connect 19 = .ok (.getfield 19, 3) := by decide +kernel
theorem dX1_connect_22 : decode cX1_connect 22 = .ok (.iload 5, 2) := by decide +kernel
theorem dX1_connect_24 : decode cX1_connect 24 = .ok (.iload_n 1, 1) := by decide +kernel
theorem dX1_connect_25 : decode cX1_connect 25 = .ok (.iload_n 2, 1) := by decide +kernel
theorem dX1_connect_26 : decode cX1_connect 26 = .ok (.invokestatic 56, 3) := by decide +kernel
theorem dX1_connect_29 : decode cX1_connect 29 = .ok (.iastore, 1) := by decide +kernel
theorem dX1_connect_30 : decode cX1_connect 30 = .ok (.aload_n 0, 1) := by decide +kernel
theorem dX1_connect_31 : decode cX1_connect 31 = .ok (.dup, 1) := by decide +kernel
theorem dX1_connect_32 : decode cX1_connect 32 = .ok (.getfield 28, 3) := by decide +kernel
theorem dX1_connect_35 : decode cX1_connect 35 = .ok (.iconst 1, 1) := by decide +kernel
theorem dX1_connect_36 : decode cX1_connect 36 = .ok (.iadd, 1) := by decide +kernel
theorem dX1_connect_37 : decode cX1_connect 37 = .ok (.putfield 28, 3) := by decide +kernel
theorem dX1_connect_40 : decode cX1_connect 40 = .ok (.aload_n 0, 1) := by decide +kernel
theorem dX1_connect_41 : decode cX1_connect 41 = .ok (.iload_n 1, 1) := by decide +kernel
theorem dX1_connect_42 : decode cX1_connect 42 = .ok (.iload_n 3, 1) := by decide +kernel
theorem dX1_connect_43 : decode cX1_connect 43 = .ok (.iload 5, 2) := by decide +kernel
theorem dX1_connect_45 : decode cX1_connect 45 = .ok (.invokevirtual 62, 3) := by decide +kernel
theorem dX1_connect_48 : decode cX1_connect 48 = .ok (.aload_n 0, 1) := by decide +kernel
theorem dX1_connect_49 : decode cX1_connect 49 = .ok (.iload_n 2, 1) := by decide +kernel
theorem dX1_connect_50 : decode cX1_connect 50 = .ok (.iload 4, 2) := by decide +kernel
theorem dX1_connect_52 : decode cX1_connect 52 = .ok (.iload 5, 2) := by decide +kernel
theorem dX1_connect_54 : decode cX1_connect 54 = .ok (.invokevirtual 62, 3) := by decide +kernel
theorem dX1_connect_57 : decode cX1_connect 57 = .ok (.iload 5, 2) := by decide +kernel
theorem dX1_connect_59 : decode cX1_connect 59 = .ok (.ireturn, 1) := by decide +kernel
theorem dX1_openSlot_0 : decode cX1_openSlot 0 = .ok (.iload_n 2, 1) := by decide +kernel
theorem dX1_openSlot_1 : decode cX1_openSlot 1 = .ok (.ifCond .lt 24, 3) := by decide +kernel
theorem dX1_openSlot_4 : decode cX1_openSlot 4 = .ok (.iload_n 2, 1) := by decide +kernel
theorem dX1_openSlot_5 : decode cX1_openSlot 5 = .ok (.aload_n 0, 1) := by decide +kernel
theorem dX1_openSlot_6 : decode cX1_openSlot 6 = .ok (.getfield 22, 3) := by decide +kernel
theorem dX1_openSlot_9 : decode cX1_openSlot 9 = .ok (.iload_n 1, 1) := by decide +kernel
theorem dX1_openSlot_10 : decode cX1_openSlot 10 = .ok (.iaload, 1) := by decide +kernel
theorem dX1_openSlot_11 : decode cX1_openSlot 11 = .ok (.if_icmp .gt 14, 3) := by decide +kernel
theorem dX1_openSlot_14 : decode cX1_openSlot 14 = .ok (.aload_n 0, 1) := by decide +kernel
theorem dX1_openSlot_15 : decode cX1_openSlot 15 = .ok (.getfield 22, 3) := by decide +kernel
theorem dX1_openSlot_18 : decode cX1_openSlot 18 = .ok (.iload_n 1, 1) := by decide +kernel
theorem dX1_openSlot_19 : decode cX1_openSlot 19 = .ok (.iaload, 1) := by decide +kernel
theorem dX1_openSlot_20 : decode cX1_openSlot 20 = .ok (.bipush 8, 2) := by decide +kernel
theorem dX1_openSlot_22 : decode cX1_openSlot 22 = .ok (.if_icmp .lt 4, 3) := by decide +kernel
theorem dX1_openSlot_25 : decode cX1_openSlot 25 = .ok (.return_, 1) := by decide +kernel
theorem dX1_openSlot_26 : decode cX1_openSlot 26 = .ok (.iload_n 1, 1) := by decide +kernel
theorem dX1_openSlot_27 : decode cX1_openSlot 27 = .ok (.bipush 8, 2) := by decide +kernel
theorem dX1_openSlot_29 : decode cX1_openSlot 29 = .ok (.imul, 1) := by decide +kernel
theorem dX1_openSlot_30 : decode cX1_openSlot 30 = .ok (.istore 4, 2) := by decide +kernel
theorem dX1_openSlot_32 : decode cX1_openSlot 32 = .ok (.aload_n 0, 1) := by decide +kernel
theorem dX1_openSlot_33 : decode cX1_openSlot 33 = .ok (.getfield 22, 3) := by decide +kernel
theorem dX1_openSlot_36 : decode cX1_openSlot 36 = .ok (.iload_n 1, 1) := by decide +kernel
theorem dX1_openSlot_37 : decode cX1_openSlot 37 = .ok (.iaload, 1) := by decide +kernel
theorem dX1_openSlot_38 : decode cX1_openSlot 38 = .ok (.istore 5, 2) := by decide +kernel
theorem dX1_openSlot_40 : decode cX1_openSlot 40 = .ok (.iload 5, 2) := by decide +kernel
theorem dX1_openSlot_42 : decode cX1_openSlot 42 = .ok (.iload_n 2, 1) := by decide +kernel
theorem dX1_openSlot_43 : decode cX1_openSlot 43 = .ok (.if_icmp .le 31, 3) := by decide +kernel
theorem dX1_openSlot_46 : decode cX1_openSlot 46 = .ok (.aload_n 0, 1) := by decide +kernel
theorem dX1_openSlot_47 : decode cX1_openSlot 47 = .ok (.getfield 25, 3) := by decide +kernel
theorem dX1_openSlot_50 : decode cX1_openSlot 50 = .ok (.iload 4, 2) := by decide +kernel
theorem dX1_openSlot_52 : decode cX1_openSlot 52 = .ok (.iload 5, 2) := by decide +kernel
theorem dX1_openSlot_54 : decode cX1_openSlot 54 = .ok (.iadd, 1) := by decide +kernel
theorem dX1_openSlot_55 : decode cX1_openSlot 55 = .ok (.aload_n 0, 1) := by decide +kernel
theorem dX1_openSlot_56 : decode cX1_openSlot 56 = .ok (.getfield 25, 3) := by decide +kernel
theorem dX1_openSlot_59 : decode cX1_openSlot 59 = .ok (.iload 4, 2) := by decide +kernel
theorem dX1_openSlot_61 : decode cX1_openSlot 61 = .ok (.iload 5, 2) := by decide +kernel
theorem dX1_openSlot_63 : decode cX1_openSlot 63 = .ok (.iadd, 1) := by decide +kernel
theorem dX1_openSlot_64 : decode cX1_openSlot 64 = .ok (.iconst 1, 1) := by decide +kernel
theorem dX1_openSlot_65 : decode cX1_openSlot 65 = .ok (.isub, 1) := by decide +kernel
theorem dX1_openSlot_66 : decode cX1_openSlot 66 = .ok (.iaload, 1) := by decide +kernel
theorem dX1_openSlot_67 : decode cX1_openSlot 67 = .ok (.iastore, 1) := by decide +kernel
theorem dX1_openSlot_68 : decode cX1_openSlot 68 = .ok (.iinc 5 (-1), 3) := by decide +kernel
theorem dX1_openSlot_71 : decode cX1_openSlot 71 = .ok (.goto (-31), 3) := by decide +kernel
theorem dX1_openSlot_74 : decode cX1_openSlot 74 = .ok (.aload_n 0, 1) := by decide +kernel
theorem dX1_openSlot_75 : decode cX1_openSlot 75 = .ok (.getfield 25, 3) := by decide +kernel
theorem dX1_openSlot_78 : decode cX1_openSlot 78 = .ok (.iload 4, 2) := by decide +kernel
theorem dX1_openSlot_80 : decode cX1_openSlot 80 = .ok (.iload_n 2, 1) := by decide +kernel
theorem dX1_openSlot_81 : decode cX1_openSlot 81 = .ok (.iadd, 1) := by decide +kernel
theorem dX1_openSlot_82 : decode cX1_openSlot 82 = .ok (.iload_n 3, 1) := by decide +kernel
theorem dX1_openSlot_83 : decode cX1_openSlot 83 = .ok (.iastore, 1) := by decide +kernel
theorem dX1_openSlot_84 : decode cX1_openSlot 84 = .ok (.aload_n 0, 1) := by decide +kernel
theorem dX1_openSlot_85 : decode cX1_openSlot 85 = .ok (.getfield 22, 3) := by decide +kernel
theorem dX1_openSlot_88 : decode cX1_openSlot 88 = .ok (.iload_n 1, 1) := by decide +kernel
theorem dX1_openSlot_89 : decode cX1_openSlot 89 = .ok (.dup2, 1) := by decide +kernel
theorem dX1_openSlot_90 : decode cX1_openSlot 90 = .ok (.iaload, 1) := by decide +kernel
theorem dX1_openSlot_91 : decode cX1_openSlot 91 = .ok (.iconst 1, 1) := by decide +kernel
theorem dX1_openSlot_92 : decode cX1_openSlot 92 = .ok (.iadd, 1) := by decide +kernel
theorem dX1_openSlot_93 : decode cX1_openSlot 93 = .ok (.iastore, 1) := by decide +kernel
theorem dX1_openSlot_94 : decode cX1_openSlot 94 = .ok (.return_, 1) := by decide +kernel
theorem dX1_removeAt_0 : decode cX1_removeAt 0 = .ok (.iconst 0, 1) := by decide +kernel
theorem dX1_removeAt_1 : decode cX1_removeAt 1 = .ok (.istore_n 2, 1) := by decide +kernel
theorem dX1_removeAt_2 : decode cX1_removeAt 2 = .ok (.iload_n 2, 1) := by decide +kernel
theorem dX1_removeAt_3 : decode cX1_removeAt 3 = .ok (.aload_n 0, 1) := by decide +kernel
theorem dX1_removeAt_4 : decode cX1_removeAt 4 = .ok (.getfield 9, 3) := by decide +kernel
theorem dX1_removeAt_7 : decode cX1_removeAt 7 = .ok (.if_icmp .ge 15, 3) := by decide +kernel
theorem dX1_removeAt_10 : decode cX1_removeAt 10 = .ok (.aload_n 0, 1) := by decide +kernel
theorem dX1_removeAt_11 : decode cX1_removeAt 11 = .ok (.iload_n 2, 1) := by decide +kernel
theorem dX1_removeAt_12 : decode cX1_removeAt 12 = .ok (.iload_n 1, 1) := by decide +kernel
theorem dX1_removeAt_13 : decode cX1_removeAt 13 = .ok (.invokevirtual 66, 3) := by decide +kernel
theorem dX1_removeAt_16 : decode cX1_removeAt 16 = .ok (.iinc 2 1, 3) := by decide +kernel
theorem dX1_removeAt_19 : decode cX1_removeAt 19 = .ok (.goto (-17), 3) := by decide +kernel
theorem dX1_removeAt_22 : decode cX1_removeAt 22 = .ok (.aload_n 0, 1) := by decide +kernel
theorem dX1_removeAt_23 : decode cX1_removeAt 23 = .ok (.dup, 1) := by decide +kernel
theorem dX1_removeAt_24 : decode cX1_removeAt 24 = .ok (.getfield 28, 3) := by decide +kernel
theorem dX1_removeAt_27 : decode cX1_removeAt 27 = .ok (.iconst 1, 1) := by decide +kernel
theorem dX1_removeAt_28 : decode cX1_removeAt 28 = .ok (.isub, 1) := by decide +kernel
theorem dX1_removeAt_29 : decode cX1_removeAt 29 = .ok (.putfield 28, 3) := by decide +kernel
theorem dX1_removeAt_32 : decode cX1_removeAt 32 = .ok (.iload_n 1, 1) := by decide +kernel
theorem dX1_removeAt_33 : decode cX1_removeAt 33 = .ok (.istore_n 2, 1) := by decide +kernel
theorem dX1_removeAt_34 : decode cX1_removeAt 34 = .ok (.iload_n 2, 1) := by decide +kernel
theorem dX1_removeAt_35 : decode cX1_removeAt 35 = .ok (.aload_n 0, 1) := by decide +kernel
theorem dX1_removeAt_36 : decode cX1_removeAt 36 = .ok (.getfield 28, 3) := by decide +kernel
theorem dX1_removeAt_39 : decode cX1_removeAt 39 = .ok (.if_icmp .ge 37, 3) := by decide +kernel
theorem dX1_removeAt_42 : decode cX1_removeAt 42 = .ok (.aload_n 0, 1) := by decide +kernel
theorem dX1_removeAt_43 : decode cX1_removeAt 43 = .ok (.getfield 15, 3) := by decide +kernel
theorem dX1_removeAt_46 : decode cX1_removeAt 46 = .ok (.iload_n 2, 1) := by decide +kernel
theorem dX1_removeAt_47 : decode cX1_removeAt 47 = .ok (.aload_n 0, 1) := by decide +kernel
theorem dX1_removeAt_48 : decode cX1_removeAt 48 = .ok (.getfield 15, 3) := by decide +kernel
theorem dX1_removeAt_51 : decode cX1_removeAt 51 = .ok (.iload_n 2, 1) := by decide +kernel
theorem dX1_removeAt_52 : decode cX1_removeAt 52 = .ok (.iconst 1, 1) := by decide +kernel
theorem dX1_removeAt_53 : decode cX1_removeAt 53 = .ok (.iadd, 1) := by decide +kernel
theorem dX1_removeAt_54 : decode cX1_removeAt 54 = .ok (.iaload, 1) := by decide +kernel
theorem dX1_removeAt_55 : decode cX1_removeAt 55 = .ok (.iastore, 1) := by decide +kernel
theorem dX1_removeAt_56 : decode cX1_removeAt 56 = .ok (.aload_n 0, 1) := by decide +kernel
theorem dX1_removeAt_57 : decode cX1_removeAt 57 = .ok (.getfield 19, 3) := by decide +kernel
theorem dX1_removeAt_60 : decode cX1_removeAt 60 = .ok (.iload_n 2, 1) := by decide +kernel
theorem dX1_removeAt_61 : decode cX1_removeAt 61 = .ok (.aload_n 0, 1) := by decide +kernel
theorem dX1_removeAt_62 : decode cX1_removeAt 62 = .ok (.getfield 19, 3) := by decide +kernel
theorem dX1_removeAt_65 : decode cX1_removeAt 65 = .ok (.iload_n 2, 1) := by decide +kernel
theorem dX1_removeAt_66 : decode cX1_removeAt 66 = .ok (.iconst 1, 1) := by decide +kernel
theorem dX1_removeAt_67 : decode cX1_removeAt 67 = .ok (.iadd, 1) := by decide +kernel
theorem dX1_removeAt_68 : decode cX1_removeAt 68 = .ok (.iaload, 1) := by decide +kernel
theorem dX1_removeAt_69 : decode cX1_removeAt 69 = .ok (.iastore, 1) := by decide +kernel
theorem dX1_removeAt_70 : decode cX1_removeAt 70 = .ok (.iinc 2 1, 3) := by decide +kernel
theorem dX1_removeAt_73 : decode cX1_removeAt 73 = .ok (.goto (-39), 3) := by decide +kernel
theorem dX1_removeAt_76 : decode cX1_removeAt 76 = .ok (.return_, 1) := by decide +kernel
theorem dX1_closeSlots_0 : decode cX1_closeSlots 0 = .ok (.iload_n 1, 1) := by decide +kernel
theorem dX1_closeSlots_1 : decode cX1_closeSlots 1 = .ok (.bipush 8, 2) := by decide +kernel
theorem dX1_closeSlots_3 : decode cX1_closeSlots 3 = .ok (.imul, 1) := by decide +kernel
theorem dX1_closeSlots_4 : decode cX1_closeSlots 4 = .ok (.istore_n 3, 1) := by decide +kernel
theorem dX1_closeSlots_5 : decode cX1_closeSlots 5 = .ok (.iconst 0, 1) := by decide +kernel
theorem dX1_closeSlots_6 : decode cX1_closeSlots 6 = .ok (.istore 4, 2) := by decide +kernel
theorem dX1_closeSlots_8 : decode cX1_closeSlots 8 = .ok (.iconst 0, 1) := by decide +kernel
theorem dX1_closeSlots_9 : decode cX1_closeSlots 9 = .ok (.istore 5, 2) := by decide +kernel
theorem dX1_closeSlots_11 : decode cX1_closeSlots 11 = .ok (.iload 5, 2) := by decide +kernel
theorem dX1_closeSlots_13 : decode cX1_closeSlots 13 = .ok (.aload_n 0, 1) := by decide +kernel
theorem dX1_closeSlots_14 : decode cX1_closeSlots 14 = .ok (.getfield 22, 3) := by decide +kernel
theorem dX1_closeSlots_17 : decode cX1_closeSlots 17 = .ok (.iload_n 1, 1) := by decide +kernel
theorem dX1_closeSlots_18 : decode cX1_closeSlots 18 = .ok (.iaload, 1) := by decide +kernel
theorem dX1_closeSlots_19 : decode cX1_closeSlots 19 = .ok (.if_icmp .ge 53, 3) := by decide +kernel
theorem dX1_closeSlots_22 : decode cX1_closeSlots 22 = .ok (.aload_n 0, 1) := by decide +kernel
theorem dX1_closeSlots_23 : decode cX1_closeSlots 23 = .ok (.getfield 25, 3) := by decide +kernel
theorem dX1_closeSlots_26 : decode cX1_closeSlots 26 = .ok (.iload_n 3, 1) := by decide +kernel
theorem dX1_closeSlots_27 : decode cX1_closeSlots 27 = .ok (.iload 5, 2) := by decide +kernel
theorem dX1_closeSlots_29 : decode cX1_closeSlots 29 = .ok (.iadd, 1) := by decide +kernel
theorem dX1_closeSlots_30 : decode cX1_closeSlots 30 = .ok (.iaload, 1) := by decide +kernel
theorem dX1_closeSlots_31 : decode cX1_closeSlots 31 = .ok (.istore 6, 2) := by decide +kernel
theorem dX1_closeSlots_33 : decode cX1_closeSlots 33 = .ok (.iload 6, 2) := by decide +kernel
theorem dX1_closeSlots_35 : decode cX1_closeSlots 35 = .ok (.iload_n 2, 1) := by decide +kernel
theorem dX1_closeSlots_36 : decode cX1_closeSlots 36 = .ok (.if_icmp .eq 30, 3) := by decide +kernel
theorem dX1_closeSlots_39 : decode cX1_closeSlots 39 = .ok (.aload_n 0, 1) := by decide +kernel
theorem dX1_closeSlots_40 : decode cX1_closeSlots 40 = .ok (.getfield 25, 3) := by decide +kernel
theorem dX1_closeSlots_43 : decode cX1_closeSlots 43 = .ok (.iload_n 3, 1) := by decide +kernel
theorem dX1_closeSlots_44 : decode cX1_closeSlots 44 = .ok (.iload 4, 2) := by decide +kernel
theorem dX1_closeSlots_46 : decode cX1_closeSlots 46 = .ok (.iadd, 1) := by decide +kernel
theorem dX1_closeSlots_47 : decode cX1_closeSlots 47 = .ok (.iload 6, 2) := by decide +kernel
theorem dX1_closeSlots_49 : decode cX1_closeSlots 49 = .ok (.iload_n 2, 1) := by decide +kernel
theorem dX1_closeSlots_50 : decode cX1_closeSlots 50 = .ok (.if_icmp .le 10, 3) := by decide +kernel
theorem dX1_closeSlots_53 : decode cX1_closeSlots 53 = .ok (.iload 6, 2) := by decide +kernel
theorem dX1_closeSlots_55 : decode cX1_closeSlots 55 = .ok (.iconst 1, 1) := by decide +kernel
theorem dX1_closeSlots_56 : decode cX1_closeSlots 56 = .ok (.isub, 1) := by decide +kernel
theorem dX1_closeSlots_57 : decode cX1_closeSlots 57 = .ok (.goto 5, 3) := by decide +kernel
theorem dX1_closeSlots_60 : decode cX1_closeSlots 60 = .ok (.iload 6, 2) := by decide +kernel
theorem dX1_closeSlots_62 : decode cX1_closeSlots 62 = .ok (.iastore, 1) := by decide +kernel
theorem dX1_closeSlots_63 : decode cX1_closeSlots 63 = .ok (.iinc 4 1, 3) := by decide +kernel
theorem dX1_closeSlots_66 : decode cX1_closeSlots 66 = .ok (.iinc 5 1, 3) := by decide +kernel
theorem dX1_closeSlots_69 : decode cX1_closeSlots 69 = .ok (.goto (-58), 3) := by decide +kernel
theorem dX1_closeSlots_72 : decode cX1_closeSlots 72 = .ok (.aload_n 0, 1) := by decide +kernel
theorem dX1_closeSlots_73 : decode cX1_closeSlots 73 = .ok (.getfield 22, 3) := by decide +kernel
theorem dX1_closeSlots_76 : decode cX1_closeSlots 76 = .ok (.iload_n 1, 1) := by decide +kernel
theorem dX1_closeSlots_77 : decode cX1_closeSlots 77 = .ok (.iload 4, 2) := by decide +kernel
theorem dX1_closeSlots_79 : decode cX1_closeSlots 79 = .ok (.iastore, 1) := by decide +kernel
theorem dX1_closeSlots_80 : decode cX1_closeSlots 80 = .ok (.return_, 1) := by decide +kernel
theorem dX1_exchange_0 : decode cX1_exchange 0 = .ok (.aload_n 0, 1) := by decide +kernel
theorem dX1_exchange_1 : decode cX1_exchange 1 = .ok (.iload_n 1, 1) := by decide +kernel
theorem dX1_exchange_2 : decode cX1_exchange 2 = .ok (.iload_n 2, 1) := by decide +kernel
theorem dX1_exchange_3 : decode cX1_exchange 3 = .ok (.invokevirtual 70, 3) := by decide +kernel
theorem dX1_exchange_6 : decode cX1_exchange 6 = .ok (.istore 4, 2) := by decide +kernel
theorem dX1_exchange_8 : decode cX1_exchange 8 = .ok (.aload_n 0, 1) := by decide +kernel
theorem dX1_exchange_9 : decode cX1_exchange 9 = .ok (.iload_n 1, 1) := by decide +kernel
theorem dX1_exchange_10 : decode cX1_exchange 10 = .ok (.iload_n 3, 1) := by decide +kernel
theorem dX1_exchange_11 : decode cX1_exchange 11 = .ok (.invokevirtual 70, 3) := by decide +kernel
theorem dX1_exchange_14 : decode cX1_exchange 14 = .ok (.istore 5, 2) := by decide +kernel
theorem dX1_exchange_16 : decode cX1_exchange 16 = .ok (.iload 4, 2) := by decide +kernel
theorem dX1_exchange_18 : decode cX1_exchange 18 = .ok (.ifCond .lt 34, 3) := by decide +kernel
theorem dX1_exchange_21 : decode cX1_exchange 21 = .ok (.iload 5, 2) := by decide +kernel
theorem dX1_exchange_23 : decode cX1_exchange 23 = .ok (.ifCond .lt 29, 3) := by decide +kernel
theorem dX1_exchange_26 : decode cX1_exchange 26 = .ok (.aload_n 0, 1) := by decide +kernel
theorem dX1_exchange_27 : decode cX1_exchange 27 = .ok (.getfield 25, 3) := by decide +kernel
theorem dX1_exchange_30 : decode cX1_exchange 30 = .ok (.iload_n 1, 1) := by decide +kernel
theorem dX1_exchange_31 : decode cX1_exchange 31 = .ok (.bipush 8, 2) := by decide +kernel
theorem dX1_exchange_33 : decode cX1_exchange 33 = .ok (.imul, 1) := by decide +kernel
theorem dX1_exchange_34 : decode cX1_exchange 34 = .ok (.iload 4, 2) := by decide +kernel
theorem dX1_exchange_36 : decode cX1_exchange 36 = .ok (.iadd, 1) := by decide +kernel
theorem dX1_exchange_37 : decode cX1_exchange 37 = .ok (.iload_n 3, 1) := by decide +kernel
theorem dX1_exchange_38 : decode cX1_exchange 38 = .ok (.iastore, 1) := by decide +kernel
theorem dX1_exchange_39 : decode cX1_exchange 39 = .ok (.aload_n 0, 1) := by decide +kernel
theorem dX1_exchange_40 : decode cX1_exchange 40 = .ok (.getfield 25, 3) := by decide +kernel
theorem dX1_exchange_43 : decode cX1_exchange 43 = .ok (.iload_n 1, 1) := by decide +kernel
theorem dX1_exchange_44 : decode cX1_exchange 44 = .ok (.bipush 8, 2) := by decide +kernel
theorem dX1_exchange_46 : decode cX1_exchange 46 = .ok (.imul, 1) := by decide +kernel
theorem dX1_exchange_47 : decode cX1_exchange 47 = .ok (.iload 5, 2) := by decide +kernel
theorem dX1_exchange_49 : decode cX1_exchange 49 = .ok (.iadd, 1) := by decide +kernel
theorem dX1_exchange_50 : decode cX1_exchange 50 = .ok (.iload_n 2, 1) := by decide +kernel
theorem dX1_exchange_51 : decode cX1_exchange 51 = .ok (.iastore, 1) := by decide +kernel
theorem dX1_exchange_52 : decode cX1_exchange 52 = .ok (.return_, 1) := by decide +kernel
theorem dX1_reverseAll_0 : decode cX1_reverseAll 0 = .ok (.iconst 0, 1) := by decide +kernel
theorem dX1_reverseAll_1 : decode cX1_reverseAll 1 = .ok (.istore_n 1, 1) := by decide +kernel
theorem dX1_reverseAll_2 : decode cX1_reverseAll 2 = .ok (.iload_n 1, 1) := by decide +kernel
theorem dX1_reverseAll_3 : decode cX1_reverseAll 3 = .ok (.aload_n 0, 1) := by decide +kernel
theorem dX1_reverseAll_4 : decode cX1_reverseAll 4 = .ok (.getfield 9, 3) := by decide +kernel
theorem dX1_reverseAll_7 : decode cX1_reverseAll 7 = .ok (.if_icmp .ge 67, 3) := by decide +kernel
theorem dX1_reverseAll_10 : decode cX1_reverseAll 10 = .ok (.iload_n 1, 1) := by decide +kernel
theorem dX1_reverseAll_11 : decode cX1_reverseAll 11 = .ok (.bipush 8, 2) := by decide +kernel
theorem dX1_reverseAll_13 : decode cX1_reverseAll 13 = .ok (.imul, 1) := by decide +kernel
theorem dX1_reverseAll_14 : decode cX1_reverseAll 14 = .ok (.istore_n 2, 1) := by decide +kernel
theorem dX1_reverseAll_15 : decode cX1_reverseAll 15 = .ok (.iload_n 2, 1) := by decide +kernel
theorem dX1_reverseAll_16 : decode cX1_reverseAll 16 = .ok (.aload_n 0, 1) := by decide +kernel
theorem dX1_reverseAll_17 : decode cX1_reverseAll 17 = .ok (.getfield 22, 3) := by decide +kernel
theorem dX1_reverseAll_20 : decode cX1_reverseAll 20 = .ok (.iload_n 1, 1) := by decide +kernel
theorem dX1_reverseAll_21 : decode cX1_reverseAll 21 = .ok (.iaload, 1) := by decide +kernel
theorem dX1_reverseAll_22 : decode cX1_reverseAll 22 = .ok (.iadd, 1) := by decide +kernel
theorem dX1_reverseAll_23 : decode cX1_reverseAll 23 = .ok (.iconst 1, 1) := by decide +kernel
theorem dX1_reverseAll_24 : decode cX1_reverseAll 24 = .ok (.isub, 1) := by decide +kernel
theorem dX1_reverseAll_25 : decode cX1_reverseAll 25 = .ok (.istore_n 3, 1) := by decide +kernel
theorem dX1_reverseAll_26 : decode cX1_reverseAll 26 = .ok (.iload_n 2, 1) := by decide +kernel
theorem dX1_reverseAll_27 : decode cX1_reverseAll 27 = .ok (.iload_n 3, 1) := by decide +kernel
theorem dX1_reverseAll_28 : decode cX1_reverseAll 28 = .ok (.if_icmp .ge 40, 3) := by decide +kernel
theorem dX1_reverseAll_31 : decode cX1_reverseAll 31 = .ok (.aload_n 0, 1) := by decide +kernel
theorem dX1_reverseAll_32 : decode cX1_reverseAll 32 = .ok (.getfield 25, 3) := by decide +kernel
theorem dX1_reverseAll_35 : decode cX1_reverseAll 35 = .ok (.iload_n 2, 1) := by decide +kernel
theorem dX1_reverseAll_36 : decode cX1_reverseAll 36 = .ok (.iaload, 1) := by decide +kernel
theorem dX1_reverseAll_37 : decode cX1_reverseAll 37 = .ok (.istore 4, 2) := by decide +kernel
theorem dX1_reverseAll_39 : decode cX1_reverseAll 39 = .ok (.aload_n 0, 1) := by decide +kernel
theorem dX1_reverseAll_40 : decode cX1_reverseAll 40 = .ok (.getfield 25, 3) := by decide +kernel
theorem dX1_reverseAll_43 : decode cX1_reverseAll 43 = .ok (.iload_n 2, 1) := by decide +kernel
theorem dX1_reverseAll_44 : decode cX1_reverseAll 44 = .ok (.aload_n 0, 1) := by decide +kernel
theorem dX1_reverseAll_45 : decode cX1_reverseAll 45 = .ok (.getfield 25, 3) := by decide +kernel
theorem dX1_reverseAll_48 : decode cX1_reverseAll 48 = .ok (.iload_n 3, 1) := by decide +kernel
theorem dX1_reverseAll_49 : decode cX1_reverseAll 49 = .ok (.iaload, 1) := by decide +kernel
theorem dX1_reverseAll_50 : decode cX1_reverseAll 50 = .ok (.iastore, 1) := by decide +kernel
theorem dX1_reverseAll_51 : decode cX1_reverseAll 51 = .ok (.aload_n 0, 1) := by decide +kernel
theorem dX1_reverseAll_52 : decode cX1_reverseAll 52 = .ok (.getfield 25, 3) := by decide +kernel
theorem dX1_reverseAll_55 : decode cX1_reverseAll 55 = .ok (.iload_n 3, 1) := by decide +kernel
theorem dX1_reverseAll_56 : decode cX1_reverseAll 56 = .ok (.iload 4, 2) := by decide +kernel
theorem dX1_reverseAll_58 : decode cX1_reverseAll 58 = .ok (.iastore, 1) := by decide +kernel
theorem dX1_reverseAll_59 : decode cX1_reverseAll 59 = .ok (.iinc 2 1, 3) := by decide +kernel
theorem dX1_reverseAll_62 : decode cX1_reverseAll 62 = .ok (.iinc 3 (-1), 3) := by decide +kernel
theorem dX1_reverseAll_65 : decode cX1_reverseAll 65 = .ok (.goto (-39), 3) := by decide +kernel
theorem dX1_reverseAll_68 : decode cX1_reverseAll 68 = .ok (.iinc 1 1, 3) := by decide +kernel
theorem dX1_reverseAll_71 : decode cX1_reverseAll 71 = .ok (.goto (-69), 3) := by decide +kernel
theorem dX1_reverseAll_74 : decode cX1_reverseAll 74 = .ok (.return_, 1) := by decide +kernel
theorem dX1_tailOf_0 : decode cX1_tailOf 0 = .ok (.iload_n 1, 1) := by decide +kernel
theorem dX1_tailOf_1 : decode cX1_tailOf 1 = .ok (.iconst 2, 1) := by decide +kernel
theorem dX1_tailOf_2 : decode cX1_tailOf 2 = .ok (.irem, 1) := by decide +kernel
theorem dX1_tailOf_3 : decode cX1_tailOf 3 = .ok (.ifCond .ne 14, 3) := by decide +kernel
theorem dX1_tailOf_6 : decode cX1_tailOf 6 = .ok (.aload_n 0, 1) := by decide +kernel
theorem dX1_tailOf_7 : decode cX1_tailOf 7 = .ok (.getfield 15, 3) := by decide +kernel
theorem dX1_tailOf_10 : decode cX1_tailOf 10 = .ok (.iload_n 1, 1) := by decide +kernel
theorem dX1_tailOf_11 : decode cX1_tailOf 11 = .ok (.iconst 2, 1) := by decide +kernel
theorem dX1_tailOf_12 : decode cX1_tailOf 12 = .ok (.idiv, 1) := by decide +kernel
theorem dX1_tailOf_13 : decode cX1_tailOf 13 = .ok (.iaload, 1) := by decide +kernel
theorem dX1_tailOf_14 : decode cX1_tailOf 14 = .ok (.goto 11, 3) := by decide +kernel
theorem dX1_tailOf_17 : decode cX1_tailOf 17 = .ok (.aload_n 0, 1) := by decide +kernel
theorem dX1_tailOf_18 : decode cX1_tailOf 18 = .ok (.getfield 19, 3) := by decide +kernel
theorem dX1_tailOf_21 : decode cX1_tailOf 21 = .ok (.iload_n 1, 1) := by decide +kernel
theorem dX1_tailOf_22 : decode cX1_tailOf 22 = .ok (.iconst 2, 1) := by decide +kernel
theorem dX1_tailOf_23 : decode cX1_tailOf 23 = .ok (.idiv, 1) := by decide +kernel
theorem dX1_tailOf_24 : decode cX1_tailOf 24 = .ok (.iaload, 1) := by decide +kernel
theorem dX1_tailOf_25 : decode cX1_tailOf 25 = .ok (.ireturn, 1) := by decide +kernel
theorem dX1_following_0 : decode cX1_following 0 = .ok (.aload_n 0, 1) := by decide +kernel
theorem dX1_following_1 : decode cX1_following 1 = .ok (.iload_n 1, 1) := by decide +kernel
theorem dX1_following_2 : decode cX1_following 2 = .ok (.iconst 1, 1) := by decide +kernel
theorem dX1_following_3 : decode cX1_following 3 = .ok (.ixor, 1) := by decide +kernel
theorem dX1_following_4 : decode cX1_following 4 = .ok (.invokevirtual 73, 3) := by decide +kernel
theorem dX1_following_7 : decode cX1_following 7 = .ok (.istore_n 2, 1) := by decide +kernel
theorem dX1_following_8 : decode cX1_following 8 = .ok (.aload_n 0, 1) := by decide +kernel
theorem dX1_following_9 : decode cX1_following 9 = .ok (.iload_n 2, 1) := by decide +kernel
theorem dX1_following_10 : decode cX1_following 10 = .ok (.iload_n 1, 1) := by decide +kernel
theorem dX1_following_11 : decode cX1_following 11 = .ok (.iconst 2, 1) := by decide +kernel
theorem dX1_following_12 : decode cX1_following 12 = .ok (.idiv, 1) := by decide +kernel
theorem dX1_following_13 : decode cX1_following 13 = .ok (.invokevirtual 70, 3) := by decide +kernel
theorem dX1_following_16 : decode cX1_following 16 = .ok (.iconst 1, 1) := by decide +kernel
theorem dX1_following_17 : decode cX1_following 17 = .ok (.iadd, 1) := by decide +kernel
theorem dX1_following_18 : decode cX1_following 18 = .ok (.istore_n 3, 1) := by decide +kernel
theorem dX1_following_19 : decode cX1_following 19 = .ok (.aload_n 0, 1) := by decide +kernel
theorem dX1_following_20 : decode cX1_following 20 = .ok (.iload_n 2, 1) := by decide +kernel
theorem dX1_following_21 : decode cX1_following 21 = .ok (.iload_n 3, 1) := by decide +kernel
theorem dX1_following_22 : decode cX1_following 22 = .ok (.aload_n 0, 1) := by decide +kernel
theorem dX1_following_23 : decode cX1_following 23 = .ok (.getfield 22, 3) := by decide +kernel
theorem dX1_following_26 : decode cX1_following 26 = .ok (.iload_n 2, 1) := by decide +kernel
theorem dX1_following_27 : decode cX1_following 27 = .ok (.iaload, 1) := by decide +kernel
theorem dX1_following_28 : decode cX1_following 28 = .ok (.if_icmp .ge 7, 3) := by decide +kernel
theorem dX1_following_31 : decode cX1_following 31 = .ok (.iload_n 3, 1) := by decide +kernel
theorem dX1_following_32 : decode cX1_following 32 = .ok (.goto 4, 3) := by decide +kernel
theorem dX1_following_35 : decode cX1_following 35 = .ok (.iconst 0, 1) := by decide +kernel
theorem dX1_following_36 : decode cX1_following 36 = .ok (.invokevirtual 59, 3) := by decide +kernel
theorem dX1_following_39 : decode cX1_following 39 = .ok (.istore 4, 2) := by decide +kernel
theorem dX1_following_41 : decode cX1_following 41 = .ok (.aload_n 0, 1) := by decide +kernel
theorem dX1_following_42 : decode cX1_following 42 = .ok (.getfield 15, 3) := by decide +kernel
theorem dX1_following_45 : decode cX1_following 45 = .ok (.iload 4, 2) := by decide +kernel
theorem dX1_following_47 : decode cX1_following 47 = .ok (.iaload, 1) := by decide +kernel
theorem dX1_following_48 : decode cX1_following 48 = .ok (.iload_n 2, 1) := by decide +kernel
theorem dX1_following_49 : decode cX1_following 49 = .ok (.if_icmp .ne 10, 3) := by decide +kernel
theorem dX1_following_52 : decode cX1_following 52 = .ok (.iconst 2, 1) := by decide +kernel
theorem dX1_following_53 : decode cX1_following 53 = .ok (.iload 4, 2) := by decide +kernel
theorem dX1_following_55 : decode cX1_following 55 = .ok (.imul, 1) := by decide +kernel
theorem dX1_following_56 : decode cX1_following 56 = .ok (.goto 9, 3) := by decide +kernel
theorem dX1_following_59 : decode cX1_following 59 = .ok (.iconst 2, 1) := by decide +kernel
theorem dX1_following_60 : decode cX1_following 60 = .ok (.iload 4, 2) := by decide +kernel
theorem dX1_following_62 : decode cX1_following 62 = .ok (.imul, 1) := by decide +kernel
theorem dX1_following_63 : decode cX1_following 63 = .ok (.iconst 1, 1) := by decide +kernel
theorem dX1_following_64 : decode cX1_following 64 = .ok (.iadd, 1) := by decide +kernel
theorem dX1_following_65 : decode cX1_following 65 = .ok (.ireturn, 1) := by decide +kernel
theorem dX1_fillLinks_0 : decode cX1_fillLinks 0 = .ok (.aload_n 1, 1) := by decide +kernel
theorem dX1_fillLinks_1 : decode cX1_fillLinks 1 = .ok (.iconst 0, 1) := by decide +kernel
theorem dX1_fillLinks_2 : decode cX1_fillLinks 2 = .ok (.invokestatic 31, 3) := by decide +kernel
theorem dX1_fillLinks_5 : decode cX1_fillLinks 5 = .ok (.iconst 0, 1) := by decide +kernel
theorem dX1_fillLinks_6 : decode cX1_fillLinks 6 = .ok (.istore_n 2, 1) := by decide +kernel
theorem dX1_fillLinks_7 : decode cX1_fillLinks 7 = .ok (.iload_n 2, 1) := by decide +kernel
theorem dX1_fillLinks_8 : decode cX1_fillLinks 8 = .ok (.aload_n 0, 1) := by decide +kernel
theorem dX1_fillLinks_9 : decode cX1_fillLinks 9 = .ok (.getfield 28, 3) := by decide +kernel
theorem dX1_fillLinks_12 : decode cX1_fillLinks 12 = .ok (.if_icmp .ge 49, 3) := by decide +kernel
theorem dX1_fillLinks_15 : decode cX1_fillLinks 15 = .ok (.aload_n 1, 1) := by decide +kernel
theorem dX1_fillLinks_16 : decode cX1_fillLinks 16 = .ok (.aload_n 0, 1) := by decide +kernel
theorem dX1_fillLinks_17 : decode cX1_fillLinks 17 = .ok (.getfield 15, 3) := by decide +kernel
theorem dX1_fillLinks_20 : decode cX1_fillLinks 20 = .ok (.iload_n 2, 1) := by decide +kernel
theorem dX1_fillLinks_21 : decode cX1_fillLinks 21 = .ok (.iaload, 1) := by decide +kernel
theorem dX1_fillLinks_22 : decode cX1_fillLinks 22 = .ok (.dup2, 1) := by decide +kernel
theorem dX1_fillLinks_23 : decode cX1_fillLinks 23 = .ok (.iaload, 1) := by decide +kernel
theorem dX1_fillLinks_24 : decode cX1_fillLinks 24 = .ok (.aload_n 0, 1) := by decide +kernel
theorem dX1_fillLinks_25 : decode cX1_fillLinks 25 = .ok (.getfield 19, 3) := by decide +kernel
theorem dX1_fillLinks_28 : decode cX1_fillLinks 28 = .ok (.iload_n 2, 1) := by decide +kernel
theorem dX1_fillLinks_29 : decode cX1_fillLinks 29 = .ok (.iaload, 1) := by decide +kernel
theorem dX1_fillLinks_30 : decode cX1_fillLinks 30 = .ok (.invokestatic 77, 3) := by decide +kernel
theorem dX1_fillLinks_33 : decode cX1_fillLinks 33 = .ok (.ior, 1) := by decide +kernel
theorem dX1_fillLinks_34 : decode cX1_fillLinks 34 = .ok (.iastore, 1) := by decide +kernel
theorem dX1_fillLinks_35 : decode cX1_fillLinks 35 = .ok (.aload_n 1, 1) := by decide +kernel
theorem dX1_fillLinks_36 : decode cX1_fillLinks 36 = .ok (.aload_n 0, 1) := by decide +kernel
theorem dX1_fillLinks_37 : decode cX1_fillLinks 37 = .ok (.getfield 19, 3) := by decide +kernel
theorem dX1_fillLinks_40 : decode cX1_fillLinks 40 = .ok (.iload_n 2, 1) := by decide +kernel
theorem dX1_fillLinks_41 : decode cX1_fillLinks 41 = .ok (.iaload, 1) := by decide +kernel
theorem dX1_fillLinks_42 : decode cX1_fillLinks 42 = .ok (.dup2, 1) := by decide +kernel
theorem dX1_fillLinks_43 : decode cX1_fillLinks 43 = .ok (.iaload, 1) := by decide +kernel
theorem dX1_fillLinks_44 : decode cX1_fillLinks 44 = .ok (.aload_n 0, 1) := by decide +kernel
theorem dX1_fillLinks_45 : decode cX1_fillLinks 45 = .ok (.getfield 15, 3) := by decide +kernel
theorem dX1_fillLinks_48 : decode cX1_fillLinks 48 = .ok (.iload_n 2, 1) := by decide +kernel
theorem dX1_fillLinks_49 : decode cX1_fillLinks 49 = .ok (.iaload, 1) := by decide +kernel
theorem dX1_fillLinks_50 : decode cX1_fillLinks 50 = .ok (.invokestatic 77, 3) := by decide +kernel
theorem dX1_fillLinks_53 : decode cX1_fillLinks 53 = .ok (.ior, 1) := by decide +kernel
theorem dX1_fillLinks_54 : decode cX1_fillLinks 54 = .ok (.iastore, 1) := by decide +kernel
theorem dX1_fillLinks_55 : decode cX1_fillLinks 55 = .ok (.iinc 2 1, 3) := by decide +kernel
theorem dX1_fillLinks_58 : decode cX1_fillLinks 58 = .ok (.goto (-51), 3) := by decide +kernel
theorem dX1_fillLinks_61 : decode cX1_fillLinks 61 = .ok (.return_, 1) := by decide +kernel
theorem dX2_init_0 : decode cX2_init 0 = .ok (.aload_n 0, 1) := by decide +kernel
theorem dX2_init_1 : decode cX2_init 1 = .ok (.invokespecial 3, 3) := by decide +kernel
theorem dX2_init_4 : decode cX2_init 4 = .ok (.aload_n 0, 1) := by decide +kernel
theorem dX2_init_5 : decode cX2_init 5 = .ok (.bipush 6, 2) := by decide +kernel
theorem dX2_init_7 : decode cX2_init 7 = .ok (.anewarray 9, 3) := by decide +kernel
theorem dX2_init_10 : decode cX2_init 10 = .ok (.putfield 11, 3) := by decide +kernel
theorem dX2_init_13 : decode cX2_init 13 = .ok (.iconst 0, 1) := by decide +kernel
theorem dX2_init_14 : decode cX2_init 14 = .ok (.istore_n 1, 1) := by decide +kernel
theorem dX2_init_15 : decode cX2_init 15 = .ok (.iload_n 1, 1) := by decide +kernel
theorem dX2_init_16 : decode cX2_init 16 = .ok (.bipush 6, 2) := by decide +kernel
theorem dX2_init_18 : decode cX2_init 18 = .ok (.if_icmp .ge 22, 3) := by decide +kernel
theorem dX2_init_21 : decode cX2_init 21 = .ok (.aload_n 0, 1) := by decide +kernel
theorem dX2_init_22 : decode cX2_init 22 = .ok (.getfield 11, 3) := by decide +kernel
theorem dX2_init_25 : decode cX2_init 25 = .ok (.iload_n 1, 1) := by decide +kernel
theorem dX2_init_26 : decode cX2_init 26 = .ok (.new 9, 3) := by decide +kernel
theorem dX2_init_29 : decode cX2_init 29 = .ok (.dup, 1) := by decide +kernel
theorem dX2_init_30 : decode cX2_init 30 = .ok (.invokespecial 17, 3) := by decide +kernel
theorem dX2_init_33 : decode cX2_init 33 = .ok (.aastore, 1) := by decide +kernel
theorem dX2_init_34 : decode cX2_init 34 = .ok (.iinc 1 1, 3) := by decide +kernel
theorem dX2_init_37 : decode cX2_init 37 = .ok (.goto (-22), 3) := by decide +kernel
theorem dX2_init_40 : decode cX2_init 40 = .ok (.return_, 1) := by decide +kernel
theorem dX2_save_0 : decode cX2_save 0 = .ok (.aload_n 0, 1) := by decide +kernel
theorem dX2_save_1 : decode cX2_save 1 = .ok (.getfield 18, 3) := by decide +kernel
theorem dX2_save_4 : decode cX2_save 4 = .ok (.bipush 6, 2) := by decide +kernel
theorem dX2_save_6 : decode cX2_save 6 = .ok (.if_icmp .ne 7, 3) := by decide +kernel
theorem dX2_save_9 : decode cX2_save 9 = .ok (.aload_n 0, 1) := by decide +kernel
theorem dX2_save_10 : decode cX2_save 10 = .ok (.invokevirtual 22, 3) := by decide +kernel
theorem dX2_save_13 : decode cX2_save 13 = .ok (.aload_n 0, 1) := by decide +kernel
theorem dX2_save_14 : decode cX2_save 14 = .ok (.getfield 11, 3) := by decide +kernel
theorem dX2_save_17 : decode cX2_save 17 = .ok (.aload_n 0, 1) := by decide +kernel
theorem dX2_save_18 : decode cX2_save 18 = .ok (.getfield 18, 3) := by decide +kernel
theorem dX2_save_21 : decode cX2_save 21 = .ok (.aaload, 1) := by decide +kernel
theorem dX2_save_22 : decode cX2_save 22 = .ok (.aload_n 1, 1) := by decide +kernel
theorem dX2_save_23 : decode cX2_save 23 = .ok (.invokevirtual 25, 3) := by decide +kernel
theorem dX2_save_26 : decode cX2_save 26 = .ok (.aload_n 0, 1) := by decide +kernel
theorem dX2_save_27 : decode cX2_save 27 = .ok (.dup, 1) := by decide +kernel
theorem dX2_save_28 : decode cX2_save 28 = .ok (.getfield 18, 3) := by decide +kernel
theorem dX2_save_31 : decode cX2_save 31 = .ok (.iconst 1, 1) := by decide +kernel
theorem dX2_save_32 : decode cX2_save 32 = .ok (.iadd, 1) := by decide +kernel
theorem dX2_save_33 : decode cX2_save 33 = .ok (.putfield 18, 3) := by decide +kernel
theorem dX2_save_36 : decode cX2_save 36 = .ok (.return_, 1) := by decide +kernel
theorem dX2_dropOldest_0 : decode cX2_dropOldest 0 = .ok (.aload_n 0, 1) := by decide +kernel
theorem dX2_dropOldest_1 : decode cX2_dropOldest 1 = .ok (.getfield 11, 3) := by decide +kernel
theorem dX2_dropOldest_4 : decode cX2_dropOldest 4 = .ok (.iconst 0, 1) := by decide +kernel
theorem dX2_dropOldest_5 : decode cX2_dropOldest 5 = .ok (.aaload, 1) := by decide +kernel
theorem dX2_dropOldest_6 : decode cX2_dropOldest 6 = .ok (.astore_n 1, 1) := by decide +kernel
theorem dX2_dropOldest_7 : decode cX2_dropOldest 7 = .ok (.iconst 1, 1) := by decide +kernel
theorem dX2_dropOldest_8 : decode cX2_dropOldest 8 = .ok (.istore_n 2, 1) := by decide +kernel
theorem dX2_dropOldest_9 : decode cX2_dropOldest 9 = .ok (.iload_n 2, 1) := by decide +kernel
theorem dX2_dropOldest_10 : decode cX2_dropOldest 10 = .ok (.bipush 6, 2) := by decide +kernel
theorem dX2_dropOldest_12 : decode cX2_dropOldest 12 = .ok (.if_icmp .ge 23, 3) := by decide +kernel
theorem dX2_dropOldest_15 : decode cX2_dropOldest 15 = .ok (.aload_n 0, 1) := by decide +kernel
theorem dX2_dropOldest_16 : decode cX2_dropOldest 16 = .ok (.getfield 11, 3) := by decide +kernel
theorem dX2_dropOldest_19 : decode cX2_dropOldest 19 = .ok (.iload_n 2, 1) := by decide +kernel
theorem dX2_dropOldest_20 : decode cX2_dropOldest 20 = .ok (.iconst 1, 1) := by decide +kernel
theorem dX2_dropOldest_21 : decode cX2_dropOldest 21 = .ok (.isub, 1) := by decide +kernel
theorem dX2_dropOldest_22 : decode cX2_dropOldest 22 = .ok (.aload_n 0, 1) := by decide +kernel
theorem dX2_dropOldest_23 : decode cX2_dropOldest 23 = .ok (.getfield 11, 3) := by decide +kernel
theorem dX2_dropOldest_26 : decode cX2_dropOldest 26 = .ok (.iload_n 2, 1) := by decide +kernel
theorem dX2_dropOldest_27 : decode cX2_dropOldest 27 = .ok (.aaload, 1) := by decide +kernel
theorem dX2_dropOldest_28 : decode cX2_dropOldest 28 = .ok (.aastore, 1) := by decide +kernel
theorem dX2_dropOldest_29 : decode cX2_dropOldest 29 = .ok (.iinc 2 1, 3) := by decide +kernel
theorem dX2_dropOldest_32 : decode cX2_dropOldest 32 = .ok (.goto (-23), 3) := by decide +kernel
theorem dX2_dropOldest_35 : decode cX2_dropOldest 35 = .ok (.aload_n 0, 1) := by decide +kernel
theorem dX2_dropOldest_36 : decode cX2_dropOldest 36 = .ok (.dup, 1) := by decide +kernel
theorem dX2_dropOldest_37 : decode cX2_dropOldest 37 = .ok (.getfield 18, 3) := by decide +kernel
theorem dX2_dropOldest_40 : decode cX2_dropOldest 40 = .ok (.iconst 1, 1) := by decide +kernel
theorem dX2_dropOldest_41 : decode cX2_dropOldest 41 = .ok (.isub, 1) := by decide +kernel
theorem dX2_dropOldest_42 : decode cX2_dropOldest 42 = .ok (.putfield 18, 3) := by decide +kernel
theorem dX2_dropOldest_45 : decode cX2_dropOldest 45 = .ok (.aload_n 0, 1) := by decide +kernel
theorem dX2_dropOldest_46 : decode cX2_dropOldest 46 = .ok (.getfield 11, 3) := by decide +kernel
theorem dX2_dropOldest_49 : decode cX2_dropOldest 49 = .ok (.aload_n 0, 1) := by decide +kernel
theorem dX2_dropOldest_50 : decode cX2_dropOldest 50 = .ok (.getfield 18, 3) := by decide +kernel
theorem dX2_dropOldest_53 : decode cX2_dropOldest 53 = .ok (.aload_n 1, 1) := by decide +kernel
theorem dX2_dropOldest_54 : decode cX2_dropOldest 54 = .ok (.aastore, 1) := by decide +kernel
theorem dX2_dropOldest_55 : decode cX2_dropOldest 55 = .ok (.return_, 1) := by decide +kernel
theorem dX2_restore_0 : decode cX2_restore 0 = .ok (.aload_n 0, 1) := by decide +kernel
theorem dX2_restore_1 : decode cX2_restore 1 = .ok (.dup, 1) := by decide +kernel
theorem dX2_restore_2 : decode cX2_restore 2 = .ok (.getfield 18, 3) := by decide +kernel
theorem dX2_restore_5 : decode cX2_restore 5 = .ok (.iconst 1, 1) := by decide +kernel
theorem dX2_restore_6 : decode cX2_restore 6 = .ok (.isub, 1) := by decide +kernel
theorem dX2_restore_7 : decode cX2_restore 7 = .ok (.putfield 18, 3) := by decide +kernel
theorem dX2_restore_10 : decode cX2_restore 10 = .ok (.aload_n 1, 1) := by decide +kernel
theorem dX2_restore_11 : decode cX2_restore 11 = .ok (.aload_n 0, 1) := by decide +kernel
theorem dX2_restore_12 : decode cX2_restore 12 = .ok (.getfield 11, 3) := by decide +kernel
theorem dX2_restore_15 : decode cX2_restore 15 = .ok (.aload_n 0, 1) := by decide +kernel
theorem dX2_restore_16 : decode cX2_restore 16 = .ok (.getfield 18, 3) := by decide +kernel
theorem dX2_restore_19 : decode cX2_restore 19 = .ok (.aaload, 1) := by decide +kernel
theorem dX2_restore_20 : decode cX2_restore 20 = .ok (.invokevirtual 25, 3) := by decide +kernel
theorem dX2_restore_23 : decode cX2_restore 23 = .ok (.return_, 1) := by decide +kernel
theorem dX3_init_0 : decode cX3_init 0 = .ok (.aload_n 0, 1) := by decide +kernel
theorem dX3_init_1 : decode cX3_init 1 = .ok (.invokespecial 3, 3) := by decide +kernel
theorem dX3_init_4 : decode cX3_init 4 = .ok (.aload_n 0, 1) := by decide +kernel
theorem dX3_init_5 : decode cX3_init 5 = .ok (.bipush 9, 2) := by decide +kernel
theorem dX3_init_7 : decode cX3_init 7 = .ok (.newarray .float, 2) := by decide +kernel
theorem dX3_init_9 : decode cX3_init 9 = .ok (.putfield 9, 3) := by decide +kernel
theorem dX3_init_12 : decode cX3_init 12 = .ok (.aload_n 0, 1) := by decide +kernel
theorem dX3_init_13 : decode cX3_init 13 = .ok (.bipush 9, 2) := by decide +kernel
theorem dX3_init_15 : decode cX3_init 15 = .ok (.newarray .float, 2) := by decide +kernel
theorem dX3_init_17 : decode cX3_init 17 = .ok (.putfield 15, 3) := by decide +kernel
theorem dX3_init_20 : decode cX3_init 20 = .ok (.return_, 1) := by decide +kernel
theorem dX3_arrange_0 : decode cX3_arrange 0 = .ok (.aload_n 0, 1) := by decide +kernel
theorem dX3_arrange_1 : decode cX3_arrange 1 = .ok (.getfield 9, 3) := by decide +kernel
theorem dX3_arrange_4 : decode cX3_arrange 4 = .ok (.fconst 0, 1) := by decide +kernel
theorem dX3_arrange_5 : decode cX3_arrange 5 = .ok (.invokestatic 18, 3) := by decide +kernel
theorem dX3_arrange_8 : decode cX3_arrange 8 = .ok (.aload_n 0, 1) := by decide +kernel
theorem dX3_arrange_9 : decode cX3_arrange 9 = .ok (.getfield 15, 3) := by decide +kernel
theorem dX3_arrange_12 : decode cX3_arrange 12 = .ok (.fconst 0, 1) := by decide +kernel
theorem dX3_arrange_13 : decode cX3_arrange 13 = .ok (.invokestatic 18, 3) := by decide +kernel
theorem dX3_arrange_16 : decode cX3_arrange 16 = .ok (.aload_n 2, 1) := by decide +kernel
theorem dX3_arrange_17 : decode cX3_arrange 17 = .ok (.aload_n 1, 1) := by decide +kernel
theorem dX3_arrange_18 : decode cX3_arrange 18 = .ok (.getfield 24, 3) := by decide +kernel
theorem dX3_arrange_21 : decode cX3_arrange 21 = .ok (.invokevirtual 30, 3) := by decide +kernel
theorem dX3_arrange_24 : decode cX3_arrange 24 = .ok (.ifCond .eq 12, 3) := by decide +kernel
theorem dX3_arrange_27 : decode cX3_arrange 27 = .ok (.aload_n 0, 1) := by decide +kernel
theorem dX3_arrange_28 : decode cX3_arrange 28 = .ok (.aload_n 1, 1) := by decide +kernel
theorem dX3_arrange_29 : decode cX3_arrange 29 = .ok (.aload_n 2, 1) := by decide +kernel
theorem dX3_arrange_30 : decode cX3_arrange 30 = .ok (.invokevirtual 36, 3) := by decide +kernel
theorem dX3_arrange_33 : decode cX3_arrange 33 = .ok (.goto 4, 3) := by decide +kernel
theorem dX3_arrange_36 : decode cX3_arrange 36 = .ok (.iconst 0, 1) := by decide +kernel
theorem dX3_arrange_37 : decode cX3_arrange 37 = .ok (.istore 4, 2) := by decide +kernel
theorem dX3_arrange_39 : decode cX3_arrange 39 = .ok (.iconst 0, 1) := by decide +kernel
theorem dX3_arrange_40 : decode cX3_arrange 40 = .ok (.istore 5, 2) := by decide +kernel
theorem dX3_arrange_42 : decode cX3_arrange 42 = .ok (.iload 5, 2) := by decide +kernel
theorem dX3_arrange_44 : decode cX3_arrange 44 = .ok (.iload_n 3, 1) := by decide +kernel
theorem dX3_arrange_45 : decode cX3_arrange 45 = .ok (.if_icmp .ge 54, 3) := by decide +kernel
theorem dX3_arrange_48 : decode cX3_arrange 48 = .ok (.iconst 0, 1) := by decide +kernel
theorem dX3_arrange_49 : decode cX3_arrange 49 = .ok (.istore 6, 2) := by decide +kernel
theorem dX3_arrange_51 : decode cX3_arrange 51 = .ok (.iload 6, 2) := by decide +kernel
theorem dX3_arrange_53 : decode cX3_arrange 53 = .ok (.aload_n 1, 1) := by decide +kernel
theorem dX3_arrange_54 : decode cX3_arrange 54 = .ok (.getfield 40, 3) := by decide +kernel
theorem dX3_arrange_57 : decode cX3_arrange 57 = .ok (.if_icmp .ge 36, 3) := by decide +kernel
theorem dX3_arrange_60 : decode cX3_arrange 60 = .ok (.iload 4, 2) := by decide +kernel
theorem dX3_arrange_62 : decode cX3_arrange 62 = .ok (.iload 6, 2) := by decide +kernel
theorem dX3_arrange_64 : decode cX3_arrange 64 = .ok (.invokestatic 43, 3) := by decide +kernel
theorem dX3_arrange_67 : decode cX3_arrange 67 = .ok (.ifCond .ne 20, 3) := by decide +kernel
theorem dX3_arrange_70 : decode cX3_arrange 70 = .ok (.aload_n 1, 1) := by decide +kernel
theorem dX3_arrange_71 : decode cX3_arrange 71 = .ok (.getfield 47, 3) := by decide +kernel
theorem dX3_arrange_74 : decode cX3_arrange 74 = .ok (.iload 6, 2) := by decide +kernel
theorem dX3_arrange_76 : decode cX3_arrange 76 = .ok (.iaload, 1) := by decide +kernel
theorem dX3_arrange_77 : decode cX3_arrange 77 = .ok (.ifCond .le 10, 3) := by decide +kernel
theorem dX3_arrange_80 : decode cX3_arrange 80 = .ok (.aload_n 0, 1) := by decide +kernel
theorem dX3_arrange_81 : decode cX3_arrange 81 = .ok (.aload_n 1, 1) := by decide +kernel
theorem dX3_arrange_82 : decode cX3_arrange 82 = .ok (.iload 6, 2) := by decide +kernel
theorem dX3_arrange_84 : decode cX3_arrange 84 = .ok (.invokevirtual 51, 3) := by decide +kernel
theorem dX3_arrange_87 : decode cX3_arrange 87 = .ok (.iinc 6 1, 3) := by decide +kernel
theorem dX3_arrange_90 : decode cX3_arrange 90 = .ok (.goto (-39), 3) := by decide +kernel
theorem dX3_arrange_93 : decode cX3_arrange 93 = .ok (.iinc 5 1, 3) := by decide +kernel
theorem dX3_arrange_96 : decode cX3_arrange 96 = .ok (.goto (-54), 3) := by decide +kernel
theorem dX3_arrange_99 : decode cX3_arrange 99 = .ok (.return_, 1) := by decide +kernel
theorem dX3_pinOuterNodes_0 : decode cX3_pinOuterNodes 0 = .ok (.iconst 0, 1) := by decide +kernel
theorem dX3_pinOuterNodes_1 : decode cX3_pinOuterNodes 1 = .ok (.istore_n 3, 1) := by decide +kernel
theorem dX3_pinOuterNodes_2 : decode cX3_pinOuterNodes 2 = .ok (.iconst 0, 1) := by decide +kernel
theorem dX3_pinOuterNodes_3 : decode cX3_pinOuterNodes 3 = .ok (.istore 4, 2) := by decide +kernel
theorem dX3_pinOuterNodes_5 : decode cX3_pinOuterNodes 5 = .ok (.aload_n 2, 1) := by decide +kernel
theorem dX3_pinOuterNodes_6 : decode cX3_pinOuterNodes 6 = .ok (.getfield 55, 3) := by decide +kernel
theorem dX3_pinOuterNodes_9 : decode cX3_pinOuterNodes 9 = .ok (.aload_n 1, 1) := by decide +kernel
theorem dX3_pinOuterNodes_10 : decode cX3_pinOuterNodes 10 = .ok (.getfield 24, 3) := by decide +kernel
theorem dX3_pinOuterNodes_13 : decode cX3_pinOuterNodes 13 = .ok (.iaload, 1) := by decide +kernel
theorem dX3_pinOuterNodes_14 : decode cX3_pinOuterNodes 14 = .ok (.istore 5, 2) := by decide +kernel
theorem dX3_pinOuterNodes_16 : decode cX3_pinOuterNodes 16 = .ok (.iconst 0, 1) := by decide +kernel
theorem dX3_pinOuterNodes_17 : decode cX3_pinOuterNodes 17 = .ok (.istore 6, 2) := by decide +kernel
theorem dX3_pinOuterNodes_19 : decode cX3_pinOuterNodes 19 = .ok (.iload 6, 2) := by decide +kernel
theorem dX3_pinOuterNodes_21 : decode cX3_pinOuterNodes 21 = .ok (.aload_n 2, 1) := by decide +kernel
theorem dX3_pinOuterNodes_22 : decode cX3_pinOuterNodes 22 = .ok (.getfield 58, 3) := by decide +kernel
theorem dX3_pinOuterNodes_25 : decode cX3_pinOuterNodes 25 = .ok (.aload_n 1, 1) := by decide +kernel
theorem dX3_pinOuterNodes_26 : decode cX3_pinOuterNodes 26 = .ok (.getfield 24, 3) := by decide +kernel
theorem dX3_pinOuterNodes_29 : decode cX3_pinOuterNodes 29 = .ok (.iaload, 1) := by decide +kernel
theorem dX3_pinOuterNodes_30 : decode cX3_pinOuterNodes 30 = .ok (.if_icmp .ge 69, 3) := by decide +kernel
theorem dX3_pinOuterNodes_33 : decode cX3_pinOuterNodes 33 = .ok (.aload_n 1, 1) := by decide +kernel
theorem dX3_pinOuterNodes_34 : decode cX3_pinOuterNodes 34 = .ok (.iload 5, 2) := by decide +kernel
theorem dX3_pinOuterNodes_36 : decode cX3_pinOuterNodes 36 = .ok (.invokevirtual 61, 3) := by decide +kernel
theorem dX3_pinOuterNodes_39 : decode cX3_pinOuterNodes 39 = .ok (.istore 7, 2) := by decide +kernel
theorem dX3_pinOuterNodes_41 : decode cX3_pinOuterNodes 41 = .ok (.iload_n 3, 1) := by decide +kernel
theorem dX3_pinOuterNodes_42 : decode cX3_pinOuterNodes 42 = .ok (.iload 7, 2) := by decide +kernel
theorem dX3_pinOuterNodes_44 : decode cX3_pinOuterNodes 44 = .ok (.invokestatic 43, 3) := by decide +kernel
theorem dX3_pinOuterNodes_47 : decode cX3_pinOuterNodes 47 = .ok (.ifCond .ne 37, 3) := by decide +kernel
theorem dX3_pinOuterNodes_50 : decode cX3_pinOuterNodes 50 = .ok (.aload_n 0, 1) := by decide +kernel
theorem dX3_pinOuterNodes_51 : decode cX3_pinOuterNodes 51 = .ok (.getfield 9, 3) := by decide +kernel
theorem dX3_pinOuterNodes_54 : decode cX3_pinOuterNodes 54 = .ok (.iload 7, 2) := by decide +kernel
theorem dX3_pinOuterNodes_56 : decode cX3_pinOuterNodes 56 = .ok (.iload 4, 2) := by decide +kernel
theorem dX3_pinOuterNodes_58 : decode cX3_pinOuterNodes 58 = .ok (.i2f, 1) := by decide +kernel
theorem dX3_pinOuterNodes_59 : decode cX3_pinOuterNodes 59 = .ok (.fastore, 1) := by decide +kernel
theorem dX3_pinOuterNodes_60 : decode cX3_pinOuterNodes 60 = .ok (.aload_n 0, 1) := by decide +kernel
theorem dX3_pinOuterNodes_61 : decode cX3_pinOuterNodes 61 = .ok (.getfield 15, 3) := by decide +kernel
theorem dX3_pinOuterNodes_64 : decode cX3_pinOuterNodes 64 = .ok (.iload 7, 2) := by decide +kernel
theorem dX3_pinOuterNodes_66 : decode cX3_pinOuterNodes 66 = .ok (.iload 4, 2) := by decide +kernel
theorem dX3_pinOuterNodes_68 : decode cX3_pinOuterNodes 68 = .ok (.iload 4, 2) := by decide +kernel
theorem dX3_pinOuterNodes_70 : decode cX3_pinOuterNodes 70 = .ok (.imul, 1) := by decide +kernel
theorem dX3_pinOuterNodes_71 : decode cX3_pinOuterNodes 71 = .ok (.i2f, 1) := by decide +kernel
theorem dX3_pinOuterNodes_72 : decode cX3_pinOuterNodes 72 = .ok (.fastore, 1) := by decide +kernel
theorem dX3_pinOuterNodes_73 : decode cX3_pinOuterNodes 73 = .ok (.iload_n 3, 1) := by decide +kernel
theorem dX3_pinOuterNodes_74 : decode cX3_pinOuterNodes 74 = .ok (.iload 7, 2) := by decide +kernel
theorem dX3_pinOuterNodes_76 : decode cX3_pinOuterNodes 76 = .ok (.invokestatic 65, 3) := by decide +kernel
theorem dX3_pinOuterNodes_79 : decode cX3_pinOuterNodes 79 = .ok (.ior, 1) := by decide +kernel
theorem dX3_pinOuterNodes_80 : decode cX3_pinOuterNodes 80 = .ok (.istore_n 3, 1) := by decide +kernel
theorem dX3_pinOuterNodes_81 : decode cX3_pinOuterNodes 81 = .ok (.iinc 4 1, 3) := by decide +kernel
theorem dX3_pinOuterNodes_84 : decode cX3_pinOuterNodes 84 = .ok (.aload_n 2, 1) := by decide +kernel
theorem dX3_pinOuterNodes_85 : decode cX3_pinOuterNodes 85 = .ok (.getfield 68, 3) := by decide +kernel
theorem dX3_pinOuterNodes_88 : decode cX3_pinOuterNodes 88 = .ok (.iload 5, 2) := by decide +kernel
theorem dX3_pinOuterNodes_90 : decode cX3_pinOuterNodes 90 = .ok (.iaload, 1) := by decide +kernel
theorem dX3_pinOuterNodes_91 : decode cX3_pinOuterNodes 91 = .ok (.istore 5, 2) := by decide +kernel
theorem dX3_pinOuterNodes_93 : decode cX3_pinOuterNodes 93 = .ok (.iinc 6 1, 3) := by decide +kernel
theorem dX3_pinOuterNodes_96 : decode cX3_pinOuterNodes 96 = .ok (.goto (-77), 3) := by decide +kernel
theorem dX3_pinOuterNodes_99 : decode cX3_pinOuterNodes 99 = .ok (.iload_n 3, 1) := by decide +kernel
theorem dX3_pinOuterNodes_100 : decode cX3_pinOuterNodes 100 = .ok (.ireturn, 1) := by decide +kernel
theorem dX3_relax_0 : decode cX3_relax 0 = .ok (.fconst 0, 1) := by decide +kernel
theorem dX3_relax_1 : decode cX3_relax 1 = .ok (.fstore_n 3, 1) := by decide +kernel
theorem dX3_relax_2 : decode cX3_relax 2 = .ok (.fconst 0, 1) := by decide +kernel
theorem dX3_relax_3 : decode cX3_relax 3 = .ok (.fstore 4, 2) := by decide +kernel
theorem dX3_relax_5 : decode cX3_relax 5 = .ok (.aload_n 1, 1) := by decide +kernel
theorem dX3_relax_6 : decode cX3_relax 6 = .ok (.getfield 47, 3) := by decide +kernel
theorem dX3_relax_9 : decode cX3_relax 9 = .ok (.iload_n 2, 1) := by decide +kernel
theorem dX3_relax_10 : decode cX3_relax 10 = .ok (.iaload, 1) := by decide +kernel
theorem dX3_relax_11 : decode cX3_relax 11 = .ok (.istore 5, 2) := by decide +kernel
theorem dX3_relax_13 : decode cX3_relax 13 = .ok (.iconst 0, 1) := by decide +kernel
theorem dX3_relax_14 : decode cX3_relax 14 = .ok (.istore 6, 2) := by decide +kernel
theorem dX3_relax_16 : decode cX3_relax 16 = .ok (.iload 6, 2) := by decide +kernel
theorem dX3_relax_18 : decode cX3_relax 18 = .ok (.iload 5, 2) := by decide +kernel
theorem dX3_relax_20 : decode cX3_relax 20 = .ok (.if_icmp .ge 70, 3) := by decide +kernel
theorem dX3_relax_23 : decode cX3_relax 23 = .ok (.aload_n 1, 1) := by decide +kernel
theorem dX3_relax_24 : decode cX3_relax 24 = .ok (.iload_n 2, 1) := by decide +kernel
theorem dX3_relax_25 : decode cX3_relax 25 = .ok (.iload 6, 2) := by decide +kernel
theorem dX3_relax_27 : decode cX3_relax 27 = .ok (.invokevirtual 71, 3) := by decide +kernel
theorem dX3_relax_30 : decode cX3_relax 30 = .ok (.istore 7, 2) := by decide +kernel
theorem dX3_relax_32 : decode cX3_relax 32 = .ok (.aload_n 1, 1) := by decide +kernel
theorem dX3_relax_33 : decode cX3_relax 33 = .ok (.getfield 75, 3) := by decide +kernel
theorem dX3_relax_36 : decode cX3_relax 36 = .ok (.iload 7, 2) := by decide +kernel
theorem dX3_relax_38 : decode cX3_relax 38 = .ok (.iaload, 1) := by decide +kernel
theorem dX3_relax_39 : decode cX3_relax 39 = .ok (.iload_n 2, 1) := by decide +kernel
theorem dX3_relax_40 : decode cX3_relax 40 = .ok (.if_icmp .ne 13, 3) := by decide +kernel
theorem dX3_relax_43 : decode cX3_relax 43 = .ok (.aload_n 1, 1) := by decide +kernel
theorem dX3_relax_44 : decode cX3_relax 44 = .ok (.getfield 78, 3) := by decide +kernel
theorem dX3_relax_47 : decode cX3_relax 47 = .ok (.iload 7, 2) := by decide +kernel
theorem dX3_relax_49 : decode cX3_relax 49 = .ok (.iaload, 1) := by decide +kernel
theorem dX3_relax_50 : decode cX3_relax 50 = .ok (.goto 10, 3) := by decide +kernel
theorem dX3_relax_53 : decode cX3_relax 53 = .ok (.aload_n 1, 1) := by decide +kernel
theorem dX3_relax_54 : decode cX3_relax 54 = .ok (.getfield 75, 3) := by decide +kernel
theorem dX3_relax_57 : decode cX3_relax 57 = .ok (.iload 7, 2) := by decide +kernel
theorem dX3_relax_59 : decode cX3_relax 59 = .ok (.iaload, 1) := by decide +kernel
theorem dX3_relax_60 : decode cX3_relax 60 = .ok (.istore 8, 2) := by decide +kernel
theorem dX3_relax_62 : decode cX3_relax 62 = .ok (.fload_n 3, 1) := by decide +kernel
theorem dX3_relax_63 : decode cX3_relax 63 = .ok (.aload_n 0, 1) := by decide +kernel
theorem dX3_relax_64 : decode cX3_relax 64 = .ok (.getfield 9, 3) := by decide +kernel
theorem dX3_relax_67 : decode cX3_relax 67 = .ok (.iload 8, 2) := by decide +kernel
theorem dX3_relax_69 : decode cX3_relax 69 = .ok (.faload, 1) := by decide +kernel
theorem dX3_relax_70 : decode cX3_relax 70 = .ok (.fadd, 1) := by decide +kernel
theorem dX3_relax_71 : decode cX3_relax 71 = .ok (.fstore_n 3, 1) := by decide +kernel
theorem dX3_relax_72 : decode cX3_relax 72 = .ok (.fload 4, 2) := by decide +kernel
theorem dX3_relax_74 : decode cX3_relax 74 = .ok (.aload_n 0, 1) := by decide +kernel
theorem dX3_relax_75 : decode cX3_relax 75 = .ok (.getfield 15, 3) := by decide +kernel
theorem dX3_relax_78 : decode cX3_relax 78 = .ok (.iload 8, 2) := by decide +kernel
theorem dX3_relax_80 : decode cX3_relax 80 = .ok (.faload, 1) := by decide +kernel
theorem dX3_relax_81 : decode cX3_relax 81 = .ok (.fadd, 1) := by decide +kernel
theorem dX3_relax_82 : decode cX3_relax 82 = .ok (.fstore 4, 2) := by decide +kernel
theorem dX3_relax_84 : decode cX3_relax 84 = .ok (.iinc 6 1, 3) := by decide +kernel
theorem dX3_relax_87 : decode cX3_relax 87 = .ok (.goto (-71), 3) := by decide +kernel
theorem dX3_relax_90 : decode cX3_relax 90 = .ok (.iload 5, 2) := by decide +kernel
theorem dX3_relax_92 : decode cX3_relax 92 = .ok (.ifCond .le 26, 3) := by decide +kernel
theorem dX3_relax_95 : decode cX3_relax 95 = .ok (.aload_n 0, 1) := by decide +kernel
theorem dX3_relax_96 : decode cX3_relax 96 = .ok (.getfield 9, 3) := by decide +kernel
theorem dX3_relax_99 : decode cX3_relax 99 = .ok (.iload_n 2, 1) := by decide +kernel
theorem dX3_relax_100 : decode cX3_relax 100 = .ok (.fload_n 3, 1) := by decide +kernel
theorem dX3_relax_101 : decode cX3_relax 101 = .ok (.iload 5, 2) := by decide +kernel
theorem dX3_relax_103 : decode cX3_relax 103 = .ok (.i2f, 1) := by decide +kernel
theorem dX3_relax_104 : decode cX3_relax 104 = .ok (.fdiv, 1) := by decide +kernel
theorem dX3_relax_105 : decode cX3_relax 105 = .ok (.fastore, 1) := by decide +kernel
theorem dX3_relax_106 : decode cX3_relax 106 = .ok (.aload_n 0, 1) := by decide +kernel
theorem dX3_relax_107 : decode cX3_relax 107 = .ok (.getfield 15, 3) := by decide +kernel
theorem dX3_relax_110 : decode cX3_relax 110 = .ok (.iload_n 2, 1) := by decide +kernel
theorem dX3_relax_111 : decode cX3_relax 111 = .ok (.fload 4, 2) := by decide +kernel
theorem dX3_relax_113 : decode cX3_relax 113 = .ok (.iload 5, 2) := by decide +kernel
theorem dX3_relax_115 : decode cX3_relax 115 = .ok (.i2f, 1) := by decide +kernel
theorem dX3_relax_116 : decode cX3_relax 116 = .ok (.fdiv, 1) := by decide +kernel
theorem dX3_relax_117 : decode cX3_relax 117 = .ok (.fastore, 1) := by decide +kernel
theorem dX3_relax_118 : decode cX3_relax 118 = .ok (.return_, 1) := by decide +kernel
theorem dX3_countCrossings_0 : decode cX3_countCrossings 0 = .ok (.iconst 0, 1) := by decide +kernel
theorem dX3_countCrossings_1 : decode cX3_countCrossings 1 = .ok (.istore_n 2, 1) := by decide +kernel
theorem dX3_countCrossings_2 : decode cX3_countCrossings 2 = .ok (.iconst 0, 1) := by decide +kernel
theorem dX3_countCrossings_3 : decode cX3_countCrossings 3 = .ok (.istore_n 3, 1) := by decide +kernel
theorem dX3_countCrossings_4 : decode cX3_countCrossings 4 = .ok (.iload_n 3, 1) := by decide +kernel
theorem dX3_countCrossings_5 : decode cX3_countCrossings 5 = .ok (.aload_n 1, 1) := by decide +kernel
theorem dX3_countCrossings_6 : decode cX3_countCrossings 6 = .ok (.getfield 81, 3) := by decide +kernel
theorem dX3_countCrossings_9 : decode cX3_countCrossings 9 = .ok (.if_icmp .ge 65, 3) := by decide +kernel
theorem dX3_countCrossings_12 : decode cX3_countCrossings 12 = .ok (.iload_n 3, 1) := by decide +kernel
theorem dX3_countCrossings_13 : decode cX3_countCrossings 13 = .ok (.iconst 1, 1) := by decide +kernel
theorem dX3_countCrossings_14 : decode cX3_countCrossings 14 = .ok (.iadd, 1) := by decide +kernel
theorem dX3_countCrossings_15 : decode cX3_countCrossings 15 = .ok (.istore 4, 2) := by decide +kernel
theorem dX3_countCrossings_17 : decode cX3_countCrossings 17 = .ok (.iload 4, 2) := by decide +kernel
theorem dX3_countCrossings_19 : decode cX3_countCrossings 19 = .ok (.aload_n 1, 1) := by decide +kernel
theorem dX3_countCrossings_20 : decode cX3_countCrossings 20 = .ok (.getfield 81, 3) := by decide +kernel
theorem dX3_countCrossings_23 : decode cX3_countCrossings 23 = .ok (.if_icmp .ge 45, 3) := by decide +kernel
theorem dX3_countCrossings_26 : decode cX3_countCrossings 26 = .ok (.aload_n 0, 1) := by decide +kernel
theorem dX3_countCrossings_27 : decode cX3_countCrossings 27 = .ok (.aload_n 1, 1) := by decide +kernel
theorem dX3_countCrossings_28 : decode cX3_countCrossings 28 = .ok (.getfield 75, 3) := by decide +kernel
theorem dX3_countCrossings_31 : decode cX3_countCrossings 31 = .ok (.iload_n 3, 1) := by decide +kernel
theorem dX3_countCrossings_32 : decode cX3_countCrossings 32 = .ok (.iaload, 1) := by decide +kernel
theorem dX3_countCrossings_33 : decode cX3_countCrossings 33 = .ok (.aload_n 1, 1) := by decide +kernel
theorem dX3_countCrossings_34 : decode cX3_countCrossings 34 = .ok (.getfield 78, 3) := by decide +kernel
theorem dX3_countCrossings_37 : decode cX3_countCrossings 37 = .ok (.iload_n 3, 1) := by decide +kernel
theorem dX3_countCrossings_38 : decode cX3_countCrossings 38 = .ok (.iaload, 1) := by decide +kernel
theorem dX3_countCrossings_39 : decode cX3_countCrossings 39 = .ok (.aload_n 1, 1) := by decide +kernel
theorem dX3_countCrossings_40 : decode cX3_countCrossings 40 = .ok (.getfield 75, 3) := by decide +kernel
theorem dX3_countCrossings_43 : decode cX3_countCrossings 43 = .ok (.iload 4, 2) := by decide +kernel
theorem dX3_countCrossings_45 : decode cX3_countCrossings 45 = .ok (.iaload, 1) := by decide +kernel
theorem dX3_countCrossings_46 : decode cX3_countCrossings 46 = .ok (.aload_n 1, 1) := by decide +kernel
theorem dX3_countCrossings_47 : decode cX3_countCrossings 47 = .ok (.getfield 78, 3) := by decide +kernel
theorem dX3_countCrossings_50 : decode cX3_countCrossings 50 = .ok (.iload 4, 2) := by decide +kernel
theorem dX3_countCrossings_52 : decode cX3_countCrossings 52 = .ok (.iaload, 1) := by decide +kernel
theorem dX3_countCrossings_53 : decode cX3_countCrossings 53 = .ok (.invokevirtual 84, 3) := by decide +kernel
theorem dX3_countCrossings_56 : decode cX3_countCrossings 56 = .ok (.ifCond .eq 6, 3) := by decide +kernel
theorem dX3_countCrossings_59 : decode cX3_countCrossings 59 = .ok (.iinc 2 1, 3) := by decide +kernel
theorem dX3_countCrossings_62 : decode cX3_countCrossings 62 = .ok (.iinc 4 1, 3) := by decide +kernel
theorem dX3_countCrossings_65 : decode cX3_countCrossings 65 = .ok (.goto (-48), 3) := by decide +kernel
theorem dX3_countCrossings_68 : decode cX3_countCrossings 68 = .ok (.iinc 3 1, 3) := by decide +kernel
theorem dX3_countCrossings_71 : decode cX3_countCrossings 71 = .ok (.goto (-67), 3) := by decide +kernel
theorem dX3_countCrossings_74 : decode cX3_countCrossings 74 = .ok (.iload_n 2, 1) := by decide +kernel
theorem dX3_countCrossings_75 : decode cX3_countCrossings 75 = .ok (.ireturn, 1) := by decide +kernel
theorem dX3_doCross_0 : decode cX3_doCross 0 = .ok (.iload_n 1, 1) := by decide +kernel
theorem dX3_doCross_1 : decode cX3_doCross 1 = .ok (.iload_n 3, 1) := by decide +kernel
theorem dX3_doCross_2 : decode cX3_doCross 2 = .ok (.if_icmp .eq 20, 3) := by decide +kernel
theorem dX3_doCross_5 : decode cX3_doCross 5 = .ok (.iload_n 1, 1) := by decide +kernel
theorem dX3_doCross_6 : decode cX3_doCross 6 = .ok (.iload 4, 2) := by decide +kernel
theorem dX3_doCross_8 : decode cX3_doCross 8 = .ok (.if_icmp .eq 14, 3) := by decide +kernel
theorem dX3_doCross_11 : decode cX3_doCross 11 = .ok (.iload_n 2, 1) := by decide +kernel
theorem dX3_doCross_12 : decode cX3_doCross 12 = .ok (.iload_n 3, 1) := by decide +kernel
theorem dX3_doCross_13 : decode cX3_doCross 13 = .ok (.if_icmp .eq 9, 3) := by decide +kernel
theorem dX3_doCross_16 : decode cX3_doCross 16 = .ok (.iload_n 2, 1) := by decide +kernel
theorem dX3_doCross_17 : decode cX3_doCross 17 = .ok (.iload 4, 2) := by decide +kernel
theorem dX3_doCross_19 : decode cX3_doCross 19 = .ok (.if_icmp .ne 5, 3) := by decide +kernel
theorem dX3_doCross_22 : decode cX3_doCross 22 = .ok (.iconst 0, 1) := by decide +kernel
theorem dX3_doCross_23 : decode cX3_doCross 23 = .ok (.ireturn, 1) := by decide +kernel
theorem dX3_doCross_24 : decode cX3_doCross 24 = .ok (.aload_n 0, 1) := by decide +kernel
theorem dX3_doCross_25 : decode cX3_doCross 25 = .ok (.iload_n 1, 1) := by decide +kernel
theorem dX3_doCross_26 : decode cX3_doCross 26 = .ok (.iload_n 2, 1) := by decide +kernel
theorem dX3_doCross_27 : decode cX3_doCross 27 = .ok (.iload_n 3, 1) := by decide +kernel
theorem dX3_doCross_28 : decode cX3_doCross 28 = .ok (.invokevirtual 88, 3) := by decide +kernel
theorem dX3_doCross_31 : decode cX3_doCross 31 = .ok (.aload_n 0, 1) := by decide +kernel
theorem dX3_doCross_32 : decode cX3_doCross 32 = .ok (.iload_n 1, 1) := by decide +kernel
theorem dX3_doCross_33 : decode cX3_doCross 33 = .ok (.iload_n 2, 1) := by decide +kernel
theorem dX3_doCross_34 : decode cX3_doCross 34 = .ok (.iload 4, 2) := by decide +kernel
theorem dX3_doCross_36 : decode cX3_doCross 36 = .ok (.invokevirtual 88, 3) := by decide +kernel
theorem dX3_doCross_39 : decode cX3_doCross 39 = .ok (.invokestatic 92, 3) := by decide +kernel
theorem dX3_doCross_42 : decode cX3_doCross 42 = .ok (.ifCond .eq 29, 3) := by decide +kernel
theorem dX3_doCross_45 : decode cX3_doCross 45 = .ok (.aload_n 0, 1) := by decide +kernel
theorem dX3_doCross_46 : decode cX3_doCross 46 = .ok (.iload_n 3, 1) := by decide +kernel
theorem dX3_doCross_47 : decode cX3_doCross 47 = .ok (.iload 4, 2) := by decide +kernel
theorem dX3_doCross_49 : decode cX3_doCross 49 = .ok (.iload_n 1, 1) := by decide +kernel
theorem dX3_doCross_50 : decode cX3_doCross 50 = .ok (.invokevirtual 88, 3) := by decide +kernel
theorem dX3_doCross_53 : decode cX3_doCross 53 = .ok (.aload_n 0, 1) := by decide +kernel
theorem dX3_doCross_54 : decode cX3_doCross 54 = .ok (.iload_n 3, 1) := by decide +kernel
theorem dX3_doCross_55 : decode cX3_doCross 55 = .ok (.iload 4, 2) := by decide +kernel
theorem dX3_doCross_57 : decode cX3_doCross 57 = .ok (.iload_n 2, 1) := by decide +kernel
theorem dX3_doCross_58 : decode cX3_doCross 58 = .ok (.invokevirtual 88, 3) := by decide +kernel
theorem dX3_doCross_61 : decode cX3_doCross 61 = .ok (.invokestatic 92, 3) := by decide +kernel
theorem dX3_doCross_64 : decode cX3_doCross 64 = .ok (.ifCond .eq 7, 3) := by decide +kernel
theorem dX3_doCross_67 : decode cX3_doCross 67 = .ok (.iconst 1, 1) := by decide +kernel
theorem dX3_doCross_68 : decode cX3_doCross 68 = .ok (.goto 4, 3) := by decide +kernel
theorem dX3_doCross_71 : decode cX3_doCross 71 = .ok (.iconst 0, 1) := by decide +kernel
theorem dX3_doCross_72 : decode cX3_doCross 72 = .ok (.ireturn, 1) := by decide +kernel
theorem dX3_areOpposite_0 : decode cX3_areOpposite 0 = .ok (.fload_n 0, 1) := by decide +kernel
theorem dX3_areOpposite_1 : decode cX3_areOpposite 1 = .ok (.fconst 0, 1) := by decide +kernel
theorem dX3_areOpposite_2 : decode cX3_areOpposite 2 = .ok (.fcmp .l, 1) := by decide +kernel
theorem dX3_areOpposite_3 : decode cX3_areOpposite 3 = .ok (.ifCond .le 9, 3) := by decide +kernel
theorem dX3_areOpposite_6 : decode cX3_areOpposite 6 = .ok (.fload_n 1, 1) := by decide +kernel
theorem dX3_areOpposite_7 : decode cX3_areOpposite 7 = .ok (.fconst 0, 1) := by decide +kernel
theorem dX3_areOpposite_8 : decode cX3_areOpposite 8 = .ok (.fcmp .g, 1) := by decide +kernel
theorem dX3_areOpposite_9 : decode cX3_areOpposite 9 = .ok (.ifCond .lt 15, 3) := by decide +kernel
theorem dX3_areOpposite_12 : decode cX3_areOpposite 12 = .ok (.fload_n 0, 1) := by decide +kernel
theorem dX3_areOpposite_13 : decode cX3_areOpposite 13 = .ok (.fconst 0, 1) := by decide +kernel
theorem dX3_areOpposite_14 : decode cX3_areOpposite 14 = .ok (.fcmp .g, 1) := by decide +kernel
theorem dX3_areOpposite_15 : decode cX3_areOpposite 15 = .ok (.ifCond .ge 13, 3) := by decide +kernel
theorem dX3_areOpposite_18 : decode cX3_areOpposite 18 = .ok (.fload_n 1, 1) := by decide +kernel
theorem dX3_areOpposite_19 : decode cX3_areOpposite 19 = .ok (.fconst 0, 1) := by decide +kernel
theorem dX3_areOpposite_20 : decode cX3_areOpposite 20 = .ok (.fcmp .l, 1) := by decide +kernel
theorem dX3_areOpposite_21 : decode cX3_areOpposite 21 = .ok (.ifCond .le 7, 3) := by decide +kernel
theorem dX3_areOpposite_24 : decode cX3_areOpposite 24 = .ok (.iconst 1, 1) := by decide +kernel
theorem dX3_areOpposite_25 : decode cX3_areOpposite 25 = .ok (.goto 4, 3) := by decide +kernel
theorem dX3_areOpposite_28 : decode cX3_areOpposite 28 = .ok (.iconst 0, 1) := by decide +kernel
theorem dX3_areOpposite_29 : decode cX3_areOpposite 29 = .ok (.ireturn, 1) := by decide +kernel
theorem dX3_turn_0 : decode cX3_turn 0 = .ok (.aload_n 0, 1) := by decide +kernel
theorem dX3_turn_1 : decode cX3_turn 1 = .ok (.getfield 9, 3) := by decide +kernel
theorem dX3_turn_4 : decode cX3_turn 4 = .ok (.iload_n 2, 1) := by decide +kernel
theorem dX3_turn_5 : decode cX3_turn 5 = .ok (.faload, 1) := by decide +kernel
theorem dX3_turn_6 : decode cX3_turn 6 = .ok (.aload_n 0, 1) := by decide +kernel
theorem dX3_turn_7 : decode cX3_turn 7 = .ok (.getfield 9, 3) := by decide +kernel
theorem dX3_turn_10 : decode cX3_turn 10 = .ok (.iload_n 1, 1) := by decide +kernel
theorem dX3_turn_11 : decode cX3_turn 11 = .ok (.faload, 1) := by decide +kernel
theorem dX3_turn_12 : decode cX3_turn 12 = .ok (.fsub, 1) := by decide +kernel
theorem dX3_turn_13 : decode cX3_turn 13 = .ok (.aload_n 0, 1) := by decide +kernel
theorem dX3_turn_14 : decode cX3_turn 14 = .ok (.getfield 15, 3) := by decide +kernel
theorem dX3_turn_17 : decode cX3_turn 17 = .ok (.iload_n 3, 1) := by decide +kernel
theorem dX3_turn_18 : decode cX3_turn 18 = .ok (.faload, 1) := by decide +kernel
theorem dX3_turn_19 : decode cX3_turn 19 = .ok (.aload_n 0, 1) := by decide +kernel
theorem dX3_turn_20 : decode cX3_turn 20 = .ok (.getfield 15, 3) := by decide +kernel
theorem dX3_turn_23 : decode cX3_turn 23 = .ok (.iload_n 1, 1) := by decide +kernel
theorem dX3_turn_24 : decode cX3_turn 24 = .ok (.faload, 1) := by decide +kernel
theorem dX3_turn_25 : decode cX3_turn 25 = .ok (.fsub, 1) := by decide +kernel
theorem dX3_turn_26 : decode cX3_turn 26 = .ok (.fmul, 1) := by decide +kernel
theorem dX3_turn_27 : decode cX3_turn 27 = .ok (.aload_n 0, 1) := by decide +kernel
theorem dX3_turn_28 : decode cX3_turn 28 = .ok (.getfield 15, 3) := by decide +kernel
theorem dX3_turn_31 : decode cX3_turn 31 = .ok (.iload_n 2, 1) := by decide +kernel
theorem dX3_turn_32 : decode cX3_turn 32 = .ok (.faload, 1) := by decide +kernel
theorem dX3_turn_33 : decode cX3_turn 33 = .ok (.aload_n 0, 1) := by decide +kernel
theorem dX3_turn_34 : decode cX3_turn 34 = .ok (.getfield 15, 3) := by decide +kernel
theorem dX3_turn_37 : decode cX3_turn 37 = .ok (.iload_n 1, 1) := by decide +kernel
theorem dX3_turn_38 : decode cX3_turn 38 = .ok (.faload, 1) := by decide +kernel
theorem dX3_turn_39 : decode cX3_turn 39 = .ok (.fsub, 1) := by decide +kernel
theorem dX3_turn_40 : decode cX3_turn 40 = .ok (.aload_n 0, 1) := by decide +kernel
theorem dX3_turn_41 : decode cX3_turn 41 = .ok (.getfield 9, 3) := by decide +kernel
theorem dX3_turn_44 : decode cX3_turn 44 = .ok (.iload_n 3, 1) := by decide +kernel
theorem dX3_turn_45 : decode cX3_turn 45 = .ok (.faload, 1) := by decide +kernel
theorem dX3_turn_46 : decode cX3_turn 46 = .ok (.aload_n 0, 1) := by decide +kernel
theorem dX3_turn_47 : decode cX3_turn 47 = .ok (.getfield 9, 3) := by decide +kernel
theorem dX3_turn_50 : decode cX3_turn 50 = .ok (.iload_n 1, 1) := by decide +kernel
theorem dX3_turn_51 : decode cX3_turn 51 = .ok (.faload, 1) := by decide +kernel
theorem dX3_turn_52 : decode cX3_turn 52 = .ok (.fsub, 1) := by decide +kernel
theorem dX3_turn_53 : decode cX3_turn 53 = .ok (.fmul, 1) := by decide +kernel
theorem dX3_turn_54 : decode cX3_turn 54 = .ok (.fsub, 1) := by decide +kernel
theorem dX3_turn_55 : decode cX3_turn 55 = .ok (.freturn, 1) := by decide +kernel
theorem dX3_addLengths_0 : decode cX3_addLengths 0 = .ok (.fconst 0, 1) := by decide +kernel
theorem dX3_addLengths_1 : decode cX3_addLengths 1 = .ok (.fstore_n 2, 1) := by decide +kernel
theorem dX3_addLengths_2 : decode cX3_addLengths 2 = .ok (.iconst 0, 1) := by decide +kernel
theorem dX3_addLengths_3 : decode cX3_addLengths 3 = .ok (.istore_n 3, 1) := by decide +kernel
theorem dX3_addLengths_4 : decode cX3_addLengths 4 = .ok (.iload_n 3, 1) := by decide +kernel
theorem dX3_addLengths_5 : decode cX3_addLengths 5 = .ok (.aload_n 1, 1) := by decide +kernel
theorem dX3_addLengths_6 : decode cX3_addLengths 6 = .ok (.getfield 81, 3) := by decide +kernel
theorem dX3_addLengths_9 : decode cX3_addLengths 9 = .ok (.if_icmp .ge 81, 3) := by decide +kernel
theorem dX3_addLengths_12 : decode cX3_addLengths 12 = .ok (.aload_n 0, 1) := by decide +kernel
theorem dX3_addLengths_13 : decode cX3_addLengths 13 = .ok (.getfield 9, 3) := by decide +kernel
theorem dX3_addLengths_16 : decode cX3_addLengths 16 = .ok (.aload_n 1, 1) := by decide +kernel
theorem dX3_addLengths_17 : decode cX3_addLengths 17 = .ok (.getfield 75, 3) := by decide +kernel
theorem dX3_addLengths_20 : decode cX3_addLengths 20 = .ok (.iload_n 3, 1) := by decide +kernel
theorem dX3_addLengths_21 : decode cX3_addLengths 21 = .ok (.iaload, 1) := by decide +kernel
theorem dX3_addLengths_22 : decode cX3_addLengths 22 = .ok (.faload, 1) := by decide +kernel
theorem dX3_addLengths_23 : decode cX3_addLengths 23 = .ok (.aload_n 0, 1) := by decide +kernel
theorem dX3_addLengths_24 : decode cX3_addLengths 24 = .ok (.getfield 9, 3) := by decide +kernel
theorem dX3_addLengths_27 : decode cX3_addLengths 27 = .ok (.aload_n 1, 1) := by decide +kernel
theorem dX3_addLengths_28 : decode cX3_addLengths 28 = .ok (.getfield 78, 3) := by decide +kernel
theorem dX3_addLengths_31 : decode cX3_addLengths 31 = .ok (.iload_n 3, 1) := by decide +kernel
theorem dX3_addLengths_32 : decode cX3_addLengths 32 = .ok (.iaload, 1) := by decide +kernel
theorem dX3_addLengths_33 : decode cX3_addLengths 33 = .ok (.faload, 1) := by decide +kernel
theorem dX3_addLengths_34 : decode cX3_addLengths 34 = .ok (.invokestatic 96, 3) := by decide +kernel
theorem dX3_addLengths_37 : decode cX3_addLengths 37 = .ok (.fstore 4, 2) := by decide +kernel
theorem dX3_addLengths_39 : decode cX3_addLengths 39 = .ok (.aload_n 0, 1) := by decide +kernel
theorem dX3_addLengths_40 : decode cX3_addLengths 40 = .ok (.getfield 15, 3) := by decide +kernel
theorem dX3_addLengths_43 : decode cX3_addLengths 43 = .ok (.aload_n 1, 1) := by decide +kernel
theorem dX3_addLengths_44 : decode cX3_addLengths 44 = .ok (.getfield 75, 3) := by decide +kernel
theorem dX3_addLengths_47 : decode cX3_addLengths 47 = .ok (.iload_n 3, 1) := by decide +kernel
theorem dX3_addLengths_48 : decode cX3_addLengths 48 = .ok (.iaload, 1) := by decide +kernel
theorem dX3_addLengths_49 : decode cX3_addLengths 49 = .ok (.faload, 1) := by decide +kernel
theorem dX3_addLengths_50 : decode cX3_addLengths 50 = .ok (.aload_n 0, 1) := by decide +kernel
theorem dX3_addLengths_51 : decode cX3_addLengths 51 = .ok (.getfield 15, 3) := by decide +kernel
theorem dX3_addLengths_54 : decode cX3_addLengths 54 = .ok (.aload_n 1, 1) := by decide +kernel
theorem dX3_addLengths_55 : decode cX3_addLengths 55 = .ok (.getfield 78, 3) := by decide +kernel
theorem dX3_addLengths_58 : decode cX3_addLengths 58 = .ok (.iload_n 3, 1) := by decide +kernel
theorem dX3_addLengths_59 : decode cX3_addLengths 59 = .ok (.iaload, 1) := by decide +kernel
theorem dX3_addLengths_60 : decode cX3_addLengths 60 = .ok (.faload, 1) := by decide +kernel
theorem dX3_addLengths_61 : decode cX3_addLengths 61 = .ok (.invokestatic 96, 3) := by decide +kernel
theorem dX3_addLengths_64 : decode cX3_addLengths 64 = .ok (.fstore 5, 2) := by decide +kernel
theorem dX3_addLengths_66 : decode cX3_addLengths 66 = .ok (.fload_n 2, 1) := by decide +kernel
theorem dX3_addLengths_67 : decode cX3_addLengths 67 = .ok (.fload 4, 2) := by decide +kernel
theorem dX3_addLengths_69 : decode cX3_addLengths 69 = .ok (.fload 5, 2) := by decide +kernel
theorem dX3_addLengths_71 : decode cX3_addLengths 71 = .ok (.fcmp .l, 1) := by decide +kernel
theorem dX3_addLengths_72 : decode cX3_addLengths 72 = .ok (.ifCond .lt 8, 3) := by decide +kernel
theorem dX3_addLengths_75 : decode cX3_addLengths 75 = .ok (.fload 4, 2) := by decide +kernel
theorem dX3_addLengths_77 : decode cX3_addLengths 77 = .ok (.goto 5, 3) := by decide +kernel
theorem dX3_addLengths_80 : decode cX3_addLengths 80 = .ok (.fload 5, 2) := by decide +kernel
theorem dX3_addLengths_82 : decode cX3_addLengths 82 = .ok (.fadd, 1) := by decide +kernel
theorem dX3_addLengths_83 : decode cX3_addLengths 83 = .ok (.fstore_n 2, 1) := by decide +kernel
theorem dX3_addLengths_84 : decode cX3_addLengths 84 = .ok (.iinc 3 1, 3) := by decide +kernel
theorem dX3_addLengths_87 : decode cX3_addLengths 87 = .ok (.goto (-83), 3) := by decide +kernel
theorem dX3_addLengths_90 : decode cX3_addLengths 90 = .ok (.fload_n 2, 1) := by decide +kernel
theorem dX3_addLengths_91 : decode cX3_addLengths 91 = .ok (.freturn, 1) := by decide +kernel
theorem dX3_distance_0 : decode cX3_distance 0 = .ok (.fload_n 0, 1) := by decide +kernel
theorem dX3_distance_1 : decode cX3_distance 1 = .ok (.fload_n 1, 1) := by decide +kernel
theorem dX3_distance_2 : decode cX3_distance 2 = .ok (.fsub, 1) := by decide +kernel
theorem dX3_distance_3 : decode cX3_distance 3 = .ok (.fstore_n 2, 1) := by decide +kernel
theorem dX3_distance_4 : decode cX3_distance 4 = .ok (.fload_n 2, 1) := by decide +kernel
theorem dX3_distance_5 : decode cX3_distance 5 = .ok (.fconst 0, 1) := by decide +kernel
theorem dX3_distance_6 : decode cX3_distance 6 = .ok (.fcmp .g, 1) := by decide +kernel
theorem dX3_distance_7 : decode cX3_distance 7 = .ok (.ifCond .ge 8, 3) := by decide +kernel
theorem dX3_distance_10 : decode cX3_distance 10 = .ok (.fload_n 2, 1) := by decide +kernel
theorem dX3_distance_11 : decode cX3_distance 11 = .ok (.fneg, 1) := by decide +kernel
theorem dX3_distance_12 : decode cX3_distance 12 = .ok (.goto 4, 3) := by decide +kernel
theorem dX3_distance_15 : decode cX3_distance 15 = .ok (.fload_n 2, 1) := by decide +kernel
theorem dX3_distance_16 : decode cX3_distance 16 = .ok (.freturn, 1) := by decide +kernel
theorem dJxf58ca_isNaN_12338_0 : decode cJxf58ca_isNaN_12338 0 = .ok (.fload_n 0, 1) := by decide +kernel
theorem dJxf58ca_isNaN_12338_1 : decode cJxf58ca_isNaN_12338 1 = .ok (.fload_n 0, 1) := by decide +kernel
theorem dJxf58ca_isNaN_12338_2 : decode cJxf58ca_isNaN_12338 2 = .ok (.fcmp .l, 1) := by decide +kernel
theorem dJxf58ca_isNaN_12338_3 : decode cJxf58ca_isNaN_12338 3 = .ok (.ifCond .eq 7, 3) := by decide +kernel
theorem dJxf58ca_isNaN_12338_6 : decode cJxf58ca_isNaN_12338 6 = .ok (.iconst 1, 1) := by decide +kernel
theorem dJxf58ca_isNaN_12338_7 : decode cJxf58ca_isNaN_12338 7 = .ok (.goto 4, 3) := by decide +kernel
theorem dJxf58ca_isNaN_12338_10 : decode cJxf58ca_isNaN_12338 10 = .ok (.iconst 0, 1) := by decide +kernel
theorem dJxf58ca_isNaN_12338_11 : decode cJxf58ca_isNaN_12338 11 = .ok (.ireturn, 1) := by decide +kernel
theorem dJxf58ca_floatToIntBits_5c35a_0 : decode cJxf58ca_floatToIntBits_5c35a 0 = .ok (.fload_n 0, 1) := by decide +kernel
theorem dJxf58ca_floatToIntBits_5c35a_1 : decode cJxf58ca_floatToIntBits_5c35a 1 = .ok (.invokestatic 59, 3) := by decide +kernel
theorem dJxf58ca_floatToIntBits_5c35a_4 : decode cJxf58ca_floatToIntBits_5c35a 4 = .ok (.ifCond .ne 8, 3) := by decide +kernel
theorem dJxf58ca_floatToIntBits_5c35a_7 : decode cJxf58ca_floatToIntBits_5c35a 7 = .ok (.fload_n 0, 1) := by decide +kernel
theorem dJxf58ca_floatToIntBits_5c35a_8 : decode cJxf58ca_floatToIntBits_5c35a 8 = .ok (.invokestatic 74, 3) := by decide +kernel
theorem dJxf58ca_floatToIntBits_5c35a_11 : decode cJxf58ca_floatToIntBits_5c35a 11 = .ok (.ireturn, 1) := by decide +kernel
theorem dJxf58ca_floatToIntBits_5c35a_12 : decode cJxf58ca_floatToIntBits_5c35a 12 = .ok (.ldc 77, 2) := by decide +kernel
theorem dJxf58ca_floatToIntBits_5c35a_14 : decode cJxf58ca_floatToIntBits_5c35a 14 = .ok (.ireturn, 1) := by decide +kernel
theorem dJ6_bitCount_0f7a4_0 : decode cJ6_bitCount_0f7a4 0 = .ok (.iload_n 0, 1) := by decide +kernel
theorem dJ6_bitCount_0f7a4_1 : decode cJ6_bitCount_0f7a4 1 = .ok (.iload_n 0, 1) := by decide +kernel
theorem dJ6_bitCount_0f7a4_2 : decode cJ6_bitCount_0f7a4 2 = .ok (.iconst 1, 1) := by decide +kernel
theorem dJ6_bitCount_0f7a4_3 : decode cJ6_bitCount_0f7a4 3 = .ok (.iushr, 1) := by decide +kernel
theorem dJ6_bitCount_0f7a4_4 : decode cJ6_bitCount_0f7a4 4 = .ok (.ldc_w 265, 3) := by decide +kernel
theorem dJ6_bitCount_0f7a4_7 : decode cJ6_bitCount_0f7a4 7 = .ok (.iand, 1) := by decide +kernel
theorem dJ6_bitCount_0f7a4_8 : decode cJ6_bitCount_0f7a4 8 = .ok (.isub, 1) := by decide +kernel
theorem dJ6_bitCount_0f7a4_9 : decode cJ6_bitCount_0f7a4 9 = .ok (.istore_n 0, 1) := by decide +kernel
theorem dJ6_bitCount_0f7a4_10 : decode cJ6_bitCount_0f7a4 10 = .ok (.iload_n 0, 1) := by decide +kernel
theorem dJ6_bitCount_0f7a4_11 : decode cJ6_bitCount_0f7a4 11 = .ok (.ldc_w 266, 3) := by decide +kernel
theorem dJ6_bitCount_0f7a4_14 : decode cJ6_bitCount_0f7a4 14 = .ok (.iand, 1) := by decide +kernel
theorem dJ6_bitCount_0f7a4_15 : decode cJ6_bitCount_0f7a4 15 = .ok (.iload_n 0, 1) := by decide +kernel
theorem dJ6_bitCount_0f7a4_16 : decode cJ6_bitCount_0f7a4 16 = .ok (.iconst 2, 1) := by decide +kernel
theorem dJ6_bitCount_0f7a4_17 : decode cJ6_bitCount_0f7a4 17 = .ok (.iushr, 1) := by decide +kernel
theorem dJ6_bitCount_0f7a4_18 : decode cJ6_bitCount_0f7a4 18 = .ok (.ldc_w 266, 3) := by decide +kernel
theorem dJ6_bitCount_0f7a4_21 : decode cJ6_bitCount_0f7a4 21 = .ok (.iand, 1) := by decide +kernel
theorem dJ6_bitCount_0f7a4_22 : decode cJ6_bitCount_0f7a4 22 = .ok (.iadd, 1) := by decide +kernel
theorem dJ6_bitCount_0f7a4_23 : decode cJ6_bitCount_0f7a4 23 = .ok (.istore_n 0, 1) := by decide +kernel
theorem dJ6_bitCount_0f7a4_24 : decode cJ6_bitCount_0f7a4 24 = .ok (.iload_n 0, 1) := by decide +kernel
theorem dJ6_bitCount_0f7a4_25 : decode cJ6_bitCount_0f7a4 25 = .ok (.iload_n 0, 1) := by decide +kernel
theorem dJ6_bitCount_0f7a4_26 : decode cJ6_bitCount_0f7a4 26 = .ok (.iconst 4, 1) := by decide +kernel
theorem dJ6_bitCount_0f7a4_27 : decode cJ6_bitCount_0f7a4 27 = .ok (.iushr, 1) := by decide +kernel
theorem dJ6_bitCount_0f7a4_28 : decode cJ6_bitCount_0f7a4 28 = .ok (.iadd, 1) := by decide +kernel
theorem dJ6_bitCount_0f7a4_29 : decode cJ6_bitCount_0f7a4 29 = .ok (.ldc_w 267, 3) := by decide +kernel
theorem dJ6_bitCount_0f7a4_32 : decode cJ6_bitCount_0f7a4 32 = .ok (.iand, 1) := by decide +kernel
theorem dJ6_bitCount_0f7a4_33 : decode cJ6_bitCount_0f7a4 33 = .ok (.istore_n 0, 1) := by decide +kernel
theorem dJ6_bitCount_0f7a4_34 : decode cJ6_bitCount_0f7a4 34 = .ok (.iload_n 0, 1) := by decide +kernel
theorem dJ6_bitCount_0f7a4_35 : decode cJ6_bitCount_0f7a4 35 = .ok (.iload_n 0, 1) := by decide +kernel
theorem dJ6_bitCount_0f7a4_36 : decode cJ6_bitCount_0f7a4 36 = .ok (.bipush 8, 2) := by decide +kernel
theorem dJ6_bitCount_0f7a4_38 : decode cJ6_bitCount_0f7a4 38 = .ok (.iushr, 1) := by decide +kernel
theorem dJ6_bitCount_0f7a4_39 : decode cJ6_bitCount_0f7a4 39 = .ok (.iadd, 1) := by decide +kernel
theorem dJ6_bitCount_0f7a4_40 : decode cJ6_bitCount_0f7a4 40 = .ok (.istore_n 0, 1) := by decide +kernel
theorem dJ6_bitCount_0f7a4_41 : decode cJ6_bitCount_0f7a4 41 = .ok (.iload_n 0, 1) := by decide +kernel
theorem dJ6_bitCount_0f7a4_42 : decode cJ6_bitCount_0f7a4 42 = .ok (.iload_n 0, 1) := by decide +kernel
theorem dJ6_bitCount_0f7a4_43 : decode cJ6_bitCount_0f7a4 43 = .ok (.bipush 16, 2) := by decide +kernel
theorem dJ6_bitCount_0f7a4_45 : decode cJ6_bitCount_0f7a4 45 = .ok (.iushr, 1) := by decide +kernel
theorem dJ6_bitCount_0f7a4_46 : decode cJ6_bitCount_0f7a4 46 = .ok (.iadd, 1) := by decide +kernel
theorem dJ6_bitCount_0f7a4_47 : decode cJ6_bitCount_0f7a4 47 = .ok (.istore_n 0, 1) := by decide +kernel
theorem dJ6_bitCount_0f7a4_48 : decode cJ6_bitCount_0f7a4 48 = .ok (.iload_n 0, 1) := by decide +kernel
theorem dJ6_bitCount_0f7a4_49 : decode cJ6_bitCount_0f7a4 49 = .ok (.bipush 63, 2) := by decide +kernel
theorem dJ6_bitCount_0f7a4_51 : decode cJ6_bitCount_0f7a4 51 = .ok (.iand, 1) := by decide +kernel
theorem dJ6_bitCount_0f7a4_52 : decode cJ6_bitCount_0f7a4 52 = .ok (.ireturn, 1) := by decide +kernel
theorem dJ9_max_7cf53_0 : decode cJ9_max_7cf53 0 = .ok (.iload_n 0, 1) := by decide +kernel
theorem dJ9_max_7cf53_1 : decode cJ9_max_7cf53 1 = .ok (.iload_n 1, 1) := by decide +kernel
theorem dJ9_max_7cf53_2 : decode cJ9_max_7cf53 2 = .ok (.if_icmp .lt 7, 3) := by decide +kernel
theorem dJ9_max_7cf53_5 : decode cJ9_max_7cf53 5 = .ok (.iload_n 0, 1) := by decide +kernel
theorem dJ9_max_7cf53_6 : decode cJ9_max_7cf53 6 = .ok (.goto 4, 3) := by decide +kernel
theorem dJ9_max_7cf53_9 : decode cJ9_max_7cf53 9 = .ok (.iload_n 1, 1) := by decide +kernel
theorem dJ9_max_7cf53_10 : decode cJ9_max_7cf53 10 = .ok (.ireturn, 1) := by decide +kernel
theorem dJ9_min_7cf53_0 : decode cJ9_min_7cf53 0 = .ok (.iload_n 0, 1) := by decide +kernel
theorem dJ9_min_7cf53_1 : decode cJ9_min_7cf53 1 = .ok (.iload_n 1, 1) := by decide +kernel
theorem dJ9_min_7cf53_2 : decode cJ9_min_7cf53 2 = .ok (.if_icmp .gt 7, 3) := by decide +kernel
theorem dJ9_min_7cf53_5 : decode cJ9_min_7cf53 5 = .ok (.iload_n 0, 1) := by decide +kernel
theorem dJ9_min_7cf53_6 : decode cJ9_min_7cf53 6 = .ok (.goto 4, 3) := by decide +kernel
theorem dJ9_min_7cf53_9 : decode cJ9_min_7cf53 9 = .ok (.iload_n 1, 1) := by decide +kernel
theorem dJ9_min_7cf53_10 : decode cJ9_min_7cf53 10 = .ok (.ireturn, 1) := by decide +kernel
theorem dJ7_fill_53178_0 : decode cJ7_fill_53178 0 = .ok (.iconst 0, 1) := by decide +kernel
theorem dJ7_fill_53178_1 : decode cJ7_fill_53178 1 = .ok (.istore_n 2, 1) := by decide +kernel
theorem dJ7_fill_53178_2 : decode cJ7_fill_53178 2 = .ok (.aload_n 0, 1) := by decide +kernel
theorem dJ7_fill_53178_3 : decode cJ7_fill_53178 3 = .ok (.arraylength, 1) := by decide +kernel
theorem dJ7_fill_53178_4 : decode cJ7_fill_53178 4 = .ok (.istore_n 3, 1) := by decide +kernel
theorem dJ7_fill_53178_5 : decode cJ7_fill_53178 5 = .ok (.iload_n 2, 1) := by decide +kernel
theorem dJ7_fill_53178_6 : decode cJ7_fill_53178 6 = .ok (.iload_n 3, 1) := by decide +kernel
theorem dJ7_fill_53178_7 : decode cJ7_fill_53178 7 = .ok (.if_icmp .ge 13, 3) := by decide +kernel
theorem dJ7_fill_53178_10 : decode cJ7_fill_53178 10 = .ok (.aload_n 0, 1) := by decide +kernel
theorem dJ7_fill_53178_11 : decode cJ7_fill_53178 11 = .ok (.iload_n 2, 1) := by decide +kernel
theorem dJ7_fill_53178_12 : decode cJ7_fill_53178 12 = .ok (.iload_n 1, 1) := by decide +kernel
theorem dJ7_fill_53178_13 : decode cJ7_fill_53178 13 = .ok (.iastore, 1) := by decide +kernel
theorem dJ7_fill_53178_14 : decode cJ7_fill_53178 14 = .ok (.iinc 2 1, 3) := by decide +kernel
theorem dJ7_fill_53178_17 : decode cJ7_fill_53178 17 = .ok (.goto (-12), 3) := by decide +kernel
theorem dJ7_fill_53178_20 : decode cJ7_fill_53178 20 = .ok (.return_, 1) := by decide +kernel
theorem dJ7_fill_e525d_0 : decode cJ7_fill_e525d 0 = .ok (.iconst 0, 1) := by decide +kernel
theorem dJ7_fill_e525d_1 : decode cJ7_fill_e525d 1 = .ok (.istore_n 2, 1) := by decide +kernel
theorem dJ7_fill_e525d_2 : decode cJ7_fill_e525d 2 = .ok (.aload_n 0, 1) := by decide +kernel
theorem dJ7_fill_e525d_3 : decode cJ7_fill_e525d 3 = .ok (.arraylength, 1) := by decide +kernel
theorem dJ7_fill_e525d_4 : decode cJ7_fill_e525d 4 = .ok (.istore_n 3, 1) := by decide +kernel
theorem dJ7_fill_e525d_5 : decode cJ7_fill_e525d 5 = .ok (.iload_n 2, 1) := by decide +kernel
theorem dJ7_fill_e525d_6 : decode cJ7_fill_e525d 6 = .ok (.iload_n 3, 1) := by decide +kernel
theorem dJ7_fill_e525d_7 : decode cJ7_fill_e525d 7 = .ok (.if_icmp .ge 13, 3) := by decide +kernel
theorem dJ7_fill_e525d_10 : decode cJ7_fill_e525d 10 = .ok (.aload_n 0, 1) := by decide +kernel
theorem dJ7_fill_e525d_11 : decode cJ7_fill_e525d 11 = .ok (.iload_n 2, 1) := by decide +kernel
theorem dJ7_fill_e525d_12 : decode cJ7_fill_e525d 12 = .ok (.fload_n 1, 1) := by decide +kernel
theorem dJ7_fill_e525d_13 : decode cJ7_fill_e525d 13 = .ok (.fastore, 1) := by decide +kernel
theorem dJ7_fill_e525d_14 : decode cJ7_fill_e525d 14 = .ok (.iinc 2 1, 3) := by decide +kernel
theorem dJ7_fill_e525d_17 : decode cJ7_fill_e525d 17 = .ok (.goto (-12), 3) := by decide +kernel
theorem dJ7_fill_e525d_20 : decode cJ7_fill_e525d 20 = .ok (.return_, 1) := by decide +kernel

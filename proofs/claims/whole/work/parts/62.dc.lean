theorem dX7_init_0 : decode cX7_init 0 = .ok (.aload_n 0, 1) := by decide +kernel
theorem dX7_init_1 : decode cX7_init 1 = .ok (.invokespecial 3, 3) := by decide +kernel
theorem dX7_init_4 : decode cX7_init 4 = .ok (.aload_n 0, 1) := by decide +kernel
theorem dX7_init_5 : decode cX7_init 5 = .ok (.new 9, 3) := by decide +kernel
theorem dX7_init_8 : decode cX7_init 8 = .ok (.dup, 1) := by decide +kernel
theorem dX7_init_9 : decode cX7_init 9 = .ok (.invokespecial 11, 3) := by decide +kernel
theorem dX7_init_12 : decode cX7_init 12 = .ok (.putfield 12, 3) := by decide +kernel
theorem dX7_init_15 : decode cX7_init 15 = .ok (.aload_n 0, 1) := by decide +kernel
theorem dX7_init_16 : decode cX7_init 16 = .ok (.new 9, 3) := by decide +kernel
theorem dX7_init_19 : decode cX7_init 19 = .ok (.dup, 1) := by decide +kernel
theorem dX7_init_20 : decode cX7_init 20 = .ok (.invokespecial 11, 3) := by decide +kernel
theorem dX7_init_23 : decode cX7_init 23 = .ok (.putfield 16, 3) := by decide +kernel
theorem dX7_init_26 : decode cX7_init 26 = .ok (.aload_n 0, 1) := by decide +kernel
theorem dX7_init_27 : decode cX7_init 27 = .ok (.new 19, 3) := by decide +kernel
theorem dX7_init_30 : decode cX7_init 30 = .ok (.dup, 1) := by decide +kernel
theorem dX7_init_31 : decode cX7_init 31 = .ok (.invokespecial 21, 3) := by decide +kernel
theorem dX7_init_34 : decode cX7_init 34 = .ok (.putfield 22, 3) := by decide +kernel
theorem dX7_init_37 : decode cX7_init 37 = .ok (.aload_n 0, 1) := by decide +kernel
theorem dX7_init_38 : decode cX7_init 38 = .ok (.new 26, 3) := by decide +kernel
theorem dX7_init_41 : decode cX7_init 41 = .ok (.dup, 1) := by decide +kernel
theorem dX7_init_42 : decode cX7_init 42 = .ok (.invokespecial 28, 3) := by decide +kernel
theorem dX7_init_45 : decode cX7_init 45 = .ok (.putfield 29, 3) := by decide +kernel
theorem dX7_init_48 : decode cX7_init 48 = .ok (.aload_n 0, 1) := by decide +kernel
theorem dX7_init_49 : decode cX7_init 49 = .ok (.new 33, 3) := by decide +kernel
theorem dX7_init_52 : decode cX7_init 52 = .ok (.dup, 1) := by decide +kernel
theorem dX7_init_53 : decode cX7_init 53 = .ok (.invokespecial 35, 3) := by decide +kernel
theorem dX7_init_56 : decode cX7_init 56 = .ok (.putfield 36, 3) := by decide +kernel
theorem dX7_init_59 : decode cX7_init 59 = .ok (.aload_n 0, 1) := by decide +kernel
theorem dX7_init_60 : decode cX7_init 60 = .ok (.new 40, 3) := by decide +kernel
theorem dX7_init_63 : decode cX7_init 63 = .ok (.dup, 1) := by decide +kernel
theorem dX7_init_64 : decode cX7_init 64 = .ok (.invokespecial 42, 3) := by decide +kernel
theorem dX7_init_67 : decode cX7_init 67 = .ok (.putfield 43, 3) := by decide +kernel
theorem dX7_init_70 : decode cX7_init 70 = .ok (.aload_n 0, 1) := by decide +kernel
theorem dX7_init_71 : decode cX7_init 71 = .ok (.new 47, 3) := by decide +kernel
theorem dX7_init_74 : decode cX7_init 74 = .ok (.dup, 1) := by decide +kernel
theorem dX7_init_75 : decode cX7_init 75 = .ok (.invokespecial 49, 3) := by decide +kernel
theorem dX7_init_78 : decode cX7_init 78 = .ok (.putfield 50, 3) := by decide +kernel
theorem dX7_init_81 : decode cX7_init 81 = .ok (.aload_n 0, 1) := by decide +kernel
theorem dX7_init_82 : decode cX7_init 82 = .ok (.new 54, 3) := by decide +kernel
theorem dX7_init_85 : decode cX7_init 85 = .ok (.dup, 1) := by decide +kernel
theorem dX7_init_86 : decode cX7_init 86 = .ok (.invokespecial 56, 3) := by decide +kernel
theorem dX7_init_89 : decode cX7_init 89 = .ok (.putfield 57, 3) := by decide +kernel
theorem dX7_init_92 : decode cX7_init 92 = .ok (.aload_n 0, 1) := by decide +kernel
theorem dX7_init_93 : decode cX7_init 93 = .ok (.bipush 9, 2) := by decide +kernel
theorem dX7_init_95 : decode cX7_init 95 = .ok (.newarray .int, 2) := by decide +kernel
theorem dX7_init_97 : decode cX7_init 97 = .ok (.putfield 61, 3) := by decide +kernel
theorem dX7_init_100 : decode cX7_init 100 = .ok (.return_, 1) := by decide +kernel
theorem dX7_setNodes_0 : decode cX7_setNodes 0 = .ok (.iload_n 1, 1) := by decide +kernel
theorem dX7_setNodes_1 : decode cX7_setNodes 1 = .ok (.iconst 2, 1) := by decide +kernel
theorem dX7_setNodes_2 : decode cX7_setNodes 2 = .ok (.if_icmp .lt 9, 3) := by decide +kernel
theorem dX7_setNodes_5 : decode cX7_setNodes 5 = .ok (.iload_n 1, 1) := by decide +kernel
theorem dX7_setNodes_6 : decode cX7_setNodes 6 = .ok (.bipush 9, 2) := by decide +kernel
theorem dX7_setNodes_8 : decode cX7_setNodes 8 = .ok (.if_icmp .le 5, 3) := by decide +kernel
theorem dX7_setNodes_11 : decode cX7_setNodes 11 = .ok (.iconst (-1), 1) := by decide +kernel
theorem dX7_setNodes_12 : decode cX7_setNodes 12 = .ok (.ireturn, 1) := by decide +kernel
theorem dX7_setNodes_13 : decode cX7_setNodes 13 = .ok (.aload_n 0, 1) := by decide +kernel
theorem dX7_setNodes_14 : decode cX7_setNodes 14 = .ok (.getfield 12, 3) := by decide +kernel
theorem dX7_setNodes_17 : decode cX7_setNodes 17 = .ok (.getfield 65, 3) := by decide +kernel
theorem dX7_setNodes_20 : decode cX7_setNodes 20 = .ok (.istore_n 2, 1) := by decide +kernel
theorem dX7_setNodes_21 : decode cX7_setNodes 21 = .ok (.aload_n 0, 1) := by decide +kernel
theorem dX7_setNodes_22 : decode cX7_setNodes 22 = .ok (.getfield 29, 3) := by decide +kernel
theorem dX7_setNodes_25 : decode cX7_setNodes 25 = .ok (.aload_n 0, 1) := by decide +kernel
theorem dX7_setNodes_26 : decode cX7_setNodes 26 = .ok (.getfield 12, 3) := by decide +kernel
theorem dX7_setNodes_29 : decode cX7_setNodes 29 = .ok (.invokevirtual 69, 3) := by decide +kernel
theorem dX7_setNodes_32 : decode cX7_setNodes 32 = .ok (.aload_n 0, 1) := by decide +kernel
theorem dX7_setNodes_33 : decode cX7_setNodes 33 = .ok (.getfield 12, 3) := by decide +kernel
theorem dX7_setNodes_36 : decode cX7_setNodes 36 = .ok (.iload_n 1, 1) := by decide +kernel
theorem dX7_setNodes_37 : decode cX7_setNodes 37 = .ok (.invokevirtual 73, 3) := by decide +kernel
theorem dX7_setNodes_40 : decode cX7_setNodes 40 = .ok (.aload_n 0, 1) := by decide +kernel
theorem dX7_setNodes_41 : decode cX7_setNodes 41 = .ok (.invokevirtual 77, 3) := by decide +kernel
theorem dX7_setNodes_44 : decode cX7_setNodes 44 = .ok (.iload_n 2, 1) := by decide +kernel
theorem dX7_setNodes_45 : decode cX7_setNodes 45 = .ok (.ireturn, 1) := by decide +kernel
theorem dX7_addEdge_0 : decode cX7_addEdge 0 = .ok (.aload_n 0, 1) := by decide +kernel
theorem dX7_addEdge_1 : decode cX7_addEdge 1 = .ok (.iload_n 1, 1) := by decide +kernel
theorem dX7_addEdge_2 : decode cX7_addEdge 2 = .ok (.iload_n 2, 1) := by decide +kernel
theorem dX7_addEdge_3 : decode cX7_addEdge 3 = .ok (.invokevirtual 80, 3) := by decide +kernel
theorem dX7_addEdge_6 : decode cX7_addEdge 6 = .ok (.ifCond .eq 22, 3) := by decide +kernel
theorem dX7_addEdge_9 : decode cX7_addEdge 9 = .ok (.aload_n 0, 1) := by decide +kernel
theorem dX7_addEdge_10 : decode cX7_addEdge 10 = .ok (.iload_n 1, 1) := by decide +kernel
theorem dX7_addEdge_11 : decode cX7_addEdge 11 = .ok (.iload_n 3, 1) := by decide +kernel
theorem dX7_addEdge_12 : decode cX7_addEdge 12 = .ok (.invokevirtual 84, 3) := by decide +kernel
theorem dX7_addEdge_15 : decode cX7_addEdge 15 = .ok (.ifCond .eq 13, 3) := by decide +kernel
theorem dX7_addEdge_18 : decode cX7_addEdge 18 = .ok (.aload_n 0, 1) := by decide +kernel
theorem dX7_addEdge_19 : decode cX7_addEdge 19 = .ok (.iload_n 2, 1) := by decide +kernel
theorem dX7_addEdge_20 : decode cX7_addEdge 20 = .ok (.iload 4, 2) := by decide +kernel
theorem dX7_addEdge_22 : decode cX7_addEdge 22 = .ok (.invokevirtual 84, 3) := by decide +kernel
theorem dX7_addEdge_25 : decode cX7_addEdge 25 = .ok (.ifCond .ne 5, 3) := by decide +kernel
theorem dX7_addEdge_28 : decode cX7_addEdge 28 = .ok (.iconst (-1), 1) := by decide +kernel
theorem dX7_addEdge_29 : decode cX7_addEdge 29 = .ok (.ireturn, 1) := by decide +kernel
theorem dX7_addEdge_30 : decode cX7_addEdge 30 = .ok (.aload_n 0, 1) := by decide +kernel
theorem dX7_addEdge_31 : decode cX7_addEdge 31 = .ok (.getfield 12, 3) := by decide +kernel
theorem dX7_addEdge_34 : decode cX7_addEdge 34 = .ok (.iload_n 1, 1) := by decide +kernel
theorem dX7_addEdge_35 : decode cX7_addEdge 35 = .ok (.iload_n 2, 1) := by decide +kernel
theorem dX7_addEdge_36 : decode cX7_addEdge 36 = .ok (.invokevirtual 87, 3) := by decide +kernel
theorem dX7_addEdge_39 : decode cX7_addEdge 39 = .ok (.ifCond .eq 6, 3) := by decide +kernel
theorem dX7_addEdge_42 : decode cX7_addEdge 42 = .ok (.bipush (-2), 2) := by decide +kernel
theorem dX7_addEdge_44 : decode cX7_addEdge 44 = .ok (.ireturn, 1) := by decide +kernel
theorem dX7_addEdge_45 : decode cX7_addEdge 45 = .ok (.aload_n 0, 1) := by decide +kernel
theorem dX7_addEdge_46 : decode cX7_addEdge 46 = .ok (.iload_n 1, 1) := by decide +kernel
theorem dX7_addEdge_47 : decode cX7_addEdge 47 = .ok (.iload_n 2, 1) := by decide +kernel
theorem dX7_addEdge_48 : decode cX7_addEdge 48 = .ok (.aload_n 0, 1) := by decide +kernel
theorem dX7_addEdge_49 : decode cX7_addEdge 49 = .ok (.getfield 12, 3) := by decide +kernel
theorem dX7_addEdge_52 : decode cX7_addEdge 52 = .ok (.iload_n 1, 1) := by decide +kernel
theorem dX7_addEdge_53 : decode cX7_addEdge 53 = .ok (.iload_n 3, 1) := by decide +kernel
theorem dX7_addEdge_54 : decode cX7_addEdge 54 = .ok (.invokevirtual 90, 3) := by decide +kernel
theorem dX7_addEdge_57 : decode cX7_addEdge 57 = .ok (.iconst 1, 1) := by decide +kernel
theorem dX7_addEdge_58 : decode cX7_addEdge 58 = .ok (.iadd, 1) := by decide +kernel
theorem dX7_addEdge_59 : decode cX7_addEdge 59 = .ok (.aload_n 0, 1) := by decide +kernel
theorem dX7_addEdge_60 : decode cX7_addEdge 60 = .ok (.getfield 12, 3) := by decide +kernel
theorem dX7_addEdge_63 : decode cX7_addEdge 63 = .ok (.iload_n 2, 1) := by decide +kernel
theorem dX7_addEdge_64 : decode cX7_addEdge 64 = .ok (.iload 4, 2) := by decide +kernel
theorem dX7_addEdge_66 : decode cX7_addEdge 66 = .ok (.invokevirtual 90, 3) := by decide +kernel
theorem dX7_addEdge_69 : decode cX7_addEdge 69 = .ok (.iconst 1, 1) := by decide +kernel
theorem dX7_addEdge_70 : decode cX7_addEdge 70 = .ok (.iadd, 1) := by decide +kernel
theorem dX7_addEdge_71 : decode cX7_addEdge 71 = .ok (.invokevirtual 94, 3) := by decide +kernel
theorem dX7_addEdge_74 : decode cX7_addEdge 74 = .ok (.ireturn, 1) := by decide +kernel
theorem dX7_addInFace_0 : decode cX7_addInFace 0 = .ok (.aload_n 0, 1) := by decide +kernel
theorem dX7_addInFace_1 : decode cX7_addInFace 1 = .ok (.iload_n 1, 1) := by decide +kernel
theorem dX7_addInFace_2 : decode cX7_addInFace 2 = .ok (.iload_n 2, 1) := by decide +kernel
theorem dX7_addInFace_3 : decode cX7_addInFace 3 = .ok (.invokevirtual 80, 3) := by decide +kernel
theorem dX7_addInFace_6 : decode cX7_addInFace 6 = .ok (.ifCond .eq 14, 3) := by decide +kernel
theorem dX7_addInFace_9 : decode cX7_addInFace 9 = .ok (.aload_n 0, 1) := by decide +kernel
theorem dX7_addInFace_10 : decode cX7_addInFace 10 = .ok (.getfield 22, 3) := by decide +kernel
theorem dX7_addInFace_13 : decode cX7_addInFace 13 = .ok (.iload_n 3, 1) := by decide +kernel
theorem dX7_addInFace_14 : decode cX7_addInFace 14 = .ok (.invokevirtual 98, 3) := by decide +kernel
theorem dX7_addInFace_17 : decode cX7_addInFace 17 = .ok (.ifCond .ne 5, 3) := by decide +kernel
theorem dX7_addInFace_20 : decode cX7_addInFace 20 = .ok (.iconst (-1), 1) := by decide +kernel
theorem dX7_addInFace_21 : decode cX7_addInFace 21 = .ok (.ireturn, 1) := by decide +kernel
theorem dX7_addInFace_22 : decode cX7_addInFace 22 = .ok (.aload_n 0, 1) := by decide +kernel
theorem dX7_addInFace_23 : decode cX7_addInFace 23 = .ok (.getfield 12, 3) := by decide +kernel
theorem dX7_addInFace_26 : decode cX7_addInFace 26 = .ok (.iload_n 1, 1) := by decide +kernel
theorem dX7_addInFace_27 : decode cX7_addInFace 27 = .ok (.iload_n 2, 1) := by decide +kernel
theorem dX7_addInFace_28 : decode cX7_addInFace 28 = .ok (.invokevirtual 87, 3) := by decide +kernel
theorem dX7_addInFace_31 : decode cX7_addInFace 31 = .ok (.ifCond .ne 27, 3) := by decide +kernel
theorem dX7_addInFace_34 : decode cX7_addInFace 34 = .ok (.aload_n 0, 1) := by decide +kernel
theorem dX7_addInFace_35 : decode cX7_addInFace 35 = .ok (.getfield 22, 3) := by decide +kernel
theorem dX7_addInFace_38 : decode cX7_addInFace 38 = .ok (.iload_n 3, 1) := by decide +kernel
theorem dX7_addInFace_39 : decode cX7_addInFace 39 = .ok (.iload_n 1, 1) := by decide +kernel
theorem dX7_addInFace_40 : decode cX7_addInFace 40 = .ok (.invokevirtual 102, 3) := by decide +kernel
theorem dX7_addInFace_43 : decode cX7_addInFace 43 = .ok (.ifCond .eq 15, 3) := by decide +kernel
theorem dX7_addInFace_46 : decode cX7_addInFace 46 = .ok (.aload_n 0, 1) := by decide +kernel
theorem dX7_addInFace_47 : decode cX7_addInFace 47 = .ok (.getfield 22, 3) := by decide +kernel
theorem dX7_addInFace_50 : decode cX7_addInFace 50 = .ok (.iload_n 3, 1) := by decide +kernel
theorem dX7_addInFace_51 : decode cX7_addInFace 51 = .ok (.iload_n 2, 1) := by decide +kernel
theorem dX7_addInFace_52 : decode cX7_addInFace 52 = .ok (.invokevirtual 102, 3) := by decide +kernel
theorem dX7_addInFace_55 : decode cX7_addInFace 55 = .ok (.ifCond .ne 6, 3) := by decide +kernel
theorem dX7_addInFace_58 : decode cX7_addInFace 58 = .ok (.bipush (-2), 2) := by decide +kernel
theorem dX7_addInFace_60 : decode cX7_addInFace 60 = .ok (.ireturn, 1) := by decide +kernel
theorem dX7_addInFace_61 : decode cX7_addInFace 61 = .ok (.aload_n 0, 1) := by decide +kernel
theorem dX7_addInFace_62 : decode cX7_addInFace 62 = .ok (.getfield 12, 3) := by decide +kernel
theorem dX7_addInFace_65 : decode cX7_addInFace 65 = .ok (.iload_n 1, 1) := by decide +kernel
theorem dX7_addInFace_66 : decode cX7_addInFace 66 = .ok (.aload_n 0, 1) := by decide +kernel
theorem dX7_addInFace_67 : decode cX7_addInFace 67 = .ok (.getfield 22, 3) := by decide +kernel
theorem dX7_addInFace_70 : decode cX7_addInFace 70 = .ok (.aload_n 0, 1) := by decide +kernel
theorem dX7_addInFace_71 : decode cX7_addInFace 71 = .ok (.getfield 12, 3) := by decide +kernel
theorem dX7_addInFace_74 : decode cX7_addInFace 74 = .ok (.iload_n 3, 1) := by decide +kernel
theorem dX7_addInFace_75 : decode cX7_addInFace 75 = .ok (.iload_n 1, 1) := by decide +kernel
theorem dX7_addInFace_76 : decode cX7_addInFace 76 = .ok (.invokevirtual 105, 3) := by decide +kernel
theorem dX7_addInFace_79 : decode cX7_addInFace 79 = .ok (.invokevirtual 90, 3) := by decide +kernel
theorem dX7_addInFace_82 : decode cX7_addInFace 82 = .ok (.istore 4, 2) := by decide +kernel
theorem dX7_addInFace_84 : decode cX7_addInFace 84 = .ok (.aload_n 0, 1) := by decide +kernel
theorem dX7_addInFace_85 : decode cX7_addInFace 85 = .ok (.getfield 12, 3) := by decide +kernel
theorem dX7_addInFace_88 : decode cX7_addInFace 88 = .ok (.iload_n 2, 1) := by decide +kernel
theorem dX7_addInFace_89 : decode cX7_addInFace 89 = .ok (.aload_n 0, 1) := by decide +kernel
theorem dX7_addInFace_90 : decode cX7_addInFace 90 = .ok (.getfield 22, 3) := by decide +kernel
theorem dX7_addInFace_93 : decode cX7_addInFace 93 = .ok (.aload_n 0, 1) := by decide +kernel
theorem dX7_addInFace_94 : decode cX7_addInFace 94 = .ok (.getfield 12, 3) := by decide +kernel
theorem dX7_addInFace_97 : decode cX7_addInFace 97 = .ok (.iload_n 3, 1) := by decide +kernel
theorem dX7_addInFace_98 : decode cX7_addInFace 98 = .ok (.iload_n 2, 1) := by decide +kernel
theorem dX7_addInFace_99 : decode cX7_addInFace 99 = .ok (.invokevirtual 105, 3) := by decide +kernel
theorem dX7_addInFace_102 : decode cX7_addInFace 102 = .ok (.invokevirtual 90, 3) := by decide +kernel
theorem dX7_addInFace_105 : decode cX7_addInFace 105 = .ok (.istore 5, 2) := by decide +kernel
theorem dX7_addInFace_107 : decode cX7_addInFace 107 = .ok (.aload_n 0, 1) := by decide +kernel
theorem dX7_addInFace_108 : decode cX7_addInFace 108 = .ok (.iload_n 1, 1) := by decide +kernel
theorem dX7_addInFace_109 : decode cX7_addInFace 109 = .ok (.iload_n 2, 1) := by decide +kernel
theorem dX7_addInFace_110 : decode cX7_addInFace 110 = .ok (.iload 4, 2) := by decide +kernel
theorem dX7_addInFace_112 : decode cX7_addInFace 112 = .ok (.iload 5, 2) := by decide +kernel
theorem dX7_addInFace_114 : decode cX7_addInFace 114 = .ok (.invokevirtual 94, 3) := by decide +kernel
theorem dX7_addInFace_117 : decode cX7_addInFace 117 = .ok (.ireturn, 1) := by decide +kernel
theorem dX7_removeEdge_0 : decode cX7_removeEdge 0 = .ok (.aload_n 0, 1) := by decide +kernel
theorem dX7_removeEdge_1 : decode cX7_removeEdge 1 = .ok (.getfield 12, 3) := by decide +kernel
theorem dX7_removeEdge_4 : decode cX7_removeEdge 4 = .ok (.iload_n 1, 1) := by decide +kernel
theorem dX7_removeEdge_5 : decode cX7_removeEdge 5 = .ok (.invokevirtual 109, 3) := by decide +kernel
theorem dX7_removeEdge_8 : decode cX7_removeEdge 8 = .ok (.ifCond .ne 5, 3) := by decide +kernel
theorem dX7_removeEdge_11 : decode cX7_removeEdge 11 = .ok (.iconst (-1), 1) := by decide +kernel
theorem dX7_removeEdge_12 : decode cX7_removeEdge 12 = .ok (.ireturn, 1) := by decide +kernel
theorem dX7_removeEdge_13 : decode cX7_removeEdge 13 = .ok (.aload_n 0, 1) := by decide +kernel
theorem dX7_removeEdge_14 : decode cX7_removeEdge 14 = .ok (.getfield 29, 3) := by decide +kernel
theorem dX7_removeEdge_17 : decode cX7_removeEdge 17 = .ok (.aload_n 0, 1) := by decide +kernel
theorem dX7_removeEdge_18 : decode cX7_removeEdge 18 = .ok (.getfield 12, 3) := by decide +kernel
theorem dX7_removeEdge_21 : decode cX7_removeEdge 21 = .ok (.invokevirtual 69, 3) := by decide +kernel
theorem dX7_removeEdge_24 : decode cX7_removeEdge 24 = .ok (.aload_n 0, 1) := by decide +kernel
theorem dX7_removeEdge_25 : decode cX7_removeEdge 25 = .ok (.getfield 12, 3) := by decide +kernel
theorem dX7_removeEdge_28 : decode cX7_removeEdge 28 = .ok (.iload_n 1, 1) := by decide +kernel
theorem dX7_removeEdge_29 : decode cX7_removeEdge 29 = .ok (.invokevirtual 112, 3) := by decide +kernel
theorem dX7_removeEdge_32 : decode cX7_removeEdge 32 = .ok (.aload_n 0, 1) := by decide +kernel
theorem dX7_removeEdge_33 : decode cX7_removeEdge 33 = .ok (.invokevirtual 77, 3) := by decide +kernel
theorem dX7_removeEdge_36 : decode cX7_removeEdge 36 = .ok (.aload_n 0, 1) := by decide +kernel
theorem dX7_removeEdge_37 : decode cX7_removeEdge 37 = .ok (.getfield 12, 3) := by decide +kernel
theorem dX7_removeEdge_40 : decode cX7_removeEdge 40 = .ok (.getfield 115, 3) := by decide +kernel
theorem dX7_removeEdge_43 : decode cX7_removeEdge 43 = .ok (.ireturn, 1) := by decide +kernel
theorem dX7_swap_0 : decode cX7_swap 0 = .ok (.aload_n 0, 1) := by decide +kernel
theorem dX7_swap_1 : decode cX7_swap 1 = .ok (.getfield 12, 3) := by decide +kernel
theorem dX7_swap_4 : decode cX7_swap 4 = .ok (.iload_n 1, 1) := by decide +kernel
theorem dX7_swap_5 : decode cX7_swap 5 = .ok (.invokevirtual 118, 3) := by decide +kernel
theorem dX7_swap_8 : decode cX7_swap 8 = .ok (.ifCond .eq 27, 3) := by decide +kernel
theorem dX7_swap_11 : decode cX7_swap 11 = .ok (.aload_n 0, 1) := by decide +kernel
theorem dX7_swap_12 : decode cX7_swap 12 = .ok (.getfield 12, 3) := by decide +kernel
theorem dX7_swap_15 : decode cX7_swap 15 = .ok (.iload_n 2, 1) := by decide +kernel
theorem dX7_swap_16 : decode cX7_swap 16 = .ok (.iload_n 1, 1) := by decide +kernel
theorem dX7_swap_17 : decode cX7_swap 17 = .ok (.invokevirtual 121, 3) := by decide +kernel
theorem dX7_swap_20 : decode cX7_swap 20 = .ok (.ifCond .eq 15, 3) := by decide +kernel
theorem dX7_swap_23 : decode cX7_swap 23 = .ok (.aload_n 0, 1) := by decide +kernel
theorem dX7_swap_24 : decode cX7_swap 24 = .ok (.getfield 12, 3) := by decide +kernel
theorem dX7_swap_27 : decode cX7_swap 27 = .ok (.iload_n 3, 1) := by decide +kernel
theorem dX7_swap_28 : decode cX7_swap 28 = .ok (.iload_n 1, 1) := by decide +kernel
theorem dX7_swap_29 : decode cX7_swap 29 = .ok (.invokevirtual 121, 3) := by decide +kernel
theorem dX7_swap_32 : decode cX7_swap 32 = .ok (.ifCond .ne 5, 3) := by decide +kernel
theorem dX7_swap_35 : decode cX7_swap 35 = .ok (.iconst (-1), 1) := by decide +kernel
theorem dX7_swap_36 : decode cX7_swap 36 = .ok (.ireturn, 1) := by decide +kernel
theorem dX7_swap_37 : decode cX7_swap 37 = .ok (.aload_n 0, 1) := by decide +kernel
theorem dX7_swap_38 : decode cX7_swap 38 = .ok (.getfield 29, 3) := by decide +kernel
theorem dX7_swap_41 : decode cX7_swap 41 = .ok (.aload_n 0, 1) := by decide +kernel
theorem dX7_swap_42 : decode cX7_swap 42 = .ok (.getfield 12, 3) := by decide +kernel
theorem dX7_swap_45 : decode cX7_swap 45 = .ok (.invokevirtual 69, 3) := by decide +kernel
theorem dX7_swap_48 : decode cX7_swap 48 = .ok (.aload_n 0, 1) := by decide +kernel
theorem dX7_swap_49 : decode cX7_swap 49 = .ok (.getfield 12, 3) := by decide +kernel
theorem dX7_swap_52 : decode cX7_swap 52 = .ok (.iload_n 1, 1) := by decide +kernel
theorem dX7_swap_53 : decode cX7_swap 53 = .ok (.iload_n 2, 1) := by decide +kernel
theorem dX7_swap_54 : decode cX7_swap 54 = .ok (.iload_n 3, 1) := by decide +kernel
theorem dX7_swap_55 : decode cX7_swap 55 = .ok (.invokevirtual 124, 3) := by decide +kernel
theorem dX7_swap_58 : decode cX7_swap 58 = .ok (.aload_n 0, 1) := by decide +kernel
theorem dX7_swap_59 : decode cX7_swap 59 = .ok (.invokevirtual 77, 3) := by decide +kernel
theorem dX7_swap_62 : decode cX7_swap 62 = .ok (.aload_n 0, 1) := by decide +kernel
theorem dX7_swap_63 : decode cX7_swap 63 = .ok (.getfield 22, 3) := by decide +kernel
theorem dX7_swap_66 : decode cX7_swap 66 = .ok (.getfield 128, 3) := by decide +kernel
theorem dX7_swap_69 : decode cX7_swap 69 = .ok (.ifCond .ne 7, 3) := by decide +kernel
theorem dX7_swap_72 : decode cX7_swap 72 = .ok (.iconst 1, 1) := by decide +kernel
theorem dX7_swap_73 : decode cX7_swap 73 = .ok (.goto 4, 3) := by decide +kernel
theorem dX7_swap_76 : decode cX7_swap 76 = .ok (.iconst 0, 1) := by decide +kernel
theorem dX7_swap_77 : decode cX7_swap 77 = .ok (.ireturn, 1) := by decide +kernel
theorem dX7_mirror_0 : decode cX7_mirror 0 = .ok (.aload_n 0, 1) := by decide +kernel
theorem dX7_mirror_1 : decode cX7_mirror 1 = .ok (.getfield 29, 3) := by decide +kernel
theorem dX7_mirror_4 : decode cX7_mirror 4 = .ok (.aload_n 0, 1) := by decide +kernel
theorem dX7_mirror_5 : decode cX7_mirror 5 = .ok (.getfield 12, 3) := by decide +kernel
theorem dX7_mirror_8 : decode cX7_mirror 8 = .ok (.invokevirtual 69, 3) := by decide +kernel
theorem dX7_mirror_11 : decode cX7_mirror 11 = .ok (.aload_n 0, 1) := by decide +kernel
theorem dX7_mirror_12 : decode cX7_mirror 12 = .ok (.getfield 12, 3) := by decide +kernel
theorem dX7_mirror_15 : decode cX7_mirror 15 = .ok (.invokevirtual 131, 3) := by decide +kernel
theorem dX7_mirror_18 : decode cX7_mirror 18 = .ok (.aload_n 0, 1) := by decide +kernel
theorem dX7_mirror_19 : decode cX7_mirror 19 = .ok (.invokevirtual 77, 3) := by decide +kernel
theorem dX7_mirror_22 : decode cX7_mirror 22 = .ok (.aload_n 0, 1) := by decide +kernel
theorem dX7_mirror_23 : decode cX7_mirror 23 = .ok (.getfield 22, 3) := by decide +kernel
theorem dX7_mirror_26 : decode cX7_mirror 26 = .ok (.getfield 134, 3) := by decide +kernel
theorem dX7_mirror_29 : decode cX7_mirror 29 = .ok (.ireturn, 1) := by decide +kernel
theorem dX7_rotation_0 : decode cX7_rotation 0 = .ok (.aload_n 0, 1) := by decide +kernel
theorem dX7_rotation_1 : decode cX7_rotation 1 = .ok (.getfield 12, 3) := by decide +kernel
theorem dX7_rotation_4 : decode cX7_rotation 4 = .ok (.iload_n 1, 1) := by decide +kernel
theorem dX7_rotation_5 : decode cX7_rotation 5 = .ok (.invokevirtual 118, 3) := by decide +kernel
theorem dX7_rotation_8 : decode cX7_rotation 8 = .ok (.ifCond .eq 7, 3) := by decide +kernel
theorem dX7_rotation_11 : decode cX7_rotation 11 = .ok (.iload_n 2, 1) := by decide +kernel
theorem dX7_rotation_12 : decode cX7_rotation 12 = .ok (.ifCond .ge 5, 3) := by decide +kernel
theorem dX7_rotation_15 : decode cX7_rotation 15 = .ok (.iconst (-1), 1) := by decide +kernel
theorem dX7_rotation_16 : decode cX7_rotation 16 = .ok (.ireturn, 1) := by decide +kernel
theorem dX7_rotation_17 : decode cX7_rotation 17 = .ok (.iload_n 2, 1) := by decide +kernel
theorem dX7_rotation_18 : decode cX7_rotation 18 = .ok (.aload_n 0, 1) := by decide +kernel
theorem dX7_rotation_19 : decode cX7_rotation 19 = .ok (.getfield 12, 3) := by decide +kernel
theorem dX7_rotation_22 : decode cX7_rotation 22 = .ok (.getfield 137, 3) := by decide +kernel
theorem dX7_rotation_25 : decode cX7_rotation 25 = .ok (.iload_n 1, 1) := by decide +kernel
theorem dX7_rotation_26 : decode cX7_rotation 26 = .ok (.iaload, 1) := by decide +kernel
theorem dX7_rotation_27 : decode cX7_rotation 27 = .ok (.if_icmp .ge 15, 3) := by decide +kernel
theorem dX7_rotation_30 : decode cX7_rotation 30 = .ok (.aload_n 0, 1) := by decide +kernel
theorem dX7_rotation_31 : decode cX7_rotation 31 = .ok (.getfield 12, 3) := by decide +kernel
theorem dX7_rotation_34 : decode cX7_rotation 34 = .ok (.iload_n 1, 1) := by decide +kernel
theorem dX7_rotation_35 : decode cX7_rotation 35 = .ok (.iload_n 2, 1) := by decide +kernel
theorem dX7_rotation_36 : decode cX7_rotation 36 = .ok (.invokevirtual 140, 3) := by decide +kernel
theorem dX7_rotation_39 : decode cX7_rotation 39 = .ok (.goto 5, 3) := by decide +kernel
theorem dX7_rotation_42 : decode cX7_rotation 42 = .ok (.bipush (-9), 2) := by decide +kernel
theorem dX7_rotation_44 : decode cX7_rotation 44 = .ok (.ireturn, 1) := by decide +kernel
theorem dX7_edge_0 : decode cX7_edge 0 = .ok (.aload_n 0, 1) := by decide +kernel
theorem dX7_edge_1 : decode cX7_edge 1 = .ok (.getfield 12, 3) := by decide +kernel
theorem dX7_edge_4 : decode cX7_edge 4 = .ok (.iload_n 1, 1) := by decide +kernel
theorem dX7_edge_5 : decode cX7_edge 5 = .ok (.invokevirtual 109, 3) := by decide +kernel
theorem dX7_edge_8 : decode cX7_edge 8 = .ok (.ifCond .eq 12, 3) := by decide +kernel
theorem dX7_edge_11 : decode cX7_edge 11 = .ok (.iload_n 2, 1) := by decide +kernel
theorem dX7_edge_12 : decode cX7_edge 12 = .ok (.ifCond .lt 8, 3) := by decide +kernel
theorem dX7_edge_15 : decode cX7_edge 15 = .ok (.iload_n 2, 1) := by decide +kernel
theorem dX7_edge_16 : decode cX7_edge 16 = .ok (.iconst 1, 1) := by decide +kernel
theorem dX7_edge_17 : decode cX7_edge 17 = .ok (.if_icmp .le 5, 3) := by decide +kernel
theorem dX7_edge_20 : decode cX7_edge 20 = .ok (.iconst (-1), 1) := by decide +kernel
theorem dX7_edge_21 : decode cX7_edge 21 = .ok (.ireturn, 1) := by decide +kernel
theorem dX7_edge_22 : decode cX7_edge 22 = .ok (.iload_n 2, 1) := by decide +kernel
theorem dX7_edge_23 : decode cX7_edge 23 = .ok (.ifCond .ne 15, 3) := by decide +kernel
theorem dX7_edge_26 : decode cX7_edge 26 = .ok (.aload_n 0, 1) := by decide +kernel
theorem dX7_edge_27 : decode cX7_edge 27 = .ok (.getfield 12, 3) := by decide +kernel
theorem dX7_edge_30 : decode cX7_edge 30 = .ok (.getfield 143, 3) := by decide +kernel
theorem dX7_edge_33 : decode cX7_edge 33 = .ok (.iload_n 1, 1) := by decide +kernel
theorem dX7_edge_34 : decode cX7_edge 34 = .ok (.iaload, 1) := by decide +kernel
theorem dX7_edge_35 : decode cX7_edge 35 = .ok (.goto 12, 3) := by decide +kernel
theorem dX7_edge_38 : decode cX7_edge 38 = .ok (.aload_n 0, 1) := by decide +kernel
theorem dX7_edge_39 : decode cX7_edge 39 = .ok (.getfield 12, 3) := by decide +kernel
theorem dX7_edge_42 : decode cX7_edge 42 = .ok (.getfield 146, 3) := by decide +kernel
theorem dX7_edge_45 : decode cX7_edge 45 = .ok (.iload_n 1, 1) := by decide +kernel
theorem dX7_edge_46 : decode cX7_edge 46 = .ok (.iaload, 1) := by decide +kernel
theorem dX7_edge_47 : decode cX7_edge 47 = .ok (.ireturn, 1) := by decide +kernel
theorem dX7_count_0 : decode cX7_count 0 = .ok (.iload_n 1, 1) := by decide +kernel
theorem dX7_count_1 : decode cX7_count 1 = .ok (.tableswitch 111 0 7 #[47, 55, 63, 71, 79, 87, 95, 103], 47) := by decide +kernel
theorem dX7_count_48 : decode cX7_count 48 = .ok (.aload_n 0, 1) := by decide +kernel
theorem dX7_count_49 : decode cX7_count 49 = .ok (.getfield 12, 3) := by decide +kernel
theorem dX7_count_52 : decode cX7_count 52 = .ok (.getfield 65, 3) := by decide +kernel
theorem dX7_count_55 : decode cX7_count 55 = .ok (.ireturn, 1) := by decide +kernel
theorem dX7_count_56 : decode cX7_count 56 = .ok (.aload_n 0, 1) := by decide +kernel
theorem dX7_count_57 : decode cX7_count 57 = .ok (.getfield 12, 3) := by decide +kernel
theorem dX7_count_60 : decode cX7_count 60 = .ok (.getfield 115, 3) := by decide +kernel
theorem dX7_count_63 : decode cX7_count 63 = .ok (.ireturn, 1) := by decide +kernel
theorem dX7_count_64 : decode cX7_count 64 = .ok (.aload_n 0, 1) := by decide +kernel
theorem dX7_count_65 : decode cX7_count 65 = .ok (.getfield 22, 3) := by decide +kernel
theorem dX7_count_68 : decode cX7_count 68 = .ok (.getfield 149, 3) := by decide +kernel
theorem dX7_count_71 : decode cX7_count 71 = .ok (.ireturn, 1) := by decide +kernel
theorem dX7_count_72 : decode cX7_count 72 = .ok (.aload_n 0, 1) := by decide +kernel
theorem dX7_count_73 : decode cX7_count 73 = .ok (.getfield 22, 3) := by decide +kernel
theorem dX7_count_76 : decode cX7_count 76 = .ok (.getfield 134, 3) := by decide +kernel
theorem dX7_count_79 : decode cX7_count 79 = .ok (.ireturn, 1) := by decide +kernel
theorem dX7_count_80 : decode cX7_count 80 = .ok (.aload_n 0, 1) := by decide +kernel
theorem dX7_count_81 : decode cX7_count 81 = .ok (.getfield 22, 3) := by decide +kernel
theorem dX7_count_84 : decode cX7_count 84 = .ok (.getfield 128, 3) := by decide +kernel
theorem dX7_count_87 : decode cX7_count 87 = .ok (.ireturn, 1) := by decide +kernel
theorem dX7_count_88 : decode cX7_count 88 = .ok (.aload_n 0, 1) := by decide +kernel
theorem dX7_count_89 : decode cX7_count 89 = .ok (.getfield 12, 3) := by decide +kernel
theorem dX7_count_92 : decode cX7_count 92 = .ok (.getfield 152, 3) := by decide +kernel
theorem dX7_count_95 : decode cX7_count 95 = .ok (.ireturn, 1) := by decide +kernel
theorem dX7_count_96 : decode cX7_count 96 = .ok (.aload_n 0, 1) := by decide +kernel
theorem dX7_count_97 : decode cX7_count 97 = .ok (.getfield 36, 3) := by decide +kernel
theorem dX7_count_100 : decode cX7_count 100 = .ok (.getfield 155, 3) := by decide +kernel
theorem dX7_count_103 : decode cX7_count 103 = .ok (.ireturn, 1) := by decide +kernel
theorem dX7_count_104 : decode cX7_count 104 = .ok (.aload_n 0, 1) := by decide +kernel
theorem dX7_count_105 : decode cX7_count 105 = .ok (.getfield 29, 3) := by decide +kernel
theorem dX7_count_108 : decode cX7_count 108 = .ok (.getfield 158, 3) := by decide +kernel
theorem dX7_count_111 : decode cX7_count 111 = .ok (.ireturn, 1) := by decide +kernel
theorem dX7_count_112 : decode cX7_count 112 = .ok (.iconst (-1), 1) := by decide +kernel
theorem dX7_count_113 : decode cX7_count 113 = .ok (.ireturn, 1) := by decide +kernel
theorem dX7_appendCharacter_0 : decode cX7_appendCharacter 0 = .ok (.iload_n 1, 1) := by decide +kernel
theorem dX7_appendCharacter_1 : decode cX7_appendCharacter 1 = .ok (.ifCond .lt 10, 3) := by decide +kernel
theorem dX7_appendCharacter_4 : decode cX7_appendCharacter 4 = .ok (.iload_n 1, 1) := by decide +kernel
theorem dX7_appendCharacter_5 : decode cX7_appendCharacter 5 = .ok (.sipush 255, 3) := by decide +kernel
theorem dX7_appendCharacter_8 : decode cX7_appendCharacter 8 = .ok (.if_icmp .le 5, 3) := by decide +kernel
theorem dX7_appendCharacter_11 : decode cX7_appendCharacter 11 = .ok (.iconst (-1), 1) := by decide +kernel
theorem dX7_appendCharacter_12 : decode cX7_appendCharacter 12 = .ok (.ireturn, 1) := by decide +kernel
theorem dX7_appendCharacter_13 : decode cX7_appendCharacter 13 = .ok (.aload_n 0, 1) := by decide +kernel
theorem dX7_appendCharacter_14 : decode cX7_appendCharacter 14 = .ok (.getfield 36, 3) := by decide +kernel
theorem dX7_appendCharacter_17 : decode cX7_appendCharacter 17 = .ok (.getfield 155, 3) := by decide +kernel
theorem dX7_appendCharacter_20 : decode cX7_appendCharacter 20 = .ok (.bipush 100, 2) := by decide +kernel
theorem dX7_appendCharacter_22 : decode cX7_appendCharacter 22 = .ok (.if_icmp .lt 6, 3) := by decide +kernel
theorem dX7_appendCharacter_25 : decode cX7_appendCharacter 25 = .ok (.bipush (-3), 2) := by decide +kernel
theorem dX7_appendCharacter_27 : decode cX7_appendCharacter 27 = .ok (.ireturn, 1) := by decide +kernel
theorem dX7_appendCharacter_28 : decode cX7_appendCharacter 28 = .ok (.aload_n 0, 1) := by decide +kernel
theorem dX7_appendCharacter_29 : decode cX7_appendCharacter 29 = .ok (.getfield 36, 3) := by decide +kernel
theorem dX7_appendCharacter_32 : decode cX7_appendCharacter 32 = .ok (.iload_n 1, 1) := by decide +kernel
theorem dX7_appendCharacter_33 : decode cX7_appendCharacter 33 = .ok (.invokevirtual 161, 3) := by decide +kernel
theorem dX7_appendCharacter_36 : decode cX7_appendCharacter 36 = .ok (.aload_n 0, 1) := by decide +kernel
theorem dX7_appendCharacter_37 : decode cX7_appendCharacter 37 = .ok (.getfield 36, 3) := by decide +kernel
theorem dX7_appendCharacter_40 : decode cX7_appendCharacter 40 = .ok (.getfield 155, 3) := by decide +kernel
theorem dX7_appendCharacter_43 : decode cX7_appendCharacter 43 = .ok (.ireturn, 1) := by decide +kernel
theorem dX7_clearText_0 : decode cX7_clearText 0 = .ok (.aload_n 0, 1) := by decide +kernel
theorem dX7_clearText_1 : decode cX7_clearText 1 = .ok (.getfield 36, 3) := by decide +kernel
theorem dX7_clearText_4 : decode cX7_clearText 4 = .ok (.getfield 155, 3) := by decide +kernel
theorem dX7_clearText_7 : decode cX7_clearText 7 = .ok (.istore_n 1, 1) := by decide +kernel
theorem dX7_clearText_8 : decode cX7_clearText 8 = .ok (.aload_n 0, 1) := by decide +kernel
theorem dX7_clearText_9 : decode cX7_clearText 9 = .ok (.getfield 36, 3) := by decide +kernel
theorem dX7_clearText_12 : decode cX7_clearText 12 = .ok (.iconst 0, 1) := by decide +kernel
theorem dX7_clearText_13 : decode cX7_clearText 13 = .ok (.putfield 155, 3) := by decide +kernel
theorem dX7_clearText_16 : decode cX7_clearText 16 = .ok (.iload_n 1, 1) := by decide +kernel
theorem dX7_clearText_17 : decode cX7_clearText 17 = .ok (.ireturn, 1) := by decide +kernel
theorem dX7_load_0 : decode cX7_load 0 = .ok (.aload_n 0, 1) := by decide +kernel
theorem dX7_load_1 : decode cX7_load 1 = .ok (.getfield 36, 3) := by decide +kernel
theorem dX7_load_4 : decode cX7_load 4 = .ok (.aload_n 0, 1) := by decide +kernel
theorem dX7_load_5 : decode cX7_load 5 = .ok (.getfield 16, 3) := by decide +kernel
theorem dX7_load_8 : decode cX7_load 8 = .ok (.invokevirtual 164, 3) := by decide +kernel
theorem dX7_load_11 : decode cX7_load 11 = .ok (.istore_n 1, 1) := by decide +kernel
theorem dX7_load_12 : decode cX7_load 12 = .ok (.iload_n 1, 1) := by decide +kernel
theorem dX7_load_13 : decode cX7_load 13 = .ok (.ifCond .lt 8, 3) := by decide +kernel
theorem dX7_load_16 : decode cX7_load 16 = .ok (.bipush (-10), 2) := by decide +kernel
theorem dX7_load_18 : decode cX7_load 18 = .ok (.iload_n 1, 1) := by decide +kernel
theorem dX7_load_19 : decode cX7_load 19 = .ok (.isub, 1) := by decide +kernel
theorem dX7_load_20 : decode cX7_load 20 = .ok (.ireturn, 1) := by decide +kernel
theorem dX7_load_21 : decode cX7_load 21 = .ok (.aload_n 0, 1) := by decide +kernel
theorem dX7_load_22 : decode cX7_load 22 = .ok (.getfield 29, 3) := by decide +kernel
theorem dX7_load_25 : decode cX7_load 25 = .ok (.aload_n 0, 1) := by decide +kernel
theorem dX7_load_26 : decode cX7_load 26 = .ok (.getfield 12, 3) := by decide +kernel
theorem dX7_load_29 : decode cX7_load 29 = .ok (.invokevirtual 69, 3) := by decide +kernel
theorem dX7_load_32 : decode cX7_load 32 = .ok (.aload_n 0, 1) := by decide +kernel
theorem dX7_load_33 : decode cX7_load 33 = .ok (.getfield 12, 3) := by decide +kernel
theorem dX7_load_36 : decode cX7_load 36 = .ok (.aload_n 0, 1) := by decide +kernel
theorem dX7_load_37 : decode cX7_load 37 = .ok (.getfield 16, 3) := by decide +kernel
theorem dX7_load_40 : decode cX7_load 40 = .ok (.invokevirtual 168, 3) := by decide +kernel
theorem dX7_load_43 : decode cX7_load 43 = .ok (.aload_n 0, 1) := by decide +kernel
theorem dX7_load_44 : decode cX7_load 44 = .ok (.getfield 36, 3) := by decide +kernel
theorem dX7_load_47 : decode cX7_load 47 = .ok (.iconst 0, 1) := by decide +kernel
theorem dX7_load_48 : decode cX7_load 48 = .ok (.putfield 155, 3) := by decide +kernel
theorem dX7_load_51 : decode cX7_load 51 = .ok (.aload_n 0, 1) := by decide +kernel
theorem dX7_load_52 : decode cX7_load 52 = .ok (.invokevirtual 77, 3) := by decide +kernel
theorem dX7_load_55 : decode cX7_load 55 = .ok (.aload_n 0, 1) := by decide +kernel
theorem dX7_load_56 : decode cX7_load 56 = .ok (.getfield 12, 3) := by decide +kernel
theorem dX7_load_59 : decode cX7_load 59 = .ok (.getfield 115, 3) := by decide +kernel
theorem dX7_load_62 : decode cX7_load 62 = .ok (.ireturn, 1) := by decide +kernel
theorem dX7_face_0 : decode cX7_face 0 = .ok (.aload_n 0, 1) := by decide +kernel
theorem dX7_face_1 : decode cX7_face 1 = .ok (.getfield 22, 3) := by decide +kernel
theorem dX7_face_4 : decode cX7_face 4 = .ok (.iload_n 1, 1) := by decide +kernel
theorem dX7_face_5 : decode cX7_face 5 = .ok (.invokevirtual 98, 3) := by decide +kernel
theorem dX7_face_8 : decode cX7_face 8 = .ok (.ifCond .ne 5, 3) := by decide +kernel
theorem dX7_face_11 : decode cX7_face 11 = .ok (.iconst (-1), 1) := by decide +kernel
theorem dX7_face_12 : decode cX7_face 12 = .ok (.ireturn, 1) := by decide +kernel
theorem dX7_face_13 : decode cX7_face 13 = .ok (.iload_n 2, 1) := by decide +kernel
theorem dX7_face_14 : decode cX7_face 14 = .ok (.tableswitch 76 0 3 #[30, 40, 53, 63], 30) := by decide +kernel
theorem dX7_face_44 : decode cX7_face 44 = .ok (.aload_n 0, 1) := by decide +kernel
theorem dX7_face_45 : decode cX7_face 45 = .ok (.getfield 22, 3) := by decide +kernel
theorem dX7_face_48 : decode cX7_face 48 = .ok (.getfield 171, 3) := by decide +kernel
theorem dX7_face_51 : decode cX7_face 51 = .ok (.iload_n 1, 1) := by decide +kernel
theorem dX7_face_52 : decode cX7_face 52 = .ok (.iaload, 1) := by decide +kernel
theorem dX7_face_53 : decode cX7_face 53 = .ok (.ireturn, 1) := by decide +kernel
theorem dX7_face_54 : decode cX7_face 54 = .ok (.aload_n 0, 1) := by decide +kernel
theorem dX7_face_55 : decode cX7_face 55 = .ok (.getfield 22, 3) := by decide +kernel
theorem dX7_face_58 : decode cX7_face 58 = .ok (.getfield 173, 3) := by decide +kernel
theorem dX7_face_61 : decode cX7_face 61 = .ok (.iload_n 1, 1) := by decide +kernel
theorem dX7_face_62 : decode cX7_face 62 = .ok (.iaload, 1) := by decide +kernel
theorem dX7_face_63 : decode cX7_face 63 = .ok (.invokestatic 176, 3) := by decide +kernel
theorem dX7_face_66 : decode cX7_face 66 = .ok (.ireturn, 1) := by decide +kernel
theorem dX7_face_67 : decode cX7_face 67 = .ok (.aload_n 0, 1) := by decide +kernel
theorem dX7_face_68 : decode cX7_face 68 = .ok (.getfield 22, 3) := by decide +kernel
theorem dX7_face_71 : decode cX7_face 71 = .ok (.getfield 182, 3) := by decide +kernel
theorem dX7_face_74 : decode cX7_face 74 = .ok (.iload_n 1, 1) := by decide +kernel
theorem dX7_face_75 : decode cX7_face 75 = .ok (.iaload, 1) := by decide +kernel
theorem dX7_face_76 : decode cX7_face 76 = .ok (.ireturn, 1) := by decide +kernel
theorem dX7_face_77 : decode cX7_face 77 = .ok (.aload_n 0, 1) := by decide +kernel
theorem dX7_face_78 : decode cX7_face 78 = .ok (.getfield 22, 3) := by decide +kernel
theorem dX7_face_81 : decode cX7_face 81 = .ok (.aload_n 0, 1) := by decide +kernel
theorem dX7_face_82 : decode cX7_face 82 = .ok (.getfield 12, 3) := by decide +kernel
theorem dX7_face_85 : decode cX7_face 85 = .ok (.iload_n 1, 1) := by decide +kernel
theorem dX7_face_86 : decode cX7_face 86 = .ok (.invokevirtual 185, 3) := by decide +kernel
theorem dX7_face_89 : decode cX7_face 89 = .ok (.ireturn, 1) := by decide +kernel
theorem dX7_face_90 : decode cX7_face 90 = .ok (.iconst (-1), 1) := by decide +kernel
theorem dX7_face_91 : decode cX7_face 91 = .ok (.ireturn, 1) := by decide +kernel
theorem dX7_walk_0 : decode cX7_walk 0 = .ok (.aload_n 0, 1) := by decide +kernel
theorem dX7_walk_1 : decode cX7_walk 1 = .ok (.getfield 22, 3) := by decide +kernel
theorem dX7_walk_4 : decode cX7_walk 4 = .ok (.iload_n 1, 1) := by decide +kernel
theorem dX7_walk_5 : decode cX7_walk 5 = .ok (.invokevirtual 98, 3) := by decide +kernel
theorem dX7_walk_8 : decode cX7_walk 8 = .ok (.ifCond .eq 7, 3) := by decide +kernel
theorem dX7_walk_11 : decode cX7_walk 11 = .ok (.iload_n 2, 1) := by decide +kernel
theorem dX7_walk_12 : decode cX7_walk 12 = .ok (.ifCond .ge 5, 3) := by decide +kernel
theorem dX7_walk_15 : decode cX7_walk 15 = .ok (.iconst (-1), 1) := by decide +kernel
theorem dX7_walk_16 : decode cX7_walk 16 = .ok (.ireturn, 1) := by decide +kernel
theorem dX7_walk_17 : decode cX7_walk 17 = .ok (.iload_n 2, 1) := by decide +kernel
theorem dX7_walk_18 : decode cX7_walk 18 = .ok (.aload_n 0, 1) := by decide +kernel
theorem dX7_walk_19 : decode cX7_walk 19 = .ok (.getfield 22, 3) := by decide +kernel
theorem dX7_walk_22 : decode cX7_walk 22 = .ok (.getfield 171, 3) := by decide +kernel
theorem dX7_walk_25 : decode cX7_walk 25 = .ok (.iload_n 1, 1) := by decide +kernel
theorem dX7_walk_26 : decode cX7_walk 26 = .ok (.iaload, 1) := by decide +kernel
theorem dX7_walk_27 : decode cX7_walk 27 = .ok (.if_icmp .ge 15, 3) := by decide +kernel
theorem dX7_walk_30 : decode cX7_walk 30 = .ok (.aload_n 0, 1) := by decide +kernel
theorem dX7_walk_31 : decode cX7_walk 31 = .ok (.getfield 22, 3) := by decide +kernel
theorem dX7_walk_34 : decode cX7_walk 34 = .ok (.iload_n 1, 1) := by decide +kernel
theorem dX7_walk_35 : decode cX7_walk 35 = .ok (.iload_n 2, 1) := by decide +kernel
theorem dX7_walk_36 : decode cX7_walk 36 = .ok (.invokevirtual 189, 3) := by decide +kernel
theorem dX7_walk_39 : decode cX7_walk 39 = .ok (.goto 5, 3) := by decide +kernel
theorem dX7_walk_42 : decode cX7_walk 42 = .ok (.bipush (-9), 2) := by decide +kernel
theorem dX7_walk_44 : decode cX7_walk 44 = .ok (.ireturn, 1) := by decide +kernel
theorem dX7_faceOf_0 : decode cX7_faceOf 0 = .ok (.aload_n 0, 1) := by decide +kernel
theorem dX7_faceOf_1 : decode cX7_faceOf 1 = .ok (.getfield 12, 3) := by decide +kernel
theorem dX7_faceOf_4 : decode cX7_faceOf 4 = .ok (.iload_n 1, 1) := by decide +kernel
theorem dX7_faceOf_5 : decode cX7_faceOf 5 = .ok (.invokevirtual 192, 3) := by decide +kernel
theorem dX7_faceOf_8 : decode cX7_faceOf 8 = .ok (.ifCond .eq 15, 3) := by decide +kernel
theorem dX7_faceOf_11 : decode cX7_faceOf 11 = .ok (.aload_n 0, 1) := by decide +kernel
theorem dX7_faceOf_12 : decode cX7_faceOf 12 = .ok (.getfield 22, 3) := by decide +kernel
theorem dX7_faceOf_15 : decode cX7_faceOf 15 = .ok (.getfield 195, 3) := by decide +kernel
theorem dX7_faceOf_18 : decode cX7_faceOf 18 = .ok (.iload_n 1, 1) := by decide +kernel
theorem dX7_faceOf_19 : decode cX7_faceOf 19 = .ok (.iaload, 1) := by decide +kernel
theorem dX7_faceOf_20 : decode cX7_faceOf 20 = .ok (.goto 4, 3) := by decide +kernel
theorem dX7_faceOf_23 : decode cX7_faceOf 23 = .ok (.iconst (-1), 1) := by decide +kernel
theorem dX7_faceOf_24 : decode cX7_faceOf 24 = .ok (.ireturn, 1) := by decide +kernel
theorem dX7_commonFace_0 : decode cX7_commonFace 0 = .ok (.aload_n 0, 1) := by decide +kernel
theorem dX7_commonFace_1 : decode cX7_commonFace 1 = .ok (.iload_n 1, 1) := by decide +kernel
theorem dX7_commonFace_2 : decode cX7_commonFace 2 = .ok (.iload_n 2, 1) := by decide +kernel
theorem dX7_commonFace_3 : decode cX7_commonFace 3 = .ok (.invokevirtual 80, 3) := by decide +kernel
theorem dX7_commonFace_6 : decode cX7_commonFace 6 = .ok (.ifCond .ne 5, 3) := by decide +kernel
theorem dX7_commonFace_9 : decode cX7_commonFace 9 = .ok (.iconst (-1), 1) := by decide +kernel
theorem dX7_commonFace_10 : decode cX7_commonFace 10 = .ok (.ireturn, 1) := by decide +kernel
theorem dX7_commonFace_11 : decode cX7_commonFace 11 = .ok (.iconst 0, 1) := by decide +kernel
theorem dX7_commonFace_12 : decode cX7_commonFace 12 = .ok (.istore_n 3, 1) := by decide +kernel
theorem dX7_commonFace_13 : decode cX7_commonFace 13 = .ok (.iload_n 3, 1) := by decide +kernel
theorem dX7_commonFace_14 : decode cX7_commonFace 14 = .ok (.aload_n 0, 1) := by decide +kernel
theorem dX7_commonFace_15 : decode cX7_commonFace 15 = .ok (.getfield 22, 3) := by decide +kernel
theorem dX7_commonFace_18 : decode cX7_commonFace 18 = .ok (.getfield 134, 3) := by decide +kernel
theorem dX7_commonFace_21 : decode cX7_commonFace 21 = .ok (.if_icmp .ge 35, 3) := by decide +kernel
theorem dX7_commonFace_24 : decode cX7_commonFace 24 = .ok (.aload_n 0, 1) := by decide +kernel
theorem dX7_commonFace_25 : decode cX7_commonFace 25 = .ok (.getfield 22, 3) := by decide +kernel
theorem dX7_commonFace_28 : decode cX7_commonFace 28 = .ok (.iload_n 3, 1) := by decide +kernel
theorem dX7_commonFace_29 : decode cX7_commonFace 29 = .ok (.iload_n 1, 1) := by decide +kernel
theorem dX7_commonFace_30 : decode cX7_commonFace 30 = .ok (.invokevirtual 102, 3) := by decide +kernel
theorem dX7_commonFace_33 : decode cX7_commonFace 33 = .ok (.ifCond .eq 17, 3) := by decide +kernel
theorem dX7_commonFace_36 : decode cX7_commonFace 36 = .ok (.aload_n 0, 1) := by decide +kernel
theorem dX7_commonFace_37 : decode cX7_commonFace 37 = .ok (.getfield 22, 3) := by decide +kernel
theorem dX7_commonFace_40 : decode cX7_commonFace 40 = .ok (.iload_n 3, 1) := by decide +kernel
theorem dX7_commonFace_41 : decode cX7_commonFace 41 = .ok (.iload_n 2, 1) := by decide +kernel
theorem dX7_commonFace_42 : decode cX7_commonFace 42 = .ok (.invokevirtual 102, 3) := by decide +kernel
theorem dX7_commonFace_45 : decode cX7_commonFace 45 = .ok (.ifCond .eq 5, 3) := by decide +kernel
theorem dX7_commonFace_48 : decode cX7_commonFace 48 = .ok (.iload_n 3, 1) := by decide +kernel
theorem dX7_commonFace_49 : decode cX7_commonFace 49 = .ok (.ireturn, 1) := by decide +kernel
theorem dX7_commonFace_50 : decode cX7_commonFace 50 = .ok (.iinc 3 1, 3) := by decide +kernel
theorem dX7_commonFace_53 : decode cX7_commonFace 53 = .ok (.goto (-40), 3) := by decide +kernel
theorem dX7_commonFace_56 : decode cX7_commonFace 56 = .ok (.bipush (-9), 2) := by decide +kernel
theorem dX7_commonFace_58 : decode cX7_commonFace 58 = .ok (.ireturn, 1) := by decide +kernel
theorem dX7_isPlanar_0 : decode cX7_isPlanar 0 = .ok (.aload_n 0, 1) := by decide +kernel
theorem dX7_isPlanar_1 : decode cX7_isPlanar 1 = .ok (.getfield 12, 3) := by decide +kernel
theorem dX7_isPlanar_4 : decode cX7_isPlanar 4 = .ok (.aload_n 0, 1) := by decide +kernel
theorem dX7_isPlanar_5 : decode cX7_isPlanar 5 = .ok (.getfield 61, 3) := by decide +kernel
theorem dX7_isPlanar_8 : decode cX7_isPlanar 8 = .ok (.invokevirtual 198, 3) := by decide +kernel
theorem dX7_isPlanar_11 : decode cX7_isPlanar 11 = .ok (.aload_n 0, 1) := by decide +kernel
theorem dX7_isPlanar_12 : decode cX7_isPlanar 12 = .ok (.getfield 43, 3) := by decide +kernel
theorem dX7_isPlanar_15 : decode cX7_isPlanar 15 = .ok (.aload_n 0, 1) := by decide +kernel
theorem dX7_isPlanar_16 : decode cX7_isPlanar 16 = .ok (.getfield 61, 3) := by decide +kernel
theorem dX7_isPlanar_19 : decode cX7_isPlanar 19 = .ok (.invokevirtual 202, 3) := by decide +kernel
theorem dX7_isPlanar_22 : decode cX7_isPlanar 22 = .ok (.ifCond .eq 7, 3) := by decide +kernel
theorem dX7_isPlanar_25 : decode cX7_isPlanar 25 = .ok (.iconst 1, 1) := by decide +kernel
theorem dX7_isPlanar_26 : decode cX7_isPlanar 26 = .ok (.goto 4, 3) := by decide +kernel
theorem dX7_isPlanar_29 : decode cX7_isPlanar 29 = .ok (.iconst 0, 1) := by decide +kernel
theorem dX7_isPlanar_30 : decode cX7_isPlanar 30 = .ok (.ireturn, 1) := by decide +kernel
theorem dX7_canAdd_0 : decode cX7_canAdd 0 = .ok (.aload_n 0, 1) := by decide +kernel
theorem dX7_canAdd_1 : decode cX7_canAdd 1 = .ok (.iload_n 1, 1) := by decide +kernel
theorem dX7_canAdd_2 : decode cX7_canAdd 2 = .ok (.iload_n 2, 1) := by decide +kernel
theorem dX7_canAdd_3 : decode cX7_canAdd 3 = .ok (.invokevirtual 80, 3) := by decide +kernel
theorem dX7_canAdd_6 : decode cX7_canAdd 6 = .ok (.ifCond .ne 5, 3) := by decide +kernel
theorem dX7_canAdd_9 : decode cX7_canAdd 9 = .ok (.iconst (-1), 1) := by decide +kernel
theorem dX7_canAdd_10 : decode cX7_canAdd 10 = .ok (.ireturn, 1) := by decide +kernel
theorem dX7_canAdd_11 : decode cX7_canAdd 11 = .ok (.aload_n 0, 1) := by decide +kernel
theorem dX7_canAdd_12 : decode cX7_canAdd 12 = .ok (.getfield 12, 3) := by decide +kernel
theorem dX7_canAdd_15 : decode cX7_canAdd 15 = .ok (.iload_n 1, 1) := by decide +kernel
theorem dX7_canAdd_16 : decode cX7_canAdd 16 = .ok (.iload_n 2, 1) := by decide +kernel
theorem dX7_canAdd_17 : decode cX7_canAdd 17 = .ok (.invokevirtual 87, 3) := by decide +kernel
theorem dX7_canAdd_20 : decode cX7_canAdd 20 = .ok (.ifCond .eq 6, 3) := by decide +kernel
theorem dX7_canAdd_23 : decode cX7_canAdd 23 = .ok (.bipush (-2), 2) := by decide +kernel
theorem dX7_canAdd_25 : decode cX7_canAdd 25 = .ok (.ireturn, 1) := by decide +kernel
theorem dX7_canAdd_26 : decode cX7_canAdd 26 = .ok (.aload_n 0, 1) := by decide +kernel
theorem dX7_canAdd_27 : decode cX7_canAdd 27 = .ok (.getfield 12, 3) := by decide +kernel
theorem dX7_canAdd_30 : decode cX7_canAdd 30 = .ok (.aload_n 0, 1) := by decide +kernel
theorem dX7_canAdd_31 : decode cX7_canAdd 31 = .ok (.getfield 61, 3) := by decide +kernel
theorem dX7_canAdd_34 : decode cX7_canAdd 34 = .ok (.invokevirtual 198, 3) := by decide +kernel
theorem dX7_canAdd_37 : decode cX7_canAdd 37 = .ok (.aload_n 0, 1) := by decide +kernel
theorem dX7_canAdd_38 : decode cX7_canAdd 38 = .ok (.getfield 61, 3) := by decide +kernel
theorem dX7_canAdd_41 : decode cX7_canAdd 41 = .ok (.iload_n 1, 1) := by decide +kernel
theorem dX7_canAdd_42 : decode cX7_canAdd 42 = .ok (.iload_n 2, 1) := by decide +kernel
theorem dX7_canAdd_43 : decode cX7_canAdd 43 = .ok (.invokestatic 206, 3) := by decide +kernel
theorem dX7_canAdd_46 : decode cX7_canAdd 46 = .ok (.aload_n 0, 1) := by decide +kernel
theorem dX7_canAdd_47 : decode cX7_canAdd 47 = .ok (.getfield 43, 3) := by decide +kernel
theorem dX7_canAdd_50 : decode cX7_canAdd 50 = .ok (.aload_n 0, 1) := by decide +kernel
theorem dX7_canAdd_51 : decode cX7_canAdd 51 = .ok (.getfield 61, 3) := by decide +kernel
theorem dX7_canAdd_54 : decode cX7_canAdd 54 = .ok (.invokevirtual 202, 3) := by decide +kernel
theorem dX7_canAdd_57 : decode cX7_canAdd 57 = .ok (.ifCond .eq 7, 3) := by decide +kernel
theorem dX7_canAdd_60 : decode cX7_canAdd 60 = .ok (.iconst 1, 1) := by decide +kernel
theorem dX7_canAdd_61 : decode cX7_canAdd 61 = .ok (.goto 4, 3) := by decide +kernel
theorem dX7_canAdd_64 : decode cX7_canAdd 64 = .ok (.iconst 0, 1) := by decide +kernel
theorem dX7_canAdd_65 : decode cX7_canAdd 65 = .ok (.ireturn, 1) := by decide +kernel
theorem dX7_obstruction_0 : decode cX7_obstruction 0 = .ok (.aload_n 0, 1) := by decide +kernel
theorem dX7_obstruction_1 : decode cX7_obstruction 1 = .ok (.invokevirtual 210, 3) := by decide +kernel
theorem dX7_obstruction_4 : decode cX7_obstruction 4 = .ok (.ireturn, 1) := by decide +kernel
theorem dX7_branching_0 : decode cX7_branching 0 = .ok (.aload_n 0, 1) := by decide +kernel
theorem dX7_branching_1 : decode cX7_branching 1 = .ok (.invokevirtual 210, 3) := by decide +kernel
theorem dX7_branching_4 : decode cX7_branching 4 = .ok (.istore_n 1, 1) := by decide +kernel
theorem dX7_branching_5 : decode cX7_branching 5 = .ok (.iconst 0, 1) := by decide +kernel
theorem dX7_branching_6 : decode cX7_branching 6 = .ok (.istore_n 2, 1) := by decide +kernel
theorem dX7_branching_7 : decode cX7_branching 7 = .ok (.iconst 0, 1) := by decide +kernel
theorem dX7_branching_8 : decode cX7_branching 8 = .ok (.istore_n 3, 1) := by decide +kernel
theorem dX7_branching_9 : decode cX7_branching 9 = .ok (.iload_n 3, 1) := by decide +kernel
theorem dX7_branching_10 : decode cX7_branching 10 = .ok (.aload_n 0, 1) := by decide +kernel
theorem dX7_branching_11 : decode cX7_branching 11 = .ok (.getfield 12, 3) := by decide +kernel
theorem dX7_branching_14 : decode cX7_branching 14 = .ok (.getfield 65, 3) := by decide +kernel
theorem dX7_branching_17 : decode cX7_branching 17 = .ok (.if_icmp .ge 26, 3) := by decide +kernel
theorem dX7_branching_20 : decode cX7_branching 20 = .ok (.aload_n 0, 1) := by decide +kernel
theorem dX7_branching_21 : decode cX7_branching 21 = .ok (.iload_n 3, 1) := by decide +kernel
theorem dX7_branching_22 : decode cX7_branching 22 = .ok (.iload_n 1, 1) := by decide +kernel
theorem dX7_branching_23 : decode cX7_branching 23 = .ok (.invokevirtual 214, 3) := by decide +kernel
theorem dX7_branching_26 : decode cX7_branching 26 = .ok (.iconst 3, 1) := by decide +kernel
theorem dX7_branching_27 : decode cX7_branching 27 = .ok (.if_icmp .lt 10, 3) := by decide +kernel
theorem dX7_branching_30 : decode cX7_branching 30 = .ok (.iload_n 2, 1) := by decide +kernel
theorem dX7_branching_31 : decode cX7_branching 31 = .ok (.iload_n 3, 1) := by decide +kernel
theorem dX7_branching_32 : decode cX7_branching 32 = .ok (.invokestatic 217, 3) := by decide +kernel
theorem dX7_branching_35 : decode cX7_branching 35 = .ok (.ior, 1) := by decide +kernel
theorem dX7_branching_36 : decode cX7_branching 36 = .ok (.istore_n 2, 1) := by decide +kernel
theorem dX7_branching_37 : decode cX7_branching 37 = .ok (.iinc 3 1, 3) := by decide +kernel
theorem dX7_branching_40 : decode cX7_branching 40 = .ok (.goto (-31), 3) := by decide +kernel
theorem dX7_branching_43 : decode cX7_branching 43 = .ok (.iload_n 2, 1) := by decide +kernel
theorem dX7_branching_44 : decode cX7_branching 44 = .ok (.ireturn, 1) := by decide +kernel
theorem dX7_guiltyEdges_0 : decode cX7_guiltyEdges 0 = .ok (.aload_n 0, 1) := by decide +kernel
theorem dX7_guiltyEdges_1 : decode cX7_guiltyEdges 1 = .ok (.getfield 12, 3) := by decide +kernel
theorem dX7_guiltyEdges_4 : decode cX7_guiltyEdges 4 = .ok (.aload_n 0, 1) := by decide +kernel
theorem dX7_guiltyEdges_5 : decode cX7_guiltyEdges 5 = .ok (.getfield 61, 3) := by decide +kernel
theorem dX7_guiltyEdges_8 : decode cX7_guiltyEdges 8 = .ok (.invokevirtual 198, 3) := by decide +kernel
theorem dX7_guiltyEdges_11 : decode cX7_guiltyEdges 11 = .ok (.aload_n 0, 1) := by decide +kernel
theorem dX7_guiltyEdges_12 : decode cX7_guiltyEdges 12 = .ok (.getfield 43, 3) := by decide +kernel
theorem dX7_guiltyEdges_15 : decode cX7_guiltyEdges 15 = .ok (.aload_n 0, 1) := by decide +kernel
theorem dX7_guiltyEdges_16 : decode cX7_guiltyEdges 16 = .ok (.getfield 61, 3) := by decide +kernel
theorem dX7_guiltyEdges_19 : decode cX7_guiltyEdges 19 = .ok (.invokevirtual 202, 3) := by decide +kernel
theorem dX7_guiltyEdges_22 : decode cX7_guiltyEdges 22 = .ok (.ifCond .eq 6, 3) := by decide +kernel
theorem dX7_guiltyEdges_25 : decode cX7_guiltyEdges 25 = .ok (.bipush (-9), 2) := by decide +kernel
theorem dX7_guiltyEdges_27 : decode cX7_guiltyEdges 27 = .ok (.ireturn, 1) := by decide +kernel
theorem dX7_guiltyEdges_28 : decode cX7_guiltyEdges 28 = .ok (.iconst 0, 1) := by decide +kernel
theorem dX7_guiltyEdges_29 : decode cX7_guiltyEdges 29 = .ok (.istore_n 1, 1) := by decide +kernel
theorem dX7_guiltyEdges_30 : decode cX7_guiltyEdges 30 = .ok (.iconst 0, 1) := by decide +kernel
theorem dX7_guiltyEdges_31 : decode cX7_guiltyEdges 31 = .ok (.istore_n 2, 1) := by decide +kernel
theorem dX7_guiltyEdges_32 : decode cX7_guiltyEdges 32 = .ok (.iload_n 2, 1) := by decide +kernel
theorem dX7_guiltyEdges_33 : decode cX7_guiltyEdges 33 = .ok (.aload_n 0, 1) := by decide +kernel
theorem dX7_guiltyEdges_34 : decode cX7_guiltyEdges 34 = .ok (.getfield 12, 3) := by decide +kernel
theorem dX7_guiltyEdges_37 : decode cX7_guiltyEdges 37 = .ok (.getfield 115, 3) := by decide +kernel
theorem dX7_guiltyEdges_40 : decode cX7_guiltyEdges 40 = .ok (.if_icmp .ge 76, 3) := by decide +kernel
theorem dX7_guiltyEdges_43 : decode cX7_guiltyEdges 43 = .ok (.aload_n 0, 1) := by decide +kernel
theorem dX7_guiltyEdges_44 : decode cX7_guiltyEdges 44 = .ok (.getfield 61, 3) := by decide +kernel
theorem dX7_guiltyEdges_47 : decode cX7_guiltyEdges 47 = .ok (.aload_n 0, 1) := by decide +kernel
theorem dX7_guiltyEdges_48 : decode cX7_guiltyEdges 48 = .ok (.getfield 12, 3) := by decide +kernel
theorem dX7_guiltyEdges_51 : decode cX7_guiltyEdges 51 = .ok (.getfield 143, 3) := by decide +kernel
theorem dX7_guiltyEdges_54 : decode cX7_guiltyEdges 54 = .ok (.iload_n 2, 1) := by decide +kernel
theorem dX7_guiltyEdges_55 : decode cX7_guiltyEdges 55 = .ok (.iaload, 1) := by decide +kernel
theorem dX7_guiltyEdges_56 : decode cX7_guiltyEdges 56 = .ok (.aload_n 0, 1) := by decide +kernel
theorem dX7_guiltyEdges_57 : decode cX7_guiltyEdges 57 = .ok (.getfield 12, 3) := by decide +kernel
theorem dX7_guiltyEdges_60 : decode cX7_guiltyEdges 60 = .ok (.getfield 146, 3) := by decide +kernel
theorem dX7_guiltyEdges_63 : decode cX7_guiltyEdges 63 = .ok (.iload_n 2, 1) := by decide +kernel
theorem dX7_guiltyEdges_64 : decode cX7_guiltyEdges 64 = .ok (.iaload, 1) := by decide +kernel
theorem dX7_guiltyEdges_65 : decode cX7_guiltyEdges 65 = .ok (.invokestatic 206, 3) := by decide +kernel
theorem dX7_guiltyEdges_68 : decode cX7_guiltyEdges 68 = .ok (.aload_n 0, 1) := by decide +kernel
theorem dX7_guiltyEdges_69 : decode cX7_guiltyEdges 69 = .ok (.getfield 43, 3) := by decide +kernel
theorem dX7_guiltyEdges_72 : decode cX7_guiltyEdges 72 = .ok (.aload_n 0, 1) := by decide +kernel
theorem dX7_guiltyEdges_73 : decode cX7_guiltyEdges 73 = .ok (.getfield 61, 3) := by decide +kernel
theorem dX7_guiltyEdges_76 : decode cX7_guiltyEdges 76 = .ok (.invokevirtual 202, 3) := by decide +kernel
theorem dX7_guiltyEdges_79 : decode cX7_guiltyEdges 79 = .ok (.ifCond .eq 6, 3) := by decide +kernel
theorem dX7_guiltyEdges_82 : decode cX7_guiltyEdges 82 = .ok (.iinc 1 1, 3) := by decide +kernel
theorem dX7_guiltyEdges_85 : decode cX7_guiltyEdges 85 = .ok (.aload_n 0, 1) := by decide +kernel
theorem dX7_guiltyEdges_86 : decode cX7_guiltyEdges 86 = .ok (.getfield 61, 3) := by decide +kernel
theorem dX7_guiltyEdges_89 : decode cX7_guiltyEdges 89 = .ok (.aload_n 0, 1) := by decide +kernel
theorem dX7_guiltyEdges_90 : decode cX7_guiltyEdges 90 = .ok (.getfield 12, 3) := by decide +kernel
theorem dX7_guiltyEdges_93 : decode cX7_guiltyEdges 93 = .ok (.getfield 143, 3) := by decide +kernel
theorem dX7_guiltyEdges_96 : decode cX7_guiltyEdges 96 = .ok (.iload_n 2, 1) := by decide +kernel
theorem dX7_guiltyEdges_97 : decode cX7_guiltyEdges 97 = .ok (.iaload, 1) := by decide +kernel
theorem dX7_guiltyEdges_98 : decode cX7_guiltyEdges 98 = .ok (.aload_n 0, 1) := by decide +kernel
theorem dX7_guiltyEdges_99 : decode cX7_guiltyEdges 99 = .ok (.getfield 12, 3) := by decide +kernel
theorem dX7_guiltyEdges_102 : decode cX7_guiltyEdges 102 = .ok (.getfield 146, 3) := by decide +kernel
theorem dX7_guiltyEdges_105 : decode cX7_guiltyEdges 105 = .ok (.iload_n 2, 1) := by decide +kernel
theorem dX7_guiltyEdges_106 : decode cX7_guiltyEdges 106 = .ok (.iaload, 1) := by decide +kernel
theorem dX7_guiltyEdges_107 : decode cX7_guiltyEdges 107 = .ok (.invokestatic 206, 3) := by decide +kernel
theorem dX7_guiltyEdges_110 : decode cX7_guiltyEdges 110 = .ok (.iinc 2 1, 3) := by decide +kernel
theorem dX7_guiltyEdges_113 : decode cX7_guiltyEdges 113 = .ok (.goto (-81), 3) := by decide +kernel
theorem dX7_guiltyEdges_116 : decode cX7_guiltyEdges 116 = .ok (.iload_n 1, 1) := by decide +kernel
theorem dX7_guiltyEdges_117 : decode cX7_guiltyEdges 117 = .ok (.ireturn, 1) := by decide +kernel
theorem dX7_insertionCost_0 : decode cX7_insertionCost 0 = .ok (.aload_n 0, 1) := by decide +kernel
theorem dX7_insertionCost_1 : decode cX7_insertionCost 1 = .ok (.iload_n 1, 1) := by decide +kernel
theorem dX7_insertionCost_2 : decode cX7_insertionCost 2 = .ok (.iload_n 2, 1) := by decide +kernel
theorem dX7_insertionCost_3 : decode cX7_insertionCost 3 = .ok (.invokevirtual 80, 3) := by decide +kernel
theorem dX7_insertionCost_6 : decode cX7_insertionCost 6 = .ok (.ifCond .ne 5, 3) := by decide +kernel
theorem dX7_insertionCost_9 : decode cX7_insertionCost 9 = .ok (.iconst (-1), 1) := by decide +kernel
theorem dX7_insertionCost_10 : decode cX7_insertionCost 10 = .ok (.ireturn, 1) := by decide +kernel
theorem dX7_insertionCost_11 : decode cX7_insertionCost 11 = .ok (.aload_n 0, 1) := by decide +kernel
theorem dX7_insertionCost_12 : decode cX7_insertionCost 12 = .ok (.iload_n 1, 1) := by decide +kernel
theorem dX7_insertionCost_13 : decode cX7_insertionCost 13 = .ok (.iload_n 2, 1) := by decide +kernel
theorem dX7_insertionCost_14 : decode cX7_insertionCost 14 = .ok (.invokevirtual 220, 3) := by decide +kernel
theorem dX7_insertionCost_17 : decode cX7_insertionCost 17 = .ok (.ifCond .ne 6, 3) := by decide +kernel
theorem dX7_insertionCost_20 : decode cX7_insertionCost 20 = .ok (.bipush (-2), 2) := by decide +kernel
theorem dX7_insertionCost_22 : decode cX7_insertionCost 22 = .ok (.ireturn, 1) := by decide +kernel
theorem dX7_insertionCost_23 : decode cX7_insertionCost 23 = .ok (.aload_n 0, 1) := by decide +kernel
theorem dX7_insertionCost_24 : decode cX7_insertionCost 24 = .ok (.getfield 50, 3) := by decide +kernel
theorem dX7_insertionCost_27 : decode cX7_insertionCost 27 = .ok (.aload_n 0, 1) := by decide +kernel
theorem dX7_insertionCost_28 : decode cX7_insertionCost 28 = .ok (.getfield 12, 3) := by decide +kernel
theorem dX7_insertionCost_31 : decode cX7_insertionCost 31 = .ok (.aload_n 0, 1) := by decide +kernel
theorem dX7_insertionCost_32 : decode cX7_insertionCost 32 = .ok (.getfield 22, 3) := by decide +kernel
theorem dX7_insertionCost_35 : decode cX7_insertionCost 35 = .ok (.iload_n 1, 1) := by decide +kernel
theorem dX7_insertionCost_36 : decode cX7_insertionCost 36 = .ok (.iload_n 2, 1) := by decide +kernel
theorem dX7_insertionCost_37 : decode cX7_insertionCost 37 = .ok (.invokevirtual 223, 3) := by decide +kernel
theorem dX7_insertionCost_40 : decode cX7_insertionCost 40 = .ok (.aload_n 0, 1) := by decide +kernel
theorem dX7_insertionCost_41 : decode cX7_insertionCost 41 = .ok (.getfield 50, 3) := by decide +kernel
theorem dX7_insertionCost_44 : decode cX7_insertionCost 44 = .ok (.getfield 227, 3) := by decide +kernel
theorem dX7_insertionCost_47 : decode cX7_insertionCost 47 = .ok (.ireturn, 1) := by decide +kernel
theorem dX7_crossed_0 : decode cX7_crossed 0 = .ok (.aload_n 0, 1) := by decide +kernel
theorem dX7_crossed_1 : decode cX7_crossed 1 = .ok (.iload_n 1, 1) := by decide +kernel
theorem dX7_crossed_2 : decode cX7_crossed 2 = .ok (.iload_n 2, 1) := by decide +kernel
theorem dX7_crossed_3 : decode cX7_crossed 3 = .ok (.invokevirtual 80, 3) := by decide +kernel
theorem dX7_crossed_6 : decode cX7_crossed 6 = .ok (.ifCond .eq 7, 3) := by decide +kernel
theorem dX7_crossed_9 : decode cX7_crossed 9 = .ok (.iload_n 3, 1) := by decide +kernel
theorem dX7_crossed_10 : decode cX7_crossed 10 = .ok (.ifCond .ge 5, 3) := by decide +kernel
theorem dX7_crossed_13 : decode cX7_crossed 13 = .ok (.iconst (-1), 1) := by decide +kernel
theorem dX7_crossed_14 : decode cX7_crossed 14 = .ok (.ireturn, 1) := by decide +kernel
theorem dX7_crossed_15 : decode cX7_crossed 15 = .ok (.aload_n 0, 1) := by decide +kernel
theorem dX7_crossed_16 : decode cX7_crossed 16 = .ok (.iload_n 1, 1) := by decide +kernel
theorem dX7_crossed_17 : decode cX7_crossed 17 = .ok (.iload_n 2, 1) := by decide +kernel
theorem dX7_crossed_18 : decode cX7_crossed 18 = .ok (.invokevirtual 220, 3) := by decide +kernel
theorem dX7_crossed_21 : decode cX7_crossed 21 = .ok (.ifCond .ne 6, 3) := by decide +kernel
theorem dX7_crossed_24 : decode cX7_crossed 24 = .ok (.bipush (-2), 2) := by decide +kernel
theorem dX7_crossed_26 : decode cX7_crossed 26 = .ok (.ireturn, 1) := by decide +kernel
theorem dX7_crossed_27 : decode cX7_crossed 27 = .ok (.aload_n 0, 1) := by decide +kernel
theorem dX7_crossed_28 : decode cX7_crossed 28 = .ok (.getfield 50, 3) := by decide +kernel
theorem dX7_crossed_31 : decode cX7_crossed 31 = .ok (.aload_n 0, 1) := by decide +kernel
theorem dX7_crossed_32 : decode cX7_crossed 32 = .ok (.getfield 12, 3) := by decide +kernel
theorem dX7_crossed_35 : decode cX7_crossed 35 = .ok (.aload_n 0, 1) := by decide +kernel
theorem dX7_crossed_36 : decode cX7_crossed 36 = .ok (.getfield 22, 3) := by decide +kernel
theorem dX7_crossed_39 : decode cX7_crossed 39 = .ok (.iload_n 1, 1) := by decide +kernel
theorem dX7_crossed_40 : decode cX7_crossed 40 = .ok (.iload_n 2, 1) := by decide +kernel
theorem dX7_crossed_41 : decode cX7_crossed 41 = .ok (.invokevirtual 223, 3) := by decide +kernel
theorem dX7_crossed_44 : decode cX7_crossed 44 = .ok (.iload_n 3, 1) := by decide +kernel
theorem dX7_crossed_45 : decode cX7_crossed 45 = .ok (.aload_n 0, 1) := by decide +kernel
theorem dX7_crossed_46 : decode cX7_crossed 46 = .ok (.getfield 50, 3) := by decide +kernel
theorem dX7_crossed_49 : decode cX7_crossed 49 = .ok (.getfield 227, 3) := by decide +kernel
theorem dX7_crossed_52 : decode cX7_crossed 52 = .ok (.if_icmp .ge 15, 3) := by decide +kernel
theorem dX7_crossed_55 : decode cX7_crossed 55 = .ok (.aload_n 0, 1) := by decide +kernel
theorem dX7_crossed_56 : decode cX7_crossed 56 = .ok (.getfield 50, 3) := by decide +kernel
theorem dX7_crossed_59 : decode cX7_crossed 59 = .ok (.getfield 230, 3) := by decide +kernel
theorem dX7_crossed_62 : decode cX7_crossed 62 = .ok (.iload_n 3, 1) := by decide +kernel
theorem dX7_crossed_63 : decode cX7_crossed 63 = .ok (.iaload, 1) := by decide +kernel
theorem dX7_crossed_64 : decode cX7_crossed 64 = .ok (.goto 5, 3) := by decide +kernel
theorem dX7_crossed_67 : decode cX7_crossed 67 = .ok (.bipush (-9), 2) := by decide +kernel
theorem dX7_crossed_69 : decode cX7_crossed 69 = .ok (.ireturn, 1) := by decide +kernel
theorem dX7_setOuter_0 : decode cX7_setOuter 0 = .ok (.aload_n 0, 1) := by decide +kernel
theorem dX7_setOuter_1 : decode cX7_setOuter 1 = .ok (.getfield 22, 3) := by decide +kernel
theorem dX7_setOuter_4 : decode cX7_setOuter 4 = .ok (.iload_n 1, 1) := by decide +kernel
theorem dX7_setOuter_5 : decode cX7_setOuter 5 = .ok (.invokevirtual 98, 3) := by decide +kernel
theorem dX7_setOuter_8 : decode cX7_setOuter 8 = .ok (.ifCond .ne 5, 3) := by decide +kernel
theorem dX7_setOuter_11 : decode cX7_setOuter 11 = .ok (.iconst (-1), 1) := by decide +kernel
theorem dX7_setOuter_12 : decode cX7_setOuter 12 = .ok (.ireturn, 1) := by decide +kernel
theorem dX7_setOuter_13 : decode cX7_setOuter 13 = .ok (.aload_n 0, 1) := by decide +kernel
theorem dX7_setOuter_14 : decode cX7_setOuter 14 = .ok (.getfield 12, 3) := by decide +kernel
theorem dX7_setOuter_17 : decode cX7_setOuter 17 = .ok (.getfield 152, 3) := by decide +kernel
theorem dX7_setOuter_20 : decode cX7_setOuter 20 = .ok (.istore_n 2, 1) := by decide +kernel
theorem dX7_setOuter_21 : decode cX7_setOuter 21 = .ok (.aload_n 0, 1) := by decide +kernel
theorem dX7_setOuter_22 : decode cX7_setOuter 22 = .ok (.getfield 29, 3) := by decide +kernel
theorem dX7_setOuter_25 : decode cX7_setOuter 25 = .ok (.aload_n 0, 1) := by decide +kernel
theorem dX7_setOuter_26 : decode cX7_setOuter 26 = .ok (.getfield 12, 3) := by decide +kernel
theorem dX7_setOuter_29 : decode cX7_setOuter 29 = .ok (.invokevirtual 69, 3) := by decide +kernel
theorem dX7_setOuter_32 : decode cX7_setOuter 32 = .ok (.aload_n 0, 1) := by decide +kernel
theorem dX7_setOuter_33 : decode cX7_setOuter 33 = .ok (.getfield 12, 3) := by decide +kernel
theorem dX7_setOuter_36 : decode cX7_setOuter 36 = .ok (.iload_n 1, 1) := by decide +kernel
theorem dX7_setOuter_37 : decode cX7_setOuter 37 = .ok (.putfield 152, 3) := by decide +kernel
theorem dX7_setOuter_40 : decode cX7_setOuter 40 = .ok (.iload_n 2, 1) := by decide +kernel
theorem dX7_setOuter_41 : decode cX7_setOuter 41 = .ok (.ireturn, 1) := by decide +kernel
theorem dX7_depth_0 : decode cX7_depth 0 = .ok (.aload_n 0, 1) := by decide +kernel
theorem dX7_depth_1 : decode cX7_depth 1 = .ok (.getfield 12, 3) := by decide +kernel
theorem dX7_depth_4 : decode cX7_depth 4 = .ok (.iload_n 1, 1) := by decide +kernel
theorem dX7_depth_5 : decode cX7_depth 5 = .ok (.invokevirtual 118, 3) := by decide +kernel
theorem dX7_depth_8 : decode cX7_depth 8 = .ok (.ifCond .ne 5, 3) := by decide +kernel
theorem dX7_depth_11 : decode cX7_depth 11 = .ok (.iconst (-1), 1) := by decide +kernel
theorem dX7_depth_12 : decode cX7_depth 12 = .ok (.ireturn, 1) := by decide +kernel
theorem dX7_depth_13 : decode cX7_depth 13 = .ok (.aload_n 0, 1) := by decide +kernel
theorem dX7_depth_14 : decode cX7_depth 14 = .ok (.getfield 22, 3) := by decide +kernel
theorem dX7_depth_17 : decode cX7_depth 17 = .ok (.aload_n 0, 1) := by decide +kernel
theorem dX7_depth_18 : decode cX7_depth 18 = .ok (.getfield 12, 3) := by decide +kernel
theorem dX7_depth_21 : decode cX7_depth 21 = .ok (.getfield 152, 3) := by decide +kernel
theorem dX7_depth_24 : decode cX7_depth 24 = .ok (.invokevirtual 98, 3) := by decide +kernel
theorem dX7_depth_27 : decode cX7_depth 27 = .ok (.ifCond .eq 21, 3) := by decide +kernel
theorem dX7_depth_30 : decode cX7_depth 30 = .ok (.aload_n 0, 1) := by decide +kernel
theorem dX7_depth_31 : decode cX7_depth 31 = .ok (.getfield 22, 3) := by decide +kernel
theorem dX7_depth_34 : decode cX7_depth 34 = .ok (.getfield 173, 3) := by decide +kernel
theorem dX7_depth_37 : decode cX7_depth 37 = .ok (.aload_n 0, 1) := by decide +kernel
theorem dX7_depth_38 : decode cX7_depth 38 = .ok (.getfield 12, 3) := by decide +kernel
theorem dX7_depth_41 : decode cX7_depth 41 = .ok (.getfield 152, 3) := by decide +kernel
theorem dX7_depth_44 : decode cX7_depth 44 = .ok (.iaload, 1) := by decide +kernel
theorem dX7_depth_45 : decode cX7_depth 45 = .ok (.goto 4, 3) := by decide +kernel
theorem dX7_depth_48 : decode cX7_depth 48 = .ok (.iconst 0, 1) := by decide +kernel
theorem dX7_depth_49 : decode cX7_depth 49 = .ok (.istore_n 2, 1) := by decide +kernel
theorem dX7_depth_50 : decode cX7_depth 50 = .ok (.iconst 0, 1) := by decide +kernel
theorem dX7_depth_51 : decode cX7_depth 51 = .ok (.istore_n 3, 1) := by decide +kernel
theorem dX7_depth_52 : decode cX7_depth 52 = .ok (.iload_n 3, 1) := by decide +kernel
theorem dX7_depth_53 : decode cX7_depth 53 = .ok (.bipush 9, 2) := by decide +kernel
theorem dX7_depth_55 : decode cX7_depth 55 = .ok (.if_icmp .ge 28, 3) := by decide +kernel
theorem dX7_depth_58 : decode cX7_depth 58 = .ok (.iload_n 2, 1) := by decide +kernel
theorem dX7_depth_59 : decode cX7_depth 59 = .ok (.iload_n 1, 1) := by decide +kernel
theorem dX7_depth_60 : decode cX7_depth 60 = .ok (.invokestatic 233, 3) := by decide +kernel
theorem dX7_depth_63 : decode cX7_depth 63 = .ok (.ifCond .eq 5, 3) := by decide +kernel
theorem dX7_depth_66 : decode cX7_depth 66 = .ok (.iload_n 3, 1) := by decide +kernel
theorem dX7_depth_67 : decode cX7_depth 67 = .ok (.ireturn, 1) := by decide +kernel
theorem dX7_depth_68 : decode cX7_depth 68 = .ok (.aload_n 0, 1) := by decide +kernel
theorem dX7_depth_69 : decode cX7_depth 69 = .ok (.getfield 22, 3) := by decide +kernel
theorem dX7_depth_72 : decode cX7_depth 72 = .ok (.iload_n 2, 1) := by decide +kernel
theorem dX7_depth_73 : decode cX7_depth 73 = .ok (.invokevirtual 236, 3) := by decide +kernel
theorem dX7_depth_76 : decode cX7_depth 76 = .ok (.istore_n 2, 1) := by decide +kernel
theorem dX7_depth_77 : decode cX7_depth 77 = .ok (.iinc 3 1, 3) := by decide +kernel
theorem dX7_depth_80 : decode cX7_depth 80 = .ok (.goto (-28), 3) := by decide +kernel
theorem dX7_depth_83 : decode cX7_depth 83 = .ok (.bipush (-9), 2) := by decide +kernel
theorem dX7_depth_85 : decode cX7_depth 85 = .ok (.ireturn, 1) := by decide +kernel
theorem dX7_position_0 : decode cX7_position 0 = .ok (.aload_n 0, 1) := by decide +kernel
theorem dX7_position_1 : decode cX7_position 1 = .ok (.getfield 12, 3) := by decide +kernel
theorem dX7_position_4 : decode cX7_position 4 = .ok (.iload_n 1, 1) := by decide +kernel
theorem dX7_position_5 : decode cX7_position 5 = .ok (.invokevirtual 118, 3) := by decide +kernel
theorem dX7_position_8 : decode cX7_position 8 = .ok (.ifCond .eq 19, 3) := by decide +kernel
theorem dX7_position_11 : decode cX7_position 11 = .ok (.iload_n 2, 1) := by decide +kernel
theorem dX7_position_12 : decode cX7_position 12 = .ok (.ifCond .lt 15, 3) := by decide +kernel
theorem dX7_position_15 : decode cX7_position 15 = .ok (.iload_n 2, 1) := by decide +kernel
theorem dX7_position_16 : decode cX7_position 16 = .ok (.iconst 1, 1) := by decide +kernel
theorem dX7_position_17 : decode cX7_position 17 = .ok (.if_icmp .gt 10, 3) := by decide +kernel
theorem dX7_position_20 : decode cX7_position 20 = .ok (.iload_n 3, 1) := by decide +kernel
theorem dX7_position_21 : decode cX7_position 21 = .ok (.invokestatic 239, 3) := by decide +kernel
theorem dX7_position_24 : decode cX7_position 24 = .ok (.ifCond .ne 5, 3) := by decide +kernel
theorem dX7_position_27 : decode cX7_position 27 = .ok (.iconst (-1), 1) := by decide +kernel
theorem dX7_position_28 : decode cX7_position 28 = .ok (.ireturn, 1) := by decide +kernel
theorem dX7_position_29 : decode cX7_position 29 = .ok (.aload_n 0, 1) := by decide +kernel
theorem dX7_position_30 : decode cX7_position 30 = .ok (.getfield 12, 3) := by decide +kernel
theorem dX7_position_33 : decode cX7_position 33 = .ok (.getfield 115, 3) := by decide +kernel
theorem dX7_position_36 : decode cX7_position 36 = .ok (.ifCond .ne 6, 3) := by decide +kernel
theorem dX7_position_39 : decode cX7_position 39 = .ok (.bipush (-2), 2) := by decide +kernel
theorem dX7_position_41 : decode cX7_position 41 = .ok (.ireturn, 1) := by decide +kernel
theorem dX7_position_42 : decode cX7_position 42 = .ok (.aload_n 0, 1) := by decide +kernel
theorem dX7_position_43 : decode cX7_position 43 = .ok (.getfield 57, 3) := by decide +kernel
theorem dX7_position_46 : decode cX7_position 46 = .ok (.aload_n 0, 1) := by decide +kernel
theorem dX7_position_47 : decode cX7_position 47 = .ok (.getfield 12, 3) := by decide +kernel
theorem dX7_position_50 : decode cX7_position 50 = .ok (.aload_n 0, 1) := by decide +kernel
theorem dX7_position_51 : decode cX7_position 51 = .ok (.getfield 22, 3) := by decide +kernel
theorem dX7_position_54 : decode cX7_position 54 = .ok (.iload_n 3, 1) := by decide +kernel
theorem dX7_position_55 : decode cX7_position 55 = .ok (.invokevirtual 242, 3) := by decide +kernel
theorem dX7_position_58 : decode cX7_position 58 = .ok (.iload_n 2, 1) := by decide +kernel
theorem dX7_position_59 : decode cX7_position 59 = .ok (.ifCond .ne 15, 3) := by decide +kernel
theorem dX7_position_62 : decode cX7_position 62 = .ok (.aload_n 0, 1) := by decide +kernel
theorem dX7_position_63 : decode cX7_position 63 = .ok (.getfield 57, 3) := by decide +kernel
theorem dX7_position_66 : decode cX7_position 66 = .ok (.getfield 246, 3) := by decide +kernel
theorem dX7_position_69 : decode cX7_position 69 = .ok (.iload_n 1, 1) := by decide +kernel
theorem dX7_position_70 : decode cX7_position 70 = .ok (.faload, 1) := by decide +kernel
theorem dX7_position_71 : decode cX7_position 71 = .ok (.goto 12, 3) := by decide +kernel
theorem dX7_position_74 : decode cX7_position 74 = .ok (.aload_n 0, 1) := by decide +kernel
theorem dX7_position_75 : decode cX7_position 75 = .ok (.getfield 57, 3) := by decide +kernel
theorem dX7_position_78 : decode cX7_position 78 = .ok (.getfield 250, 3) := by decide +kernel
theorem dX7_position_81 : decode cX7_position 81 = .ok (.iload_n 1, 1) := by decide +kernel
theorem dX7_position_82 : decode cX7_position 82 = .ok (.faload, 1) := by decide +kernel
theorem dX7_position_83 : decode cX7_position 83 = .ok (.invokestatic 253, 3) := by decide +kernel
theorem dX7_position_86 : decode cX7_position 86 = .ok (.ireturn, 1) := by decide +kernel
theorem dX7_crossings_0 : decode cX7_crossings 0 = .ok (.iload_n 1, 1) := by decide +kernel
theorem dX7_crossings_1 : decode cX7_crossings 1 = .ok (.invokestatic 239, 3) := by decide +kernel
theorem dX7_crossings_4 : decode cX7_crossings 4 = .ok (.ifCond .ne 5, 3) := by decide +kernel
theorem dX7_crossings_7 : decode cX7_crossings 7 = .ok (.iconst (-1), 1) := by decide +kernel
theorem dX7_crossings_8 : decode cX7_crossings 8 = .ok (.ireturn, 1) := by decide +kernel
theorem dX7_crossings_9 : decode cX7_crossings 9 = .ok (.aload_n 0, 1) := by decide +kernel
theorem dX7_crossings_10 : decode cX7_crossings 10 = .ok (.getfield 12, 3) := by decide +kernel
theorem dX7_crossings_13 : decode cX7_crossings 13 = .ok (.getfield 115, 3) := by decide +kernel
theorem dX7_crossings_16 : decode cX7_crossings 16 = .ok (.ifCond .ne 6, 3) := by decide +kernel
theorem dX7_crossings_19 : decode cX7_crossings 19 = .ok (.bipush (-2), 2) := by decide +kernel
theorem dX7_crossings_21 : decode cX7_crossings 21 = .ok (.ireturn, 1) := by decide +kernel
theorem dX7_crossings_22 : decode cX7_crossings 22 = .ok (.aload_n 0, 1) := by decide +kernel
theorem dX7_crossings_23 : decode cX7_crossings 23 = .ok (.getfield 57, 3) := by decide +kernel
theorem dX7_crossings_26 : decode cX7_crossings 26 = .ok (.aload_n 0, 1) := by decide +kernel
theorem dX7_crossings_27 : decode cX7_crossings 27 = .ok (.getfield 12, 3) := by decide +kernel
theorem dX7_crossings_30 : decode cX7_crossings 30 = .ok (.aload_n 0, 1) := by decide +kernel
theorem dX7_crossings_31 : decode cX7_crossings 31 = .ok (.getfield 22, 3) := by decide +kernel
theorem dX7_crossings_34 : decode cX7_crossings 34 = .ok (.iload_n 1, 1) := by decide +kernel
theorem dX7_crossings_35 : decode cX7_crossings 35 = .ok (.invokevirtual 242, 3) := by decide +kernel
theorem dX7_crossings_38 : decode cX7_crossings 38 = .ok (.aload_n 0, 1) := by decide +kernel
theorem dX7_crossings_39 : decode cX7_crossings 39 = .ok (.getfield 57, 3) := by decide +kernel
theorem dX7_crossings_42 : decode cX7_crossings 42 = .ok (.aload_n 0, 1) := by decide +kernel
theorem dX7_crossings_43 : decode cX7_crossings 43 = .ok (.getfield 12, 3) := by decide +kernel
theorem dX7_crossings_46 : decode cX7_crossings 46 = .ok (.invokevirtual 257, 3) := by decide +kernel
theorem dX7_crossings_49 : decode cX7_crossings 49 = .ok (.ireturn, 1) := by decide +kernel
theorem dX7_extent_0 : decode cX7_extent 0 = .ok (.iload_n 1, 1) := by decide +kernel
theorem dX7_extent_1 : decode cX7_extent 1 = .ok (.invokestatic 239, 3) := by decide +kernel
theorem dX7_extent_4 : decode cX7_extent 4 = .ok (.ifCond .ne 5, 3) := by decide +kernel
theorem dX7_extent_7 : decode cX7_extent 7 = .ok (.iconst (-1), 1) := by decide +kernel
theorem dX7_extent_8 : decode cX7_extent 8 = .ok (.ireturn, 1) := by decide +kernel
theorem dX7_extent_9 : decode cX7_extent 9 = .ok (.aload_n 0, 1) := by decide +kernel
theorem dX7_extent_10 : decode cX7_extent 10 = .ok (.getfield 12, 3) := by decide +kernel
theorem dX7_extent_13 : decode cX7_extent 13 = .ok (.getfield 115, 3) := by decide +kernel
theorem dX7_extent_16 : decode cX7_extent 16 = .ok (.ifCond .ne 6, 3) := by decide +kernel
theorem dX7_extent_19 : decode cX7_extent 19 = .ok (.bipush (-2), 2) := by decide +kernel
theorem dX7_extent_21 : decode cX7_extent 21 = .ok (.ireturn, 1) := by decide +kernel
theorem dX7_extent_22 : decode cX7_extent 22 = .ok (.aload_n 0, 1) := by decide +kernel
theorem dX7_extent_23 : decode cX7_extent 23 = .ok (.getfield 57, 3) := by decide +kernel
theorem dX7_extent_26 : decode cX7_extent 26 = .ok (.aload_n 0, 1) := by decide +kernel
theorem dX7_extent_27 : decode cX7_extent 27 = .ok (.getfield 12, 3) := by decide +kernel
theorem dX7_extent_30 : decode cX7_extent 30 = .ok (.aload_n 0, 1) := by decide +kernel
theorem dX7_extent_31 : decode cX7_extent 31 = .ok (.getfield 22, 3) := by decide +kernel
theorem dX7_extent_34 : decode cX7_extent 34 = .ok (.iload_n 1, 1) := by decide +kernel
theorem dX7_extent_35 : decode cX7_extent 35 = .ok (.invokevirtual 242, 3) := by decide +kernel
theorem dX7_extent_38 : decode cX7_extent 38 = .ok (.aload_n 0, 1) := by decide +kernel
theorem dX7_extent_39 : decode cX7_extent 39 = .ok (.getfield 57, 3) := by decide +kernel
theorem dX7_extent_42 : decode cX7_extent 42 = .ok (.aload_n 0, 1) := by decide +kernel
theorem dX7_extent_43 : decode cX7_extent 43 = .ok (.getfield 12, 3) := by decide +kernel
theorem dX7_extent_46 : decode cX7_extent 46 = .ok (.invokevirtual 260, 3) := by decide +kernel
theorem dX7_extent_49 : decode cX7_extent 49 = .ok (.invokestatic 253, 3) := by decide +kernel
theorem dX7_extent_52 : decode cX7_extent 52 = .ok (.ireturn, 1) := by decide +kernel
theorem dX7_undo_0 : decode cX7_undo 0 = .ok (.aload_n 0, 1) := by decide +kernel
theorem dX7_undo_1 : decode cX7_undo 1 = .ok (.getfield 29, 3) := by decide +kernel
theorem dX7_undo_4 : decode cX7_undo 4 = .ok (.getfield 158, 3) := by decide +kernel
theorem dX7_undo_7 : decode cX7_undo 7 = .ok (.ifCond .ne 6, 3) := by decide +kernel
theorem dX7_undo_10 : decode cX7_undo 10 = .ok (.bipush (-2), 2) := by decide +kernel
theorem dX7_undo_12 : decode cX7_undo 12 = .ok (.ireturn, 1) := by decide +kernel
theorem dX7_undo_13 : decode cX7_undo 13 = .ok (.aload_n 0, 1) := by decide +kernel
theorem dX7_undo_14 : decode cX7_undo 14 = .ok (.getfield 29, 3) := by decide +kernel
theorem dX7_undo_17 : decode cX7_undo 17 = .ok (.aload_n 0, 1) := by decide +kernel
theorem dX7_undo_18 : decode cX7_undo 18 = .ok (.getfield 12, 3) := by decide +kernel
theorem dX7_undo_21 : decode cX7_undo 21 = .ok (.invokevirtual 264, 3) := by decide +kernel
theorem dX7_undo_24 : decode cX7_undo 24 = .ok (.aload_n 0, 1) := by decide +kernel
theorem dX7_undo_25 : decode cX7_undo 25 = .ok (.getfield 22, 3) := by decide +kernel
theorem dX7_undo_28 : decode cX7_undo 28 = .ok (.aload_n 0, 1) := by decide +kernel
theorem dX7_undo_29 : decode cX7_undo 29 = .ok (.getfield 12, 3) := by decide +kernel
theorem dX7_undo_32 : decode cX7_undo 32 = .ok (.invokevirtual 267, 3) := by decide +kernel
theorem dX7_undo_35 : decode cX7_undo 35 = .ok (.aload_n 0, 1) := by decide +kernel
theorem dX7_undo_36 : decode cX7_undo 36 = .ok (.getfield 29, 3) := by decide +kernel
theorem dX7_undo_39 : decode cX7_undo 39 = .ok (.getfield 158, 3) := by decide +kernel
theorem dX7_undo_42 : decode cX7_undo 42 = .ok (.ireturn, 1) := by decide +kernel
theorem dX7_areTwoNodes_0 : decode cX7_areTwoNodes 0 = .ok (.aload_n 0, 1) := by decide +kernel
theorem dX7_areTwoNodes_1 : decode cX7_areTwoNodes 1 = .ok (.getfield 12, 3) := by decide +kernel
theorem dX7_areTwoNodes_4 : decode cX7_areTwoNodes 4 = .ok (.iload_n 1, 1) := by decide +kernel
theorem dX7_areTwoNodes_5 : decode cX7_areTwoNodes 5 = .ok (.invokevirtual 118, 3) := by decide +kernel
theorem dX7_areTwoNodes_8 : decode cX7_areTwoNodes 8 = .ok (.ifCond .eq 23, 3) := by decide +kernel
theorem dX7_areTwoNodes_11 : decode cX7_areTwoNodes 11 = .ok (.aload_n 0, 1) := by decide +kernel
theorem dX7_areTwoNodes_12 : decode cX7_areTwoNodes 12 = .ok (.getfield 12, 3) := by decide +kernel
theorem dX7_areTwoNodes_15 : decode cX7_areTwoNodes 15 = .ok (.iload_n 2, 1) := by decide +kernel
theorem dX7_areTwoNodes_16 : decode cX7_areTwoNodes 16 = .ok (.invokevirtual 118, 3) := by decide +kernel
theorem dX7_areTwoNodes_19 : decode cX7_areTwoNodes 19 = .ok (.ifCond .eq 12, 3) := by decide +kernel
theorem dX7_areTwoNodes_22 : decode cX7_areTwoNodes 22 = .ok (.iload_n 1, 1) := by decide +kernel
theorem dX7_areTwoNodes_23 : decode cX7_areTwoNodes 23 = .ok (.iload_n 2, 1) := by decide +kernel
theorem dX7_areTwoNodes_24 : decode cX7_areTwoNodes 24 = .ok (.if_icmp .eq 7, 3) := by decide +kernel
theorem dX7_areTwoNodes_27 : decode cX7_areTwoNodes 27 = .ok (.iconst 1, 1) := by decide +kernel
theorem dX7_areTwoNodes_28 : decode cX7_areTwoNodes 28 = .ok (.goto 4, 3) := by decide +kernel
theorem dX7_areTwoNodes_31 : decode cX7_areTwoNodes 31 = .ok (.iconst 0, 1) := by decide +kernel
theorem dX7_areTwoNodes_32 : decode cX7_areTwoNodes 32 = .ok (.ireturn, 1) := by decide +kernel
theorem dX7_mayStandBehind_0 : decode cX7_mayStandBehind 0 = .ok (.iload_n 2, 1) := by decide +kernel
theorem dX7_mayStandBehind_1 : decode cX7_mayStandBehind 1 = .ok (.iconst (-1), 1) := by decide +kernel
theorem dX7_mayStandBehind_2 : decode cX7_mayStandBehind 2 = .ok (.if_icmp .eq 15, 3) := by decide +kernel
theorem dX7_mayStandBehind_5 : decode cX7_mayStandBehind 5 = .ok (.aload_n 0, 1) := by decide +kernel
theorem dX7_mayStandBehind_6 : decode cX7_mayStandBehind 6 = .ok (.getfield 12, 3) := by decide +kernel
theorem dX7_mayStandBehind_9 : decode cX7_mayStandBehind 9 = .ok (.iload_n 2, 1) := by decide +kernel
theorem dX7_mayStandBehind_10 : decode cX7_mayStandBehind 10 = .ok (.iload_n 1, 1) := by decide +kernel
theorem dX7_mayStandBehind_11 : decode cX7_mayStandBehind 11 = .ok (.invokevirtual 121, 3) := by decide +kernel
theorem dX7_mayStandBehind_14 : decode cX7_mayStandBehind 14 = .ok (.ifCond .eq 7, 3) := by decide +kernel
theorem dX7_mayStandBehind_17 : decode cX7_mayStandBehind 17 = .ok (.iconst 1, 1) := by decide +kernel
theorem dX7_mayStandBehind_18 : decode cX7_mayStandBehind 18 = .ok (.goto 4, 3) := by decide +kernel
theorem dX7_mayStandBehind_21 : decode cX7_mayStandBehind 21 = .ok (.iconst 0, 1) := by decide +kernel
theorem dX7_mayStandBehind_22 : decode cX7_mayStandBehind 22 = .ok (.ireturn, 1) := by decide +kernel
theorem dX7_canInsert_0 : decode cX7_canInsert 0 = .ok (.aload_n 0, 1) := by decide +kernel
theorem dX7_canInsert_1 : decode cX7_canInsert 1 = .ok (.getfield 22, 3) := by decide +kernel
theorem dX7_canInsert_4 : decode cX7_canInsert 4 = .ok (.getfield 128, 3) := by decide +kernel
theorem dX7_canInsert_7 : decode cX7_canInsert 7 = .ok (.ifCond .ne 19, 3) := by decide +kernel
theorem dX7_canInsert_10 : decode cX7_canInsert 10 = .ok (.aload_n 0, 1) := by decide +kernel
theorem dX7_canInsert_11 : decode cX7_canInsert 11 = .ok (.getfield 12, 3) := by decide +kernel
theorem dX7_canInsert_14 : decode cX7_canInsert 14 = .ok (.iload_n 1, 1) := by decide +kernel
theorem dX7_canInsert_15 : decode cX7_canInsert 15 = .ok (.iload_n 2, 1) := by decide +kernel
theorem dX7_canInsert_16 : decode cX7_canInsert 16 = .ok (.invokevirtual 87, 3) := by decide +kernel
theorem dX7_canInsert_19 : decode cX7_canInsert 19 = .ok (.ifCond .ne 7, 3) := by decide +kernel
theorem dX7_canInsert_22 : decode cX7_canInsert 22 = .ok (.iconst 1, 1) := by decide +kernel
theorem dX7_canInsert_23 : decode cX7_canInsert 23 = .ok (.goto 4, 3) := by decide +kernel
theorem dX7_canInsert_26 : decode cX7_canInsert 26 = .ok (.iconst 0, 1) := by decide +kernel
theorem dX7_canInsert_27 : decode cX7_canInsert 27 = .ok (.ireturn, 1) := by decide +kernel
theorem dX7_isRounds_0 : decode cX7_isRounds 0 = .ok (.iload_n 0, 1) := by decide +kernel
theorem dX7_isRounds_1 : decode cX7_isRounds 1 = .ok (.ifCond .lt 13, 3) := by decide +kernel
theorem dX7_isRounds_4 : decode cX7_isRounds 4 = .ok (.iload_n 0, 1) := by decide +kernel
theorem dX7_isRounds_5 : decode cX7_isRounds 5 = .ok (.bipush 50, 2) := by decide +kernel
theorem dX7_isRounds_7 : decode cX7_isRounds 7 = .ok (.if_icmp .gt 7, 3) := by decide +kernel
theorem dX7_isRounds_10 : decode cX7_isRounds 10 = .ok (.iconst 1, 1) := by decide +kernel
theorem dX7_isRounds_11 : decode cX7_isRounds 11 = .ok (.goto 4, 3) := by decide +kernel
theorem dX7_isRounds_14 : decode cX7_isRounds 14 = .ok (.iconst 0, 1) := by decide +kernel
theorem dX7_isRounds_15 : decode cX7_isRounds 15 = .ok (.ireturn, 1) := by decide +kernel
theorem dX7_join_0 : decode cX7_join 0 = .ok (.aload_n 0, 1) := by decide +kernel
theorem dX7_join_1 : decode cX7_join 1 = .ok (.getfield 12, 3) := by decide +kernel
theorem dX7_join_4 : decode cX7_join 4 = .ok (.getfield 115, 3) := by decide +kernel
theorem dX7_join_7 : decode cX7_join 7 = .ok (.bipush 20, 2) := by decide +kernel
theorem dX7_join_9 : decode cX7_join 9 = .ok (.if_icmp .lt 6, 3) := by decide +kernel
theorem dX7_join_12 : decode cX7_join 12 = .ok (.bipush (-3), 2) := by decide +kernel
theorem dX7_join_14 : decode cX7_join 14 = .ok (.ireturn, 1) := by decide +kernel
theorem dX7_join_15 : decode cX7_join 15 = .ok (.aload_n 0, 1) := by decide +kernel
theorem dX7_join_16 : decode cX7_join 16 = .ok (.getfield 29, 3) := by decide +kernel
theorem dX7_join_19 : decode cX7_join 19 = .ok (.aload_n 0, 1) := by decide +kernel
theorem dX7_join_20 : decode cX7_join 20 = .ok (.getfield 12, 3) := by decide +kernel
theorem dX7_join_23 : decode cX7_join 23 = .ok (.invokevirtual 69, 3) := by decide +kernel
theorem dX7_join_26 : decode cX7_join 26 = .ok (.aload_n 0, 1) := by decide +kernel
theorem dX7_join_27 : decode cX7_join 27 = .ok (.getfield 12, 3) := by decide +kernel
theorem dX7_join_30 : decode cX7_join 30 = .ok (.iload_n 1, 1) := by decide +kernel
theorem dX7_join_31 : decode cX7_join 31 = .ok (.iload_n 2, 1) := by decide +kernel
theorem dX7_join_32 : decode cX7_join 32 = .ok (.iload_n 3, 1) := by decide +kernel
theorem dX7_join_33 : decode cX7_join 33 = .ok (.iload 4, 2) := by decide +kernel
theorem dX7_join_35 : decode cX7_join 35 = .ok (.invokevirtual 270, 3) := by decide +kernel
theorem dX7_join_38 : decode cX7_join 38 = .ok (.istore 5, 2) := by decide +kernel
theorem dX7_join_40 : decode cX7_join 40 = .ok (.aload_n 0, 1) := by decide +kernel
theorem dX7_join_41 : decode cX7_join 41 = .ok (.invokevirtual 77, 3) := by decide +kernel
theorem dX7_join_44 : decode cX7_join 44 = .ok (.iload 5, 2) := by decide +kernel
theorem dX7_join_46 : decode cX7_join 46 = .ok (.ireturn, 1) := by decide +kernel
theorem dX7_settle_0 : decode cX7_settle 0 = .ok (.aload_n 0, 1) := by decide +kernel
theorem dX7_settle_1 : decode cX7_settle 1 = .ok (.getfield 12, 3) := by decide +kernel
theorem dX7_settle_4 : decode cX7_settle 4 = .ok (.iconst 0, 1) := by decide +kernel
theorem dX7_settle_5 : decode cX7_settle 5 = .ok (.putfield 152, 3) := by decide +kernel
theorem dX7_settle_8 : decode cX7_settle 8 = .ok (.aload_n 0, 1) := by decide +kernel
theorem dX7_settle_9 : decode cX7_settle 9 = .ok (.getfield 22, 3) := by decide +kernel
theorem dX7_settle_12 : decode cX7_settle 12 = .ok (.aload_n 0, 1) := by decide +kernel
theorem dX7_settle_13 : decode cX7_settle 13 = .ok (.getfield 12, 3) := by decide +kernel
theorem dX7_settle_16 : decode cX7_settle 16 = .ok (.invokevirtual 267, 3) := by decide +kernel
theorem dX7_settle_19 : decode cX7_settle 19 = .ok (.return_, 1) := by decide +kernel
theorem dX7_findObstruction_0 : decode cX7_findObstruction 0 = .ok (.aload_n 0, 1) := by decide +kernel
theorem dX7_findObstruction_1 : decode cX7_findObstruction 1 = .ok (.getfield 12, 3) := by decide +kernel
theorem dX7_findObstruction_4 : decode cX7_findObstruction 4 = .ok (.aload_n 0, 1) := by decide +kernel
theorem dX7_findObstruction_5 : decode cX7_findObstruction 5 = .ok (.getfield 61, 3) := by decide +kernel
theorem dX7_findObstruction_8 : decode cX7_findObstruction 8 = .ok (.invokevirtual 198, 3) := by decide +kernel
theorem dX7_findObstruction_11 : decode cX7_findObstruction 11 = .ok (.aload_n 0, 1) := by decide +kernel
theorem dX7_findObstruction_12 : decode cX7_findObstruction 12 = .ok (.getfield 43, 3) := by decide +kernel
theorem dX7_findObstruction_15 : decode cX7_findObstruction 15 = .ok (.aload_n 0, 1) := by decide +kernel
theorem dX7_findObstruction_16 : decode cX7_findObstruction 16 = .ok (.getfield 61, 3) := by decide +kernel
theorem dX7_findObstruction_19 : decode cX7_findObstruction 19 = .ok (.invokevirtual 202, 3) := by decide +kernel
theorem dX7_findObstruction_22 : decode cX7_findObstruction 22 = .ok (.ifCond .eq 5, 3) := by decide +kernel
theorem dX7_findObstruction_25 : decode cX7_findObstruction 25 = .ok (.iconst 0, 1) := by decide +kernel
theorem dX7_findObstruction_26 : decode cX7_findObstruction 26 = .ok (.ireturn, 1) := by decide +kernel
theorem dX7_findObstruction_27 : decode cX7_findObstruction 27 = .ok (.iconst 0, 1) := by decide +kernel
theorem dX7_findObstruction_28 : decode cX7_findObstruction 28 = .ok (.istore_n 1, 1) := by decide +kernel
theorem dX7_findObstruction_29 : decode cX7_findObstruction 29 = .ok (.iconst 0, 1) := by decide +kernel
theorem dX7_findObstruction_30 : decode cX7_findObstruction 30 = .ok (.istore_n 2, 1) := by decide +kernel
theorem dX7_findObstruction_31 : decode cX7_findObstruction 31 = .ok (.iload_n 2, 1) := by decide +kernel
theorem dX7_findObstruction_32 : decode cX7_findObstruction 32 = .ok (.aload_n 0, 1) := by decide +kernel
theorem dX7_findObstruction_33 : decode cX7_findObstruction 33 = .ok (.getfield 12, 3) := by decide +kernel
theorem dX7_findObstruction_36 : decode cX7_findObstruction 36 = .ok (.getfield 115, 3) := by decide +kernel
theorem dX7_findObstruction_39 : decode cX7_findObstruction 39 = .ok (.if_icmp .ge 80, 3) := by decide +kernel
theorem dX7_findObstruction_42 : decode cX7_findObstruction 42 = .ok (.aload_n 0, 1) := by decide +kernel
theorem dX7_findObstruction_43 : decode cX7_findObstruction 43 = .ok (.getfield 61, 3) := by decide +kernel
theorem dX7_findObstruction_46 : decode cX7_findObstruction 46 = .ok (.aload_n 0, 1) := by decide +kernel
theorem dX7_findObstruction_47 : decode cX7_findObstruction 47 = .ok (.getfield 12, 3) := by decide +kernel
theorem dX7_findObstruction_50 : decode cX7_findObstruction 50 = .ok (.getfield 143, 3) := by decide +kernel
theorem dX7_findObstruction_53 : decode cX7_findObstruction 53 = .ok (.iload_n 2, 1) := by decide +kernel
theorem dX7_findObstruction_54 : decode cX7_findObstruction 54 = .ok (.iaload, 1) := by decide +kernel
theorem dX7_findObstruction_55 : decode cX7_findObstruction 55 = .ok (.aload_n 0, 1) := by decide +kernel
theorem dX7_findObstruction_56 : decode cX7_findObstruction 56 = .ok (.getfield 12, 3) := by decide +kernel
theorem dX7_findObstruction_59 : decode cX7_findObstruction 59 = .ok (.getfield 146, 3) := by decide +kernel
theorem dX7_findObstruction_62 : decode cX7_findObstruction 62 = .ok (.iload_n 2, 1) := by decide +kernel
theorem dX7_findObstruction_63 : decode cX7_findObstruction 63 = .ok (.iaload, 1) := by decide +kernel
theorem dX7_findObstruction_64 : decode cX7_findObstruction 64 = .ok (.invokestatic 206, 3) := by decide +kernel
theorem dX7_findObstruction_67 : decode cX7_findObstruction 67 = .ok (.aload_n 0, 1) := by decide +kernel
theorem dX7_findObstruction_68 : decode cX7_findObstruction 68 = .ok (.getfield 43, 3) := by decide +kernel
theorem dX7_findObstruction_71 : decode cX7_findObstruction 71 = .ok (.aload_n 0, 1) := by decide +kernel
theorem dX7_findObstruction_72 : decode cX7_findObstruction 72 = .ok (.getfield 61, 3) := by decide +kernel
theorem dX7_findObstruction_75 : decode cX7_findObstruction 75 = .ok (.invokevirtual 202, 3) := by decide +kernel
theorem dX7_findObstruction_78 : decode cX7_findObstruction 78 = .ok (.ifCond .eq 35, 3) := by decide +kernel
theorem dX7_findObstruction_81 : decode cX7_findObstruction 81 = .ok (.aload_n 0, 1) := by decide +kernel
theorem dX7_findObstruction_82 : decode cX7_findObstruction 82 = .ok (.getfield 61, 3) := by decide +kernel
theorem dX7_findObstruction_85 : decode cX7_findObstruction 85 = .ok (.aload_n 0, 1) := by decide +kernel
theorem dX7_findObstruction_86 : decode cX7_findObstruction 86 = .ok (.getfield 12, 3) := by decide +kernel
theorem dX7_findObstruction_89 : decode cX7_findObstruction 89 = .ok (.getfield 143, 3) := by decide +kernel
theorem dX7_findObstruction_92 : decode cX7_findObstruction 92 = .ok (.iload_n 2, 1) := by decide +kernel
theorem dX7_findObstruction_93 : decode cX7_findObstruction 93 = .ok (.iaload, 1) := by decide +kernel
theorem dX7_findObstruction_94 : decode cX7_findObstruction 94 = .ok (.aload_n 0, 1) := by decide +kernel
theorem dX7_findObstruction_95 : decode cX7_findObstruction 95 = .ok (.getfield 12, 3) := by decide +kernel
theorem dX7_findObstruction_98 : decode cX7_findObstruction 98 = .ok (.getfield 146, 3) := by decide +kernel
theorem dX7_findObstruction_101 : decode cX7_findObstruction 101 = .ok (.iload_n 2, 1) := by decide +kernel
theorem dX7_findObstruction_102 : decode cX7_findObstruction 102 = .ok (.iaload, 1) := by decide +kernel
theorem dX7_findObstruction_103 : decode cX7_findObstruction 103 = .ok (.invokestatic 206, 3) := by decide +kernel
theorem dX7_findObstruction_106 : decode cX7_findObstruction 106 = .ok (.iload_n 1, 1) := by decide +kernel
theorem dX7_findObstruction_107 : decode cX7_findObstruction 107 = .ok (.iload_n 2, 1) := by decide +kernel
theorem dX7_findObstruction_108 : decode cX7_findObstruction 108 = .ok (.invokestatic 217, 3) := by decide +kernel
theorem dX7_findObstruction_111 : decode cX7_findObstruction 111 = .ok (.ior, 1) := by decide +kernel
theorem dX7_findObstruction_112 : decode cX7_findObstruction 112 = .ok (.istore_n 1, 1) := by decide +kernel
theorem dX7_findObstruction_113 : decode cX7_findObstruction 113 = .ok (.iinc 2 1, 3) := by decide +kernel
theorem dX7_findObstruction_116 : decode cX7_findObstruction 116 = .ok (.goto (-85), 3) := by decide +kernel
theorem dX7_findObstruction_119 : decode cX7_findObstruction 119 = .ok (.iload_n 1, 1) := by decide +kernel
theorem dX7_findObstruction_120 : decode cX7_findObstruction 120 = .ok (.ireturn, 1) := by decide +kernel
theorem dX7_countEdgesAt_0 : decode cX7_countEdgesAt 0 = .ok (.iconst 0, 1) := by decide +kernel
theorem dX7_countEdgesAt_1 : decode cX7_countEdgesAt 1 = .ok (.istore_n 3, 1) := by decide +kernel
theorem dX7_countEdgesAt_2 : decode cX7_countEdgesAt 2 = .ok (.iconst 0, 1) := by decide +kernel
theorem dX7_countEdgesAt_3 : decode cX7_countEdgesAt 3 = .ok (.istore 4, 2) := by decide +kernel
theorem dX7_countEdgesAt_5 : decode cX7_countEdgesAt 5 = .ok (.iload 4, 2) := by decide +kernel
theorem dX7_countEdgesAt_7 : decode cX7_countEdgesAt 7 = .ok (.aload_n 0, 1) := by decide +kernel
theorem dX7_countEdgesAt_8 : decode cX7_countEdgesAt 8 = .ok (.getfield 12, 3) := by decide +kernel
theorem dX7_countEdgesAt_11 : decode cX7_countEdgesAt 11 = .ok (.getfield 137, 3) := by decide +kernel
theorem dX7_countEdgesAt_14 : decode cX7_countEdgesAt 14 = .ok (.iload_n 1, 1) := by decide +kernel
theorem dX7_countEdgesAt_15 : decode cX7_countEdgesAt 15 = .ok (.iaload, 1) := by decide +kernel
theorem dX7_countEdgesAt_16 : decode cX7_countEdgesAt 16 = .ok (.if_icmp .ge 29, 3) := by decide +kernel
theorem dX7_countEdgesAt_19 : decode cX7_countEdgesAt 19 = .ok (.iload_n 2, 1) := by decide +kernel
theorem dX7_countEdgesAt_20 : decode cX7_countEdgesAt 20 = .ok (.aload_n 0, 1) := by decide +kernel
theorem dX7_countEdgesAt_21 : decode cX7_countEdgesAt 21 = .ok (.getfield 12, 3) := by decide +kernel
theorem dX7_countEdgesAt_24 : decode cX7_countEdgesAt 24 = .ok (.iload_n 1, 1) := by decide +kernel
theorem dX7_countEdgesAt_25 : decode cX7_countEdgesAt 25 = .ok (.iload 4, 2) := by decide +kernel
theorem dX7_countEdgesAt_27 : decode cX7_countEdgesAt 27 = .ok (.invokevirtual 140, 3) := by decide +kernel
theorem dX7_countEdgesAt_30 : decode cX7_countEdgesAt 30 = .ok (.invokestatic 233, 3) := by decide +kernel
theorem dX7_countEdgesAt_33 : decode cX7_countEdgesAt 33 = .ok (.ifCond .eq 6, 3) := by decide +kernel
theorem dX7_countEdgesAt_36 : decode cX7_countEdgesAt 36 = .ok (.iinc 3 1, 3) := by decide +kernel
theorem dX7_countEdgesAt_39 : decode cX7_countEdgesAt 39 = .ok (.iinc 4 1, 3) := by decide +kernel
theorem dX7_countEdgesAt_42 : decode cX7_countEdgesAt 42 = .ok (.goto (-37), 3) := by decide +kernel
theorem dX7_countEdgesAt_45 : decode cX7_countEdgesAt 45 = .ok (.iload_n 3, 1) := by decide +kernel
theorem dX7_countEdgesAt_46 : decode cX7_countEdgesAt 46 = .ok (.ireturn, 1) := by decide +kernel
theorem dX7_bit_0 : decode cX7_bit 0 = .ok (.iconst 1, 1) := by decide +kernel
theorem dX7_bit_1 : decode cX7_bit 1 = .ok (.iload_n 0, 1) := by decide +kernel
theorem dX7_bit_2 : decode cX7_bit 2 = .ok (.ishl, 1) := by decide +kernel
theorem dX7_bit_3 : decode cX7_bit 3 = .ok (.ireturn, 1) := by decide +kernel
theorem dX7_contains_0 : decode cX7_contains 0 = .ok (.iload_n 0, 1) := by decide +kernel
theorem dX7_contains_1 : decode cX7_contains 1 = .ok (.iload_n 1, 1) := by decide +kernel
theorem dX7_contains_2 : decode cX7_contains 2 = .ok (.ishr, 1) := by decide +kernel
theorem dX7_contains_3 : decode cX7_contains 3 = .ok (.iconst 1, 1) := by decide +kernel
theorem dX7_contains_4 : decode cX7_contains 4 = .ok (.iand, 1) := by decide +kernel
theorem dX7_contains_5 : decode cX7_contains 5 = .ok (.ifCond .eq 7, 3) := by decide +kernel
theorem dX7_contains_8 : decode cX7_contains 8 = .ok (.iconst 1, 1) := by decide +kernel
theorem dX7_contains_9 : decode cX7_contains 9 = .ok (.goto 4, 3) := by decide +kernel
theorem dX7_contains_12 : decode cX7_contains 12 = .ok (.iconst 0, 1) := by decide +kernel
theorem dX7_contains_13 : decode cX7_contains 13 = .ok (.ireturn, 1) := by decide +kernel
theorem dX7_smallestOf_0 : decode cX7_smallestOf 0 = .ok (.iconst 0, 1) := by decide +kernel
theorem dX7_smallestOf_1 : decode cX7_smallestOf 1 = .ok (.istore_n 1, 1) := by decide +kernel
theorem dX7_smallestOf_2 : decode cX7_smallestOf 2 = .ok (.iload_n 1, 1) := by decide +kernel
theorem dX7_smallestOf_3 : decode cX7_smallestOf 3 = .ok (.bipush 9, 2) := by decide +kernel
theorem dX7_smallestOf_5 : decode cX7_smallestOf 5 = .ok (.if_icmp .ge 19, 3) := by decide +kernel
theorem dX7_smallestOf_8 : decode cX7_smallestOf 8 = .ok (.iload_n 0, 1) := by decide +kernel
theorem dX7_smallestOf_9 : decode cX7_smallestOf 9 = .ok (.iload_n 1, 1) := by decide +kernel
theorem dX7_smallestOf_10 : decode cX7_smallestOf 10 = .ok (.invokestatic 233, 3) := by decide +kernel
theorem dX7_smallestOf_13 : decode cX7_smallestOf 13 = .ok (.ifCond .eq 5, 3) := by decide +kernel
theorem dX7_smallestOf_16 : decode cX7_smallestOf 16 = .ok (.iload_n 1, 1) := by decide +kernel
theorem dX7_smallestOf_17 : decode cX7_smallestOf 17 = .ok (.ireturn, 1) := by decide +kernel
theorem dX7_smallestOf_18 : decode cX7_smallestOf 18 = .ok (.iinc 1 1, 3) := by decide +kernel
theorem dX7_smallestOf_21 : decode cX7_smallestOf 21 = .ok (.goto (-19), 3) := by decide +kernel
theorem dX7_smallestOf_24 : decode cX7_smallestOf 24 = .ok (.iconst (-1), 1) := by decide +kernel
theorem dX7_smallestOf_25 : decode cX7_smallestOf 25 = .ok (.ireturn, 1) := by decide +kernel
theorem dX7_toggleLink_0 : decode cX7_toggleLink 0 = .ok (.aload_n 0, 1) := by decide +kernel
theorem dX7_toggleLink_1 : decode cX7_toggleLink 1 = .ok (.iload_n 1, 1) := by decide +kernel
theorem dX7_toggleLink_2 : decode cX7_toggleLink 2 = .ok (.dup2, 1) := by decide +kernel
theorem dX7_toggleLink_3 : decode cX7_toggleLink 3 = .ok (.iaload, 1) := by decide +kernel
theorem dX7_toggleLink_4 : decode cX7_toggleLink 4 = .ok (.iload_n 2, 1) := by decide +kernel
theorem dX7_toggleLink_5 : decode cX7_toggleLink 5 = .ok (.invokestatic 217, 3) := by decide +kernel
theorem dX7_toggleLink_8 : decode cX7_toggleLink 8 = .ok (.ixor, 1) := by decide +kernel
theorem dX7_toggleLink_9 : decode cX7_toggleLink 9 = .ok (.iastore, 1) := by decide +kernel
theorem dX7_toggleLink_10 : decode cX7_toggleLink 10 = .ok (.aload_n 0, 1) := by decide +kernel
theorem dX7_toggleLink_11 : decode cX7_toggleLink 11 = .ok (.iload_n 2, 1) := by decide +kernel
theorem dX7_toggleLink_12 : decode cX7_toggleLink 12 = .ok (.dup2, 1) := by decide +kernel
theorem dX7_toggleLink_13 : decode cX7_toggleLink 13 = .ok (.iaload, 1) := by decide +kernel
theorem dX7_toggleLink_14 : decode cX7_toggleLink 14 = .ok (.iload_n 1, 1) := by decide +kernel
theorem dX7_toggleLink_15 : decode cX7_toggleLink 15 = .ok (.invokestatic 217, 3) := by decide +kernel
theorem dX7_toggleLink_18 : decode cX7_toggleLink 18 = .ok (.ixor, 1) := by decide +kernel
theorem dX7_toggleLink_19 : decode cX7_toggleLink 19 = .ok (.iastore, 1) := by decide +kernel
theorem dX7_toggleLink_20 : decode cX7_toggleLink 20 = .ok (.return_, 1) := by decide +kernel
theorem dX7_neighboursOf_0 : decode cX7_neighboursOf 0 = .ok (.iconst 0, 1) := by decide +kernel
theorem dX7_neighboursOf_1 : decode cX7_neighboursOf 1 = .ok (.istore_n 2, 1) := by decide +kernel
theorem dX7_neighboursOf_2 : decode cX7_neighboursOf 2 = .ok (.iconst 0, 1) := by decide +kernel
theorem dX7_neighboursOf_3 : decode cX7_neighboursOf 3 = .ok (.istore_n 3, 1) := by decide +kernel
theorem dX7_neighboursOf_4 : decode cX7_neighboursOf 4 = .ok (.iload_n 3, 1) := by decide +kernel
theorem dX7_neighboursOf_5 : decode cX7_neighboursOf 5 = .ok (.bipush 9, 2) := by decide +kernel
theorem dX7_neighboursOf_7 : decode cX7_neighboursOf 7 = .ok (.if_icmp .ge 23, 3) := by decide +kernel
theorem dX7_neighboursOf_10 : decode cX7_neighboursOf 10 = .ok (.iload_n 0, 1) := by decide +kernel
theorem dX7_neighboursOf_11 : decode cX7_neighboursOf 11 = .ok (.iload_n 3, 1) := by decide +kernel
theorem dX7_neighboursOf_12 : decode cX7_neighboursOf 12 = .ok (.invokestatic 233, 3) := by decide +kernel
theorem dX7_neighboursOf_15 : decode cX7_neighboursOf 15 = .ok (.ifCond .eq 9, 3) := by decide +kernel
theorem dX7_neighboursOf_18 : decode cX7_neighboursOf 18 = .ok (.iload_n 2, 1) := by decide +kernel
theorem dX7_neighboursOf_19 : decode cX7_neighboursOf 19 = .ok (.aload_n 1, 1) := by decide +kernel
theorem dX7_neighboursOf_20 : decode cX7_neighboursOf 20 = .ok (.iload_n 3, 1) := by decide +kernel
theorem dX7_neighboursOf_21 : decode cX7_neighboursOf 21 = .ok (.iaload, 1) := by decide +kernel
theorem dX7_neighboursOf_22 : decode cX7_neighboursOf 22 = .ok (.ior, 1) := by decide +kernel
theorem dX7_neighboursOf_23 : decode cX7_neighboursOf 23 = .ok (.istore_n 2, 1) := by decide +kernel
theorem dX7_neighboursOf_24 : decode cX7_neighboursOf 24 = .ok (.iinc 3 1, 3) := by decide +kernel
theorem dX7_neighboursOf_27 : decode cX7_neighboursOf 27 = .ok (.goto (-23), 3) := by decide +kernel
theorem dX7_neighboursOf_30 : decode cX7_neighboursOf 30 = .ok (.iload_n 2, 1) := by decide +kernel
theorem dX7_neighboursOf_31 : decode cX7_neighboursOf 31 = .ok (.ireturn, 1) := by decide +kernel
theorem dX7_spread_0 : decode cX7_spread 0 = .ok (.iload_n 0, 1) := by decide +kernel
theorem dX7_spread_1 : decode cX7_spread 1 = .ok (.invokestatic 217, 3) := by decide +kernel
theorem dX7_spread_4 : decode cX7_spread 4 = .ok (.istore_n 3, 1) := by decide +kernel
theorem dX7_spread_5 : decode cX7_spread 5 = .ok (.iconst 0, 1) := by decide +kernel
theorem dX7_spread_6 : decode cX7_spread 6 = .ok (.istore 4, 2) := by decide +kernel
theorem dX7_spread_8 : decode cX7_spread 8 = .ok (.iload 4, 2) := by decide +kernel
theorem dX7_spread_10 : decode cX7_spread 10 = .ok (.bipush 9, 2) := by decide +kernel
theorem dX7_spread_12 : decode cX7_spread 12 = .ok (.if_icmp .ge 31, 3) := by decide +kernel
theorem dX7_spread_15 : decode cX7_spread 15 = .ok (.iload_n 3, 1) := by decide +kernel
theorem dX7_spread_16 : decode cX7_spread 16 = .ok (.iload_n 3, 1) := by decide +kernel
theorem dX7_spread_17 : decode cX7_spread 17 = .ok (.aload_n 2, 1) := by decide +kernel
theorem dX7_spread_18 : decode cX7_spread 18 = .ok (.invokestatic 273, 3) := by decide +kernel
theorem dX7_spread_21 : decode cX7_spread 21 = .ok (.iload_n 1, 1) := by decide +kernel
theorem dX7_spread_22 : decode cX7_spread 22 = .ok (.iand, 1) := by decide +kernel
theorem dX7_spread_23 : decode cX7_spread 23 = .ok (.ior, 1) := by decide +kernel
theorem dX7_spread_24 : decode cX7_spread 24 = .ok (.istore 5, 2) := by decide +kernel
theorem dX7_spread_26 : decode cX7_spread 26 = .ok (.iload 5, 2) := by decide +kernel
theorem dX7_spread_28 : decode cX7_spread 28 = .ok (.iload_n 3, 1) := by decide +kernel
theorem dX7_spread_29 : decode cX7_spread 29 = .ok (.if_icmp .ne 5, 3) := by decide +kernel
theorem dX7_spread_32 : decode cX7_spread 32 = .ok (.iload_n 3, 1) := by decide +kernel
theorem dX7_spread_33 : decode cX7_spread 33 = .ok (.ireturn, 1) := by decide +kernel
theorem dX7_spread_34 : decode cX7_spread 34 = .ok (.iload 5, 2) := by decide +kernel
theorem dX7_spread_36 : decode cX7_spread 36 = .ok (.istore_n 3, 1) := by decide +kernel
theorem dX7_spread_37 : decode cX7_spread 37 = .ok (.iinc 4 1, 3) := by decide +kernel
theorem dX7_spread_40 : decode cX7_spread 40 = .ok (.goto (-32), 3) := by decide +kernel
theorem dX7_spread_43 : decode cX7_spread 43 = .ok (.iload_n 3, 1) := by decide +kernel
theorem dX7_spread_44 : decode cX7_spread 44 = .ok (.ireturn, 1) := by decide +kernel
theorem dX7_bitsOf_0 : decode cX7_bitsOf 0 = .ok (.fload_n 0, 1) := by decide +kernel
theorem dX7_bitsOf_1 : decode cX7_bitsOf 1 = .ok (.fconst 0, 1) := by decide +kernel
theorem dX7_bitsOf_2 : decode cX7_bitsOf 2 = .ok (.fcmp .l, 1) := by decide +kernel
theorem dX7_bitsOf_3 : decode cX7_bitsOf 3 = .ok (.ifCond .gt 5, 3) := by decide +kernel
theorem dX7_bitsOf_6 : decode cX7_bitsOf 6 = .ok (.iconst 0, 1) := by decide +kernel
theorem dX7_bitsOf_7 : decode cX7_bitsOf 7 = .ok (.ireturn, 1) := by decide +kernel
theorem dX7_bitsOf_8 : decode cX7_bitsOf 8 = .ok (.fload_n 0, 1) := by decide +kernel
theorem dX7_bitsOf_9 : decode cX7_bitsOf 9 = .ok (.fstore_n 1, 1) := by decide +kernel
theorem dX7_bitsOf_10 : decode cX7_bitsOf 10 = .ok (.sipush 150, 3) := by decide +kernel
theorem dX7_bitsOf_13 : decode cX7_bitsOf 13 = .ok (.istore_n 2, 1) := by decide +kernel
theorem dX7_bitsOf_14 : decode cX7_bitsOf 14 = .ok (.fload_n 1, 1) := by decide +kernel
theorem dX7_bitsOf_15 : decode cX7_bitsOf 15 = .ok (.ldc_w 277, 3) := by decide +kernel
theorem dX7_bitsOf_18 : decode cX7_bitsOf 18 = .ok (.fcmp .g, 1) := by decide +kernel
theorem dX7_bitsOf_19 : decode cX7_bitsOf 19 = .ok (.ifCond .ge 18, 3) := by decide +kernel
theorem dX7_bitsOf_22 : decode cX7_bitsOf 22 = .ok (.iload_n 2, 1) := by decide +kernel
theorem dX7_bitsOf_23 : decode cX7_bitsOf 23 = .ok (.iconst 1, 1) := by decide +kernel
theorem dX7_bitsOf_24 : decode cX7_bitsOf 24 = .ok (.if_icmp .le 13, 3) := by decide +kernel
theorem dX7_bitsOf_27 : decode cX7_bitsOf 27 = .ok (.fload_n 1, 1) := by decide +kernel
theorem dX7_bitsOf_28 : decode cX7_bitsOf 28 = .ok (.fconst 2, 1) := by decide +kernel
theorem dX7_bitsOf_29 : decode cX7_bitsOf 29 = .ok (.fmul, 1) := by decide +kernel
theorem dX7_bitsOf_30 : decode cX7_bitsOf 30 = .ok (.fstore_n 1, 1) := by decide +kernel
theorem dX7_bitsOf_31 : decode cX7_bitsOf 31 = .ok (.iinc 2 (-1), 3) := by decide +kernel
theorem dX7_bitsOf_34 : decode cX7_bitsOf 34 = .ok (.goto (-20), 3) := by decide +kernel
theorem dX7_bitsOf_37 : decode cX7_bitsOf 37 = .ok (.fload_n 1, 1) := by decide +kernel
theorem dX7_bitsOf_38 : decode cX7_bitsOf 38 = .ok (.f2i, 1) := by decide +kernel
theorem dX7_bitsOf_39 : decode cX7_bitsOf 39 = .ok (.istore_n 3, 1) := by decide +kernel
theorem dX7_bitsOf_40 : decode cX7_bitsOf 40 = .ok (.iload_n 3, 1) := by decide +kernel
theorem dX7_bitsOf_41 : decode cX7_bitsOf 41 = .ok (.ldc_w 278, 3) := by decide +kernel
theorem dX7_bitsOf_44 : decode cX7_bitsOf 44 = .ok (.if_icmp .ge 7, 3) := by decide +kernel
theorem dX7_bitsOf_47 : decode cX7_bitsOf 47 = .ok (.iload_n 3, 1) := by decide +kernel
theorem dX7_bitsOf_48 : decode cX7_bitsOf 48 = .ok (.goto 13, 3) := by decide +kernel
theorem dX7_bitsOf_51 : decode cX7_bitsOf 51 = .ok (.iload_n 2, 1) := by decide +kernel
theorem dX7_bitsOf_52 : decode cX7_bitsOf 52 = .ok (.bipush 23, 2) := by decide +kernel
theorem dX7_bitsOf_54 : decode cX7_bitsOf 54 = .ok (.ishl, 1) := by decide +kernel
theorem dX7_bitsOf_55 : decode cX7_bitsOf 55 = .ok (.iload_n 3, 1) := by decide +kernel
theorem dX7_bitsOf_56 : decode cX7_bitsOf 56 = .ok (.ldc_w 278, 3) := by decide +kernel
theorem dX7_bitsOf_59 : decode cX7_bitsOf 59 = .ok (.isub, 1) := by decide +kernel
theorem dX7_bitsOf_60 : decode cX7_bitsOf 60 = .ok (.iadd, 1) := by decide +kernel
theorem dX7_bitsOf_61 : decode cX7_bitsOf 61 = .ok (.ireturn, 1) := by decide +kernel

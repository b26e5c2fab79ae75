theorem dX8_init_0 : decode cX8_init 0 = .ok (.aload_n 0, 1) := by decide +kernel
theorem dX8_init_1 : decode cX8_init 1 = .ok (.invokespecial 1, 3) := by decide +kernel
theorem dX8_init_4 : decode cX8_init 4 = .ok (.aload_n 0, 1) := by decide +kernel
theorem dX8_init_5 : decode cX8_init 5 = .ok (.bipush 124, 2) := by decide +kernel
theorem dX8_init_7 : decode cX8_init 7 = .ok (.newarray .int, 2) := by decide +kernel
theorem dX8_init_9 : decode cX8_init 9 = .ok (.putfield 7, 3) := by decide +kernel
theorem dX8_init_12 : decode cX8_init 12 = .ok (.aload_n 0, 1) := by decide +kernel
theorem dX8_init_13 : decode cX8_init 13 = .ok (.sipush 744, 3) := by decide +kernel
theorem dX8_init_16 : decode cX8_init 16 = .ok (.newarray .int, 2) := by decide +kernel
theorem dX8_init_18 : decode cX8_init 18 = .ok (.putfield 13, 3) := by decide +kernel
theorem dX8_init_21 : decode cX8_init 21 = .ok (.aload_n 0, 1) := by decide +kernel
theorem dX8_init_22 : decode cX8_init 22 = .ok (.bipush 100, 2) := by decide +kernel
theorem dX8_init_24 : decode cX8_init 24 = .ok (.newarray .byte, 2) := by decide +kernel
theorem dX8_init_26 : decode cX8_init 26 = .ok (.putfield 16, 3) := by decide +kernel
theorem dX8_init_29 : decode cX8_init 29 = .ok (.aload_n 0, 1) := by decide +kernel
theorem dX8_init_30 : decode cX8_init 30 = .ok (.bipush 40, 2) := by decide +kernel
theorem dX8_init_32 : decode cX8_init 32 = .ok (.newarray .int, 2) := by decide +kernel
theorem dX8_init_34 : decode cX8_init 34 = .ok (.putfield 20, 3) := by decide +kernel
theorem dX8_init_37 : decode cX8_init 37 = .ok (.aload_n 0, 1) := by decide +kernel
theorem dX8_init_38 : decode cX8_init 38 = .ok (.bipush 40, 2) := by decide +kernel
theorem dX8_init_40 : decode cX8_init 40 = .ok (.newarray .int, 2) := by decide +kernel
theorem dX8_init_42 : decode cX8_init 42 = .ok (.putfield 23, 3) := by decide +kernel
theorem dX8_init_45 : decode cX8_init 45 = .ok (.aload_n 0, 1) := by decide +kernel
theorem dX8_init_46 : decode cX8_init 46 = .ok (.bipush 124, 2) := by decide +kernel
theorem dX8_init_48 : decode cX8_init 48 = .ok (.newarray .int, 2) := by decide +kernel
theorem dX8_init_50 : decode cX8_init 50 = .ok (.putfield 26, 3) := by decide +kernel
theorem dX8_init_53 : decode cX8_init 53 = .ok (.aload_n 0, 1) := by decide +kernel
theorem dX8_init_54 : decode cX8_init 54 = .ok (.bipush 21, 2) := by decide +kernel
theorem dX8_init_56 : decode cX8_init 56 = .ok (.newarray .int, 2) := by decide +kernel
theorem dX8_init_58 : decode cX8_init 58 = .ok (.putfield 29, 3) := by decide +kernel
theorem dX8_init_61 : decode cX8_init 61 = .ok (.aload_n 0, 1) := by decide +kernel
theorem dX8_init_62 : decode cX8_init 62 = .ok (.bipush 21, 2) := by decide +kernel
theorem dX8_init_64 : decode cX8_init 64 = .ok (.newarray .int, 2) := by decide +kernel
theorem dX8_init_66 : decode cX8_init 66 = .ok (.putfield 32, 3) := by decide +kernel
theorem dX8_init_69 : decode cX8_init 69 = .ok (.aload_n 0, 1) := by decide +kernel
theorem dX8_init_70 : decode cX8_init 70 = .ok (.bipush 9, 2) := by decide +kernel
theorem dX8_init_72 : decode cX8_init 72 = .ok (.newarray .int, 2) := by decide +kernel
theorem dX8_init_74 : decode cX8_init 74 = .ok (.putfield 35, 3) := by decide +kernel
theorem dX8_init_77 : decode cX8_init 77 = .ok (.aload_n 0, 1) := by decide +kernel
theorem dX8_init_78 : decode cX8_init 78 = .ok (.bipush 9, 2) := by decide +kernel
theorem dX8_init_80 : decode cX8_init 80 = .ok (.newarray .int, 2) := by decide +kernel
theorem dX8_init_82 : decode cX8_init 82 = .ok (.putfield 38, 3) := by decide +kernel
theorem dX8_init_85 : decode cX8_init 85 = .ok (.aload_n 0, 1) := by decide +kernel
theorem dX8_init_86 : decode cX8_init 86 = .ok (.sipush 400, 3) := by decide +kernel
theorem dX8_init_89 : decode cX8_init 89 = .ok (.newarray .int, 2) := by decide +kernel
theorem dX8_init_91 : decode cX8_init 91 = .ok (.putfield 41, 3) := by decide +kernel
theorem dX8_init_94 : decode cX8_init 94 = .ok (.aload_n 0, 1) := by decide +kernel
theorem dX8_init_95 : decode cX8_init 95 = .ok (.bipush 40, 2) := by decide +kernel
theorem dX8_init_97 : decode cX8_init 97 = .ok (.newarray .int, 2) := by decide +kernel
theorem dX8_init_99 : decode cX8_init 99 = .ok (.putfield 44, 3) := by decide +kernel
theorem dX8_init_102 : decode cX8_init 102 = .ok (.aload_n 0, 1) := by decide +kernel
theorem dX8_init_103 : decode cX8_init 103 = .ok (.bipush 40, 2) := by decide +kernel
theorem dX8_init_105 : decode cX8_init 105 = .ok (.newarray .int, 2) := by decide +kernel
theorem dX8_init_107 : decode cX8_init 107 = .ok (.putfield 47, 3) := by decide +kernel
theorem dX8_init_110 : decode cX8_init 110 = .ok (.aload_n 0, 1) := by decide +kernel
theorem dX8_init_111 : decode cX8_init 111 = .ok (.bipush 10, 2) := by decide +kernel
theorem dX8_init_113 : decode cX8_init 113 = .ok (.newarray .int, 2) := by decide +kernel
theorem dX8_init_115 : decode cX8_init 115 = .ok (.putfield 50, 3) := by decide +kernel
theorem dX8_init_118 : decode cX8_init 118 = .ok (.aload_n 0, 1) := by decide +kernel
theorem dX8_init_119 : decode cX8_init 119 = .ok (.bipush 10, 2) := by decide +kernel
theorem dX8_init_121 : decode cX8_init 121 = .ok (.newarray .int, 2) := by decide +kernel
theorem dX8_init_123 : decode cX8_init 123 = .ok (.putfield 53, 3) := by decide +kernel
theorem dX8_init_126 : decode cX8_init 126 = .ok (.aload_n 0, 1) := by decide +kernel
theorem dX8_init_127 : decode cX8_init 127 = .ok (.bipush 40, 2) := by decide +kernel
theorem dX8_init_129 : decode cX8_init 129 = .ok (.newarray .int, 2) := by decide +kernel
theorem dX8_init_131 : decode cX8_init 131 = .ok (.putfield 56, 3) := by decide +kernel
theorem dX8_init_134 : decode cX8_init 134 = .ok (.aload_n 0, 1) := by decide +kernel
theorem dX8_init_135 : decode cX8_init 135 = .ok (.bipush 9, 2) := by decide +kernel
theorem dX8_init_137 : decode cX8_init 137 = .ok (.newarray .float, 2) := by decide +kernel
theorem dX8_init_139 : decode cX8_init 139 = .ok (.putfield 59, 3) := by decide +kernel
theorem dX8_init_142 : decode cX8_init 142 = .ok (.aload_n 0, 1) := by decide +kernel
theorem dX8_init_143 : decode cX8_init 143 = .ok (.bipush 9, 2) := by decide +kernel
theorem dX8_init_145 : decode cX8_init 145 = .ok (.newarray .float, 2) := by decide +kernel
theorem dX8_init_147 : decode cX8_init 147 = .ok (.putfield 63, 3) := by decide +kernel
theorem dX8_init_150 : decode cX8_init 150 = .ok (.aload_n 0, 1) := by decide +kernel
theorem dX8_init_151 : decode cX8_init 151 = .ok (.getfield 7, 3) := by decide +kernel
theorem dX8_init_154 : decode cX8_init 154 = .ok (.iconst 0, 1) := by decide +kernel
theorem dX8_init_155 : decode cX8_init 155 = .ok (.iconst 4, 1) := by decide +kernel
theorem dX8_init_156 : decode cX8_init 156 = .ok (.iastore, 1) := by decide +kernel
theorem dX8_init_157 : decode cX8_init 157 = .ok (.return_, 1) := by decide +kernel
theorem dX8_in_0 : decode cX8_in 0 = .ok (.iload_n 0, 1) := by decide +kernel
theorem dX8_in_1 : decode cX8_in 1 = .ok (.iload_n 1, 1) := by decide +kernel
theorem dX8_in_2 : decode cX8_in 2 = .ok (.if_icmp .lt 12, 3) := by decide +kernel
theorem dX8_in_5 : decode cX8_in 5 = .ok (.iload_n 0, 1) := by decide +kernel
theorem dX8_in_6 : decode cX8_in 6 = .ok (.iload_n 2, 1) := by decide +kernel
theorem dX8_in_7 : decode cX8_in 7 = .ok (.if_icmp .gt 7, 3) := by decide +kernel
theorem dX8_in_10 : decode cX8_in 10 = .ok (.iconst 1, 1) := by decide +kernel
theorem dX8_in_11 : decode cX8_in 11 = .ok (.goto 4, 3) := by decide +kernel
theorem dX8_in_14 : decode cX8_in 14 = .ok (.iconst 0, 1) := by decide +kernel
theorem dX8_in_15 : decode cX8_in 15 = .ok (.ireturn, 1) := by decide +kernel
theorem dX8_notes_0 : decode cX8_notes 0 = .ok (.aload_n 0, 1) := by decide +kernel
theorem dX8_notes_1 : decode cX8_notes 1 = .ok (.getfield 66, 3) := by decide +kernel
theorem dX8_notes_4 : decode cX8_notes 4 = .ok (.bipush 6, 2) := by decide +kernel
theorem dX8_notes_6 : decode cX8_notes 6 = .ok (.if_icmp .ne 43, 3) := by decide +kernel
theorem dX8_notes_9 : decode cX8_notes 9 = .ok (.iconst 0, 1) := by decide +kernel
theorem dX8_notes_10 : decode cX8_notes 10 = .ok (.istore_n 1, 1) := by decide +kernel
theorem dX8_notes_11 : decode cX8_notes 11 = .ok (.iload_n 1, 1) := by decide +kernel
theorem dX8_notes_12 : decode cX8_notes 12 = .ok (.sipush 620, 3) := by decide +kernel
theorem dX8_notes_15 : decode cX8_notes 15 = .ok (.if_icmp .ge 24, 3) := by decide +kernel
theorem dX8_notes_18 : decode cX8_notes 18 = .ok (.aload_n 0, 1) := by decide +kernel
theorem dX8_notes_19 : decode cX8_notes 19 = .ok (.getfield 13, 3) := by decide +kernel
theorem dX8_notes_22 : decode cX8_notes 22 = .ok (.iload_n 1, 1) := by decide +kernel
theorem dX8_notes_23 : decode cX8_notes 23 = .ok (.aload_n 0, 1) := by decide +kernel
theorem dX8_notes_24 : decode cX8_notes 24 = .ok (.getfield 13, 3) := by decide +kernel
theorem dX8_notes_27 : decode cX8_notes 27 = .ok (.iload_n 1, 1) := by decide +kernel
theorem dX8_notes_28 : decode cX8_notes 28 = .ok (.bipush 124, 2) := by decide +kernel
theorem dX8_notes_30 : decode cX8_notes 30 = .ok (.iadd, 1) := by decide +kernel
theorem dX8_notes_31 : decode cX8_notes 31 = .ok (.iaload, 1) := by decide +kernel
theorem dX8_notes_32 : decode cX8_notes 32 = .ok (.iastore, 1) := by decide +kernel
theorem dX8_notes_33 : decode cX8_notes 33 = .ok (.iinc 1 1, 3) := by decide +kernel
theorem dX8_notes_36 : decode cX8_notes 36 = .ok (.goto (-25), 3) := by decide +kernel
theorem dX8_notes_39 : decode cX8_notes 39 = .ok (.aload_n 0, 1) := by decide +kernel
theorem dX8_notes_40 : decode cX8_notes 40 = .ok (.dup, 1) := by decide +kernel
theorem dX8_notes_41 : decode cX8_notes 41 = .ok (.getfield 66, 3) := by decide +kernel
theorem dX8_notes_44 : decode cX8_notes 44 = .ok (.iconst 1, 1) := by decide +kernel
theorem dX8_notes_45 : decode cX8_notes 45 = .ok (.isub, 1) := by decide +kernel
theorem dX8_notes_46 : decode cX8_notes 46 = .ok (.putfield 66, 3) := by decide +kernel
theorem dX8_notes_49 : decode cX8_notes 49 = .ok (.iconst 0, 1) := by decide +kernel
theorem dX8_notes_50 : decode cX8_notes 50 = .ok (.istore_n 1, 1) := by decide +kernel
theorem dX8_notes_51 : decode cX8_notes 51 = .ok (.iload_n 1, 1) := by decide +kernel
theorem dX8_notes_52 : decode cX8_notes 52 = .ok (.bipush 124, 2) := by decide +kernel
theorem dX8_notes_54 : decode cX8_notes 54 = .ok (.if_icmp .ge 29, 3) := by decide +kernel
theorem dX8_notes_57 : decode cX8_notes 57 = .ok (.aload_n 0, 1) := by decide +kernel
theorem dX8_notes_58 : decode cX8_notes 58 = .ok (.getfield 13, 3) := by decide +kernel
theorem dX8_notes_61 : decode cX8_notes 61 = .ok (.bipush 124, 2) := by decide +kernel
theorem dX8_notes_63 : decode cX8_notes 63 = .ok (.aload_n 0, 1) := by decide +kernel
theorem dX8_notes_64 : decode cX8_notes 64 = .ok (.getfield 66, 3) := by decide +kernel
theorem dX8_notes_67 : decode cX8_notes 67 = .ok (.imul, 1) := by decide +kernel
theorem dX8_notes_68 : decode cX8_notes 68 = .ok (.iload_n 1, 1) := by decide +kernel
theorem dX8_notes_69 : decode cX8_notes 69 = .ok (.iadd, 1) := by decide +kernel
theorem dX8_notes_70 : decode cX8_notes 70 = .ok (.aload_n 0, 1) := by decide +kernel
theorem dX8_notes_71 : decode cX8_notes 71 = .ok (.getfield 7, 3) := by decide +kernel
theorem dX8_notes_74 : decode cX8_notes 74 = .ok (.iload_n 1, 1) := by decide +kernel
theorem dX8_notes_75 : decode cX8_notes 75 = .ok (.iaload, 1) := by decide +kernel
theorem dX8_notes_76 : decode cX8_notes 76 = .ok (.iastore, 1) := by decide +kernel
theorem dX8_notes_77 : decode cX8_notes 77 = .ok (.iinc 1 1, 3) := by decide +kernel
theorem dX8_notes_80 : decode cX8_notes 80 = .ok (.goto (-29), 3) := by decide +kernel
theorem dX8_notes_83 : decode cX8_notes 83 = .ok (.aload_n 0, 1) := by decide +kernel
theorem dX8_notes_84 : decode cX8_notes 84 = .ok (.dup, 1) := by decide +kernel
theorem dX8_notes_85 : decode cX8_notes 85 = .ok (.getfield 66, 3) := by decide +kernel
theorem dX8_notes_88 : decode cX8_notes 88 = .ok (.iconst 1, 1) := by decide +kernel
theorem dX8_notes_89 : decode cX8_notes 89 = .ok (.iadd, 1) := by decide +kernel
theorem dX8_notes_90 : decode cX8_notes 90 = .ok (.putfield 66, 3) := by decide +kernel
theorem dX8_notes_93 : decode cX8_notes 93 = .ok (.return_, 1) := by decide +kernel
theorem dX8_undo_0 : decode cX8_undo 0 = .ok (.aload_n 0, 1) := by decide +kernel
theorem dX8_undo_1 : decode cX8_undo 1 = .ok (.getfield 66, 3) := by decide +kernel
theorem dX8_undo_4 : decode cX8_undo 4 = .ok (.ifCond .ne 6, 3) := by decide +kernel
theorem dX8_undo_7 : decode cX8_undo 7 = .ok (.bipush (-2), 2) := by decide +kernel
theorem dX8_undo_9 : decode cX8_undo 9 = .ok (.ireturn, 1) := by decide +kernel
theorem dX8_undo_10 : decode cX8_undo 10 = .ok (.aload_n 0, 1) := by decide +kernel
theorem dX8_undo_11 : decode cX8_undo 11 = .ok (.dup, 1) := by decide +kernel
theorem dX8_undo_12 : decode cX8_undo 12 = .ok (.getfield 66, 3) := by decide +kernel
theorem dX8_undo_15 : decode cX8_undo 15 = .ok (.iconst 1, 1) := by decide +kernel
theorem dX8_undo_16 : decode cX8_undo 16 = .ok (.isub, 1) := by decide +kernel
theorem dX8_undo_17 : decode cX8_undo 17 = .ok (.putfield 66, 3) := by decide +kernel
theorem dX8_undo_20 : decode cX8_undo 20 = .ok (.iconst 0, 1) := by decide +kernel
theorem dX8_undo_21 : decode cX8_undo 21 = .ok (.istore_n 1, 1) := by decide +kernel
theorem dX8_undo_22 : decode cX8_undo 22 = .ok (.iload_n 1, 1) := by decide +kernel
theorem dX8_undo_23 : decode cX8_undo 23 = .ok (.bipush 124, 2) := by decide +kernel
theorem dX8_undo_25 : decode cX8_undo 25 = .ok (.if_icmp .ge 29, 3) := by decide +kernel
theorem dX8_undo_28 : decode cX8_undo 28 = .ok (.aload_n 0, 1) := by decide +kernel
theorem dX8_undo_29 : decode cX8_undo 29 = .ok (.getfield 7, 3) := by decide +kernel
theorem dX8_undo_32 : decode cX8_undo 32 = .ok (.iload_n 1, 1) := by decide +kernel
theorem dX8_undo_33 : decode cX8_undo 33 = .ok (.aload_n 0, 1) := by decide +kernel
theorem dX8_undo_34 : decode cX8_undo 34 = .ok (.getfield 13, 3) := by decide +kernel
theorem dX8_undo_37 : decode cX8_undo 37 = .ok (.bipush 124, 2) := by decide +kernel
theorem dX8_undo_39 : decode cX8_undo 39 = .ok (.aload_n 0, 1) := by decide +kernel
theorem dX8_undo_40 : decode cX8_undo 40 = .ok (.getfield 66, 3) := by decide +kernel
theorem dX8_undo_43 : decode cX8_undo 43 = .ok (.imul, 1) := by decide +kernel
theorem dX8_undo_44 : decode cX8_undo 44 = .ok (.iload_n 1, 1) := by decide +kernel
theorem dX8_undo_45 : decode cX8_undo 45 = .ok (.iadd, 1) := by decide +kernel
theorem dX8_undo_46 : decode cX8_undo 46 = .ok (.iaload, 1) := by decide +kernel
theorem dX8_undo_47 : decode cX8_undo 47 = .ok (.iastore, 1) := by decide +kernel
theorem dX8_undo_48 : decode cX8_undo 48 = .ok (.iinc 1 1, 3) := by decide +kernel
theorem dX8_undo_51 : decode cX8_undo 51 = .ok (.goto (-29), 3) := by decide +kernel
theorem dX8_undo_54 : decode cX8_undo 54 = .ok (.aload_n 0, 1) := by decide +kernel
theorem dX8_undo_55 : decode cX8_undo 55 = .ok (.getfield 66, 3) := by decide +kernel
theorem dX8_undo_58 : decode cX8_undo 58 = .ok (.ireturn, 1) := by decide +kernel
theorem dX8_isNode_0 : decode cX8_isNode 0 = .ok (.iload_n 1, 1) := by decide +kernel
theorem dX8_isNode_1 : decode cX8_isNode 1 = .ok (.iconst 0, 1) := by decide +kernel
theorem dX8_isNode_2 : decode cX8_isNode 2 = .ok (.aload_n 0, 1) := by decide +kernel
theorem dX8_isNode_3 : decode cX8_isNode 3 = .ok (.getfield 7, 3) := by decide +kernel
theorem dX8_isNode_6 : decode cX8_isNode 6 = .ok (.iconst 0, 1) := by decide +kernel
theorem dX8_isNode_7 : decode cX8_isNode 7 = .ok (.iaload, 1) := by decide +kernel
theorem dX8_isNode_8 : decode cX8_isNode 8 = .ok (.iconst 1, 1) := by decide +kernel
theorem dX8_isNode_9 : decode cX8_isNode 9 = .ok (.isub, 1) := by decide +kernel
theorem dX8_isNode_10 : decode cX8_isNode 10 = .ok (.invokestatic 70, 3) := by decide +kernel
theorem dX8_isNode_13 : decode cX8_isNode 13 = .ok (.ireturn, 1) := by decide +kernel
theorem dX8_isEdge_0 : decode cX8_isEdge 0 = .ok (.iload_n 1, 1) := by decide +kernel
theorem dX8_isEdge_1 : decode cX8_isEdge 1 = .ok (.iconst 0, 1) := by decide +kernel
theorem dX8_isEdge_2 : decode cX8_isEdge 2 = .ok (.aload_n 0, 1) := by decide +kernel
theorem dX8_isEdge_3 : decode cX8_isEdge 3 = .ok (.getfield 7, 3) := by decide +kernel
theorem dX8_isEdge_6 : decode cX8_isEdge 6 = .ok (.iconst 1, 1) := by decide +kernel
theorem dX8_isEdge_7 : decode cX8_isEdge 7 = .ok (.iaload, 1) := by decide +kernel
theorem dX8_isEdge_8 : decode cX8_isEdge 8 = .ok (.iconst 1, 1) := by decide +kernel
theorem dX8_isEdge_9 : decode cX8_isEdge 9 = .ok (.isub, 1) := by decide +kernel
theorem dX8_isEdge_10 : decode cX8_isEdge 10 = .ok (.invokestatic 70, 3) := by decide +kernel
theorem dX8_isEdge_13 : decode cX8_isEdge 13 = .ok (.ireturn, 1) := by decide +kernel
theorem dX8_isAt_0 : decode cX8_isAt 0 = .ok (.aload_n 0, 1) := by decide +kernel
theorem dX8_isAt_1 : decode cX8_isAt 1 = .ok (.iload_n 1, 1) := by decide +kernel
theorem dX8_isAt_2 : decode cX8_isAt 2 = .ok (.invokevirtual 74, 3) := by decide +kernel
theorem dX8_isAt_5 : decode cX8_isAt 5 = .ok (.ifCond .eq 32, 3) := by decide +kernel
theorem dX8_isAt_8 : decode cX8_isAt 8 = .ok (.aload_n 0, 1) := by decide +kernel
theorem dX8_isAt_9 : decode cX8_isAt 9 = .ok (.getfield 7, 3) := by decide +kernel
theorem dX8_isAt_12 : decode cX8_isAt 12 = .ok (.iconst 3, 1) := by decide +kernel
theorem dX8_isAt_13 : decode cX8_isAt 13 = .ok (.iload_n 1, 1) := by decide +kernel
theorem dX8_isAt_14 : decode cX8_isAt 14 = .ok (.iadd, 1) := by decide +kernel
theorem dX8_isAt_15 : decode cX8_isAt 15 = .ok (.iaload, 1) := by decide +kernel
theorem dX8_isAt_16 : decode cX8_isAt 16 = .ok (.iload_n 2, 1) := by decide +kernel
theorem dX8_isAt_17 : decode cX8_isAt 17 = .ok (.if_icmp .eq 16, 3) := by decide +kernel
theorem dX8_isAt_20 : decode cX8_isAt 20 = .ok (.aload_n 0, 1) := by decide +kernel
theorem dX8_isAt_21 : decode cX8_isAt 21 = .ok (.getfield 7, 3) := by decide +kernel
theorem dX8_isAt_24 : decode cX8_isAt 24 = .ok (.bipush 23, 2) := by decide +kernel
theorem dX8_isAt_26 : decode cX8_isAt 26 = .ok (.iload_n 1, 1) := by decide +kernel
theorem dX8_isAt_27 : decode cX8_isAt 27 = .ok (.iadd, 1) := by decide +kernel
theorem dX8_isAt_28 : decode cX8_isAt 28 = .ok (.iaload, 1) := by decide +kernel
theorem dX8_isAt_29 : decode cX8_isAt 29 = .ok (.iload_n 2, 1) := by decide +kernel
theorem dX8_isAt_30 : decode cX8_isAt 30 = .ok (.if_icmp .ne 7, 3) := by decide +kernel
theorem dX8_isAt_33 : decode cX8_isAt 33 = .ok (.iconst 1, 1) := by decide +kernel
theorem dX8_isAt_34 : decode cX8_isAt 34 = .ok (.goto 4, 3) := by decide +kernel
theorem dX8_isAt_37 : decode cX8_isAt 37 = .ok (.iconst 0, 1) := by decide +kernel
theorem dX8_isAt_38 : decode cX8_isAt 38 = .ok (.ireturn, 1) := by decide +kernel
theorem dX8_across_0 : decode cX8_across 0 = .ok (.aload_n 0, 1) := by decide +kernel
theorem dX8_across_1 : decode cX8_across 1 = .ok (.getfield 7, 3) := by decide +kernel
theorem dX8_across_4 : decode cX8_across 4 = .ok (.iconst 3, 1) := by decide +kernel
theorem dX8_across_5 : decode cX8_across 5 = .ok (.iload_n 1, 1) := by decide +kernel
theorem dX8_across_6 : decode cX8_across 6 = .ok (.iadd, 1) := by decide +kernel
theorem dX8_across_7 : decode cX8_across 7 = .ok (.iaload, 1) := by decide +kernel
theorem dX8_across_8 : decode cX8_across 8 = .ok (.iload_n 2, 1) := by decide +kernel
theorem dX8_across_9 : decode cX8_across 9 = .ok (.if_icmp .ne 15, 3) := by decide +kernel
theorem dX8_across_12 : decode cX8_across 12 = .ok (.aload_n 0, 1) := by decide +kernel
theorem dX8_across_13 : decode cX8_across 13 = .ok (.getfield 7, 3) := by decide +kernel
theorem dX8_across_16 : decode cX8_across 16 = .ok (.bipush 23, 2) := by decide +kernel
theorem dX8_across_18 : decode cX8_across 18 = .ok (.iload_n 1, 1) := by decide +kernel
theorem dX8_across_19 : decode cX8_across 19 = .ok (.iadd, 1) := by decide +kernel
theorem dX8_across_20 : decode cX8_across 20 = .ok (.iaload, 1) := by decide +kernel
theorem dX8_across_21 : decode cX8_across 21 = .ok (.goto 11, 3) := by decide +kernel
theorem dX8_across_24 : decode cX8_across 24 = .ok (.aload_n 0, 1) := by decide +kernel
theorem dX8_across_25 : decode cX8_across 25 = .ok (.getfield 7, 3) := by decide +kernel
theorem dX8_across_28 : decode cX8_across 28 = .ok (.iconst 3, 1) := by decide +kernel
theorem dX8_across_29 : decode cX8_across 29 = .ok (.iload_n 1, 1) := by decide +kernel
theorem dX8_across_30 : decode cX8_across 30 = .ok (.iadd, 1) := by decide +kernel
theorem dX8_across_31 : decode cX8_across 31 = .ok (.iaload, 1) := by decide +kernel
theorem dX8_across_32 : decode cX8_across 32 = .ok (.ireturn, 1) := by decide +kernel
theorem dX8_turn_0 : decode cX8_turn 0 = .ok (.aload_n 0, 1) := by decide +kernel
theorem dX8_turn_1 : decode cX8_turn 1 = .ok (.getfield 7, 3) := by decide +kernel
theorem dX8_turn_4 : decode cX8_turn 4 = .ok (.bipush 52, 2) := by decide +kernel
theorem dX8_turn_6 : decode cX8_turn 6 = .ok (.bipush 8, 2) := by decide +kernel
theorem dX8_turn_8 : decode cX8_turn 8 = .ok (.iload_n 1, 1) := by decide +kernel
theorem dX8_turn_9 : decode cX8_turn 9 = .ok (.imul, 1) := by decide +kernel
theorem dX8_turn_10 : decode cX8_turn 10 = .ok (.iadd, 1) := by decide +kernel
theorem dX8_turn_11 : decode cX8_turn 11 = .ok (.iload_n 2, 1) := by decide +kernel
theorem dX8_turn_12 : decode cX8_turn 12 = .ok (.iadd, 1) := by decide +kernel
theorem dX8_turn_13 : decode cX8_turn 13 = .ok (.iaload, 1) := by decide +kernel
theorem dX8_turn_14 : decode cX8_turn 14 = .ok (.ireturn, 1) := by decide +kernel
theorem dX8_place_0 : decode cX8_place 0 = .ok (.iconst 0, 1) := by decide +kernel
theorem dX8_place_1 : decode cX8_place 1 = .ok (.istore_n 3, 1) := by decide +kernel
theorem dX8_place_2 : decode cX8_place 2 = .ok (.aload_n 0, 1) := by decide +kernel
theorem dX8_place_3 : decode cX8_place 3 = .ok (.iload_n 1, 1) := by decide +kernel
theorem dX8_place_4 : decode cX8_place 4 = .ok (.iload_n 3, 1) := by decide +kernel
theorem dX8_place_5 : decode cX8_place 5 = .ok (.invokevirtual 78, 3) := by decide +kernel
theorem dX8_place_8 : decode cX8_place 8 = .ok (.iload_n 2, 1) := by decide +kernel
theorem dX8_place_9 : decode cX8_place 9 = .ok (.if_icmp .eq 9, 3) := by decide +kernel
theorem dX8_place_12 : decode cX8_place 12 = .ok (.iinc 3 1, 3) := by decide +kernel
theorem dX8_place_15 : decode cX8_place 15 = .ok (.goto (-13), 3) := by decide +kernel
theorem dX8_place_18 : decode cX8_place 18 = .ok (.iload_n 3, 1) := by decide +kernel
theorem dX8_place_19 : decode cX8_place 19 = .ok (.ireturn, 1) := by decide +kernel
theorem dX8_between_0 : decode cX8_between 0 = .ok (.bipush (-9), 2) := by decide +kernel
theorem dX8_between_2 : decode cX8_between 2 = .ok (.istore_n 3, 1) := by decide +kernel
theorem dX8_between_3 : decode cX8_between 3 = .ok (.iconst 0, 1) := by decide +kernel
theorem dX8_between_4 : decode cX8_between 4 = .ok (.istore 4, 2) := by decide +kernel
theorem dX8_between_6 : decode cX8_between 6 = .ok (.iload 4, 2) := by decide +kernel
theorem dX8_between_8 : decode cX8_between 8 = .ok (.aload_n 0, 1) := by decide +kernel
theorem dX8_between_9 : decode cX8_between 9 = .ok (.getfield 7, 3) := by decide +kernel
theorem dX8_between_12 : decode cX8_between 12 = .ok (.iconst 1, 1) := by decide +kernel
theorem dX8_between_13 : decode cX8_between 13 = .ok (.iaload, 1) := by decide +kernel
theorem dX8_between_14 : decode cX8_between 14 = .ok (.if_icmp .ge 36, 3) := by decide +kernel
theorem dX8_between_17 : decode cX8_between 17 = .ok (.aload_n 0, 1) := by decide +kernel
theorem dX8_between_18 : decode cX8_between 18 = .ok (.iload 4, 2) := by decide +kernel
theorem dX8_between_20 : decode cX8_between 20 = .ok (.iload_n 1, 1) := by decide +kernel
theorem dX8_between_21 : decode cX8_between 21 = .ok (.invokevirtual 82, 3) := by decide +kernel
theorem dX8_between_24 : decode cX8_between 24 = .ok (.ifCond .eq 18, 3) := by decide +kernel
theorem dX8_between_27 : decode cX8_between 27 = .ok (.aload_n 0, 1) := by decide +kernel
theorem dX8_between_28 : decode cX8_between 28 = .ok (.iload 4, 2) := by decide +kernel
theorem dX8_between_30 : decode cX8_between 30 = .ok (.iload_n 2, 1) := by decide +kernel
theorem dX8_between_31 : decode cX8_between 31 = .ok (.invokevirtual 82, 3) := by decide +kernel
theorem dX8_between_34 : decode cX8_between 34 = .ok (.ifCond .eq 8, 3) := by decide +kernel
theorem dX8_between_37 : decode cX8_between 37 = .ok (.iload 4, 2) := by decide +kernel
theorem dX8_between_39 : decode cX8_between 39 = .ok (.goto 4, 3) := by decide +kernel
theorem dX8_between_42 : decode cX8_between 42 = .ok (.iload_n 3, 1) := by decide +kernel
theorem dX8_between_43 : decode cX8_between 43 = .ok (.istore_n 3, 1) := by decide +kernel
theorem dX8_between_44 : decode cX8_between 44 = .ok (.iinc 4 1, 3) := by decide +kernel
theorem dX8_between_47 : decode cX8_between 47 = .ok (.goto (-41), 3) := by decide +kernel
theorem dX8_between_50 : decode cX8_between 50 = .ok (.iload_n 3, 1) := by decide +kernel
theorem dX8_between_51 : decode cX8_between 51 = .ok (.ireturn, 1) := by decide +kernel
theorem dX8_puts_0 : decode cX8_puts 0 = .ok (.aload_n 0, 1) := by decide +kernel
theorem dX8_puts_1 : decode cX8_puts 1 = .ok (.getfield 7, 3) := by decide +kernel
theorem dX8_puts_4 : decode cX8_puts 4 = .ok (.bipush 43, 2) := by decide +kernel
theorem dX8_puts_6 : decode cX8_puts 6 = .ok (.iload_n 1, 1) := by decide +kernel
theorem dX8_puts_7 : decode cX8_puts 7 = .ok (.iadd, 1) := by decide +kernel
theorem dX8_puts_8 : decode cX8_puts 8 = .ok (.iaload, 1) := by decide +kernel
theorem dX8_puts_9 : decode cX8_puts 9 = .ok (.istore 4, 2) := by decide +kernel
theorem dX8_puts_11 : decode cX8_puts 11 = .ok (.iload 4, 2) := by decide +kernel
theorem dX8_puts_13 : decode cX8_puts 13 = .ok (.iload_n 2, 1) := by decide +kernel
theorem dX8_puts_14 : decode cX8_puts 14 = .ok (.if_icmp .le 41, 3) := by decide +kernel
theorem dX8_puts_17 : decode cX8_puts 17 = .ok (.aload_n 0, 1) := by decide +kernel
theorem dX8_puts_18 : decode cX8_puts 18 = .ok (.getfield 7, 3) := by decide +kernel
theorem dX8_puts_21 : decode cX8_puts 21 = .ok (.bipush 52, 2) := by decide +kernel
theorem dX8_puts_23 : decode cX8_puts 23 = .ok (.bipush 8, 2) := by decide +kernel
theorem dX8_puts_25 : decode cX8_puts 25 = .ok (.iload_n 1, 1) := by decide +kernel
theorem dX8_puts_26 : decode cX8_puts 26 = .ok (.imul, 1) := by decide +kernel
theorem dX8_puts_27 : decode cX8_puts 27 = .ok (.iadd, 1) := by decide +kernel
theorem dX8_puts_28 : decode cX8_puts 28 = .ok (.iload 4, 2) := by decide +kernel
theorem dX8_puts_30 : decode cX8_puts 30 = .ok (.iadd, 1) := by decide +kernel
theorem dX8_puts_31 : decode cX8_puts 31 = .ok (.aload_n 0, 1) := by decide +kernel
theorem dX8_puts_32 : decode cX8_puts 32 = .ok (.getfield 7, 3) := by decide +kernel
theorem dX8_puts_35 : decode cX8_puts 35 = .ok (.bipush 52, 2) := by decide +kernel
theorem dX8_puts_37 : decode cX8_puts 37 = .ok (.bipush 8, 2) := by decide +kernel
theorem dX8_puts_39 : decode cX8_puts 39 = .ok (.iload_n 1, 1) := by decide +kernel
theorem dX8_puts_40 : decode cX8_puts 40 = .ok (.imul, 1) := by decide +kernel
theorem dX8_puts_41 : decode cX8_puts 41 = .ok (.iadd, 1) := by decide +kernel
theorem dX8_puts_42 : decode cX8_puts 42 = .ok (.iload 4, 2) := by decide +kernel
theorem dX8_puts_44 : decode cX8_puts 44 = .ok (.iadd, 1) := by decide +kernel
theorem dX8_puts_45 : decode cX8_puts 45 = .ok (.iconst 1, 1) := by decide +kernel
theorem dX8_puts_46 : decode cX8_puts 46 = .ok (.isub, 1) := by decide +kernel
theorem dX8_puts_47 : decode cX8_puts 47 = .ok (.iaload, 1) := by decide +kernel
theorem dX8_puts_48 : decode cX8_puts 48 = .ok (.iastore, 1) := by decide +kernel
theorem dX8_puts_49 : decode cX8_puts 49 = .ok (.iinc 4 (-1), 3) := by decide +kernel
theorem dX8_puts_52 : decode cX8_puts 52 = .ok (.goto (-41), 3) := by decide +kernel
theorem dX8_puts_55 : decode cX8_puts 55 = .ok (.aload_n 0, 1) := by decide +kernel
theorem dX8_puts_56 : decode cX8_puts 56 = .ok (.getfield 7, 3) := by decide +kernel
theorem dX8_puts_59 : decode cX8_puts 59 = .ok (.bipush 52, 2) := by decide +kernel
theorem dX8_puts_61 : decode cX8_puts 61 = .ok (.bipush 8, 2) := by decide +kernel
theorem dX8_puts_63 : decode cX8_puts 63 = .ok (.iload_n 1, 1) := by decide +kernel
theorem dX8_puts_64 : decode cX8_puts 64 = .ok (.imul, 1) := by decide +kernel
theorem dX8_puts_65 : decode cX8_puts 65 = .ok (.iadd, 1) := by decide +kernel
theorem dX8_puts_66 : decode cX8_puts 66 = .ok (.iload_n 2, 1) := by decide +kernel
theorem dX8_puts_67 : decode cX8_puts 67 = .ok (.iadd, 1) := by decide +kernel
theorem dX8_puts_68 : decode cX8_puts 68 = .ok (.iload_n 3, 1) := by decide +kernel
theorem dX8_puts_69 : decode cX8_puts 69 = .ok (.iastore, 1) := by decide +kernel
theorem dX8_puts_70 : decode cX8_puts 70 = .ok (.aload_n 0, 1) := by decide +kernel
theorem dX8_puts_71 : decode cX8_puts 71 = .ok (.getfield 7, 3) := by decide +kernel
theorem dX8_puts_74 : decode cX8_puts 74 = .ok (.bipush 43, 2) := by decide +kernel
theorem dX8_puts_76 : decode cX8_puts 76 = .ok (.iload_n 1, 1) := by decide +kernel
theorem dX8_puts_77 : decode cX8_puts 77 = .ok (.iadd, 1) := by decide +kernel
theorem dX8_puts_78 : decode cX8_puts 78 = .ok (.dup2, 1) := by decide +kernel
theorem dX8_puts_79 : decode cX8_puts 79 = .ok (.iaload, 1) := by decide +kernel
theorem dX8_puts_80 : decode cX8_puts 80 = .ok (.iconst 1, 1) := by decide +kernel
theorem dX8_puts_81 : decode cX8_puts 81 = .ok (.iadd, 1) := by decide +kernel
theorem dX8_puts_82 : decode cX8_puts 82 = .ok (.iastore, 1) := by decide +kernel
theorem dX8_puts_83 : decode cX8_puts 83 = .ok (.return_, 1) := by decide +kernel
theorem dX8_joins_0 : decode cX8_joins 0 = .ok (.aload_n 0, 1) := by decide +kernel
theorem dX8_joins_1 : decode cX8_joins 1 = .ok (.getfield 7, 3) := by decide +kernel
theorem dX8_joins_4 : decode cX8_joins 4 = .ok (.iconst 1, 1) := by decide +kernel
theorem dX8_joins_5 : decode cX8_joins 5 = .ok (.iaload, 1) := by decide +kernel
theorem dX8_joins_6 : decode cX8_joins 6 = .ok (.istore 5, 2) := by decide +kernel
theorem dX8_joins_8 : decode cX8_joins 8 = .ok (.aload_n 0, 1) := by decide +kernel
theorem dX8_joins_9 : decode cX8_joins 9 = .ok (.getfield 7, 3) := by decide +kernel
theorem dX8_joins_12 : decode cX8_joins 12 = .ok (.iconst 3, 1) := by decide +kernel
theorem dX8_joins_13 : decode cX8_joins 13 = .ok (.iload 5, 2) := by decide +kernel
theorem dX8_joins_15 : decode cX8_joins 15 = .ok (.iadd, 1) := by decide +kernel
theorem dX8_joins_16 : decode cX8_joins 16 = .ok (.iload_n 1, 1) := by decide +kernel
theorem dX8_joins_17 : decode cX8_joins 17 = .ok (.iload_n 2, 1) := by decide +kernel
theorem dX8_joins_18 : decode cX8_joins 18 = .ok (.if_icmp .ge 7, 3) := by decide +kernel
theorem dX8_joins_21 : decode cX8_joins 21 = .ok (.iload_n 1, 1) := by decide +kernel
theorem dX8_joins_22 : decode cX8_joins 22 = .ok (.goto 4, 3) := by decide +kernel
theorem dX8_joins_25 : decode cX8_joins 25 = .ok (.iload_n 2, 1) := by decide +kernel
theorem dX8_joins_26 : decode cX8_joins 26 = .ok (.iastore, 1) := by decide +kernel
theorem dX8_joins_27 : decode cX8_joins 27 = .ok (.aload_n 0, 1) := by decide +kernel
theorem dX8_joins_28 : decode cX8_joins 28 = .ok (.getfield 7, 3) := by decide +kernel
theorem dX8_joins_31 : decode cX8_joins 31 = .ok (.bipush 23, 2) := by decide +kernel
theorem dX8_joins_33 : decode cX8_joins 33 = .ok (.iload 5, 2) := by decide +kernel
theorem dX8_joins_35 : decode cX8_joins 35 = .ok (.iadd, 1) := by decide +kernel
theorem dX8_joins_36 : decode cX8_joins 36 = .ok (.iload_n 1, 1) := by decide +kernel
theorem dX8_joins_37 : decode cX8_joins 37 = .ok (.iload_n 2, 1) := by decide +kernel
theorem dX8_joins_38 : decode cX8_joins 38 = .ok (.if_icmp .ge 7, 3) := by decide +kernel
theorem dX8_joins_41 : decode cX8_joins 41 = .ok (.iload_n 2, 1) := by decide +kernel
theorem dX8_joins_42 : decode cX8_joins 42 = .ok (.goto 4, 3) := by decide +kernel
theorem dX8_joins_45 : decode cX8_joins 45 = .ok (.iload_n 1, 1) := by decide +kernel
theorem dX8_joins_46 : decode cX8_joins 46 = .ok (.iastore, 1) := by decide +kernel
theorem dX8_joins_47 : decode cX8_joins 47 = .ok (.aload_n 0, 1) := by decide +kernel
theorem dX8_joins_48 : decode cX8_joins 48 = .ok (.iload_n 1, 1) := by decide +kernel
theorem dX8_joins_49 : decode cX8_joins 49 = .ok (.iload_n 3, 1) := by decide +kernel
theorem dX8_joins_50 : decode cX8_joins 50 = .ok (.iload 5, 2) := by decide +kernel
theorem dX8_joins_52 : decode cX8_joins 52 = .ok (.invokevirtual 86, 3) := by decide +kernel
theorem dX8_joins_55 : decode cX8_joins 55 = .ok (.aload_n 0, 1) := by decide +kernel
theorem dX8_joins_56 : decode cX8_joins 56 = .ok (.iload_n 2, 1) := by decide +kernel
theorem dX8_joins_57 : decode cX8_joins 57 = .ok (.iload 4, 2) := by decide +kernel
theorem dX8_joins_59 : decode cX8_joins 59 = .ok (.iload 5, 2) := by decide +kernel
theorem dX8_joins_61 : decode cX8_joins 61 = .ok (.invokevirtual 86, 3) := by decide +kernel
theorem dX8_joins_64 : decode cX8_joins 64 = .ok (.aload_n 0, 1) := by decide +kernel
theorem dX8_joins_65 : decode cX8_joins 65 = .ok (.getfield 7, 3) := by decide +kernel
theorem dX8_joins_68 : decode cX8_joins 68 = .ok (.iconst 1, 1) := by decide +kernel
theorem dX8_joins_69 : decode cX8_joins 69 = .ok (.dup2, 1) := by decide +kernel
theorem dX8_joins_70 : decode cX8_joins 70 = .ok (.iaload, 1) := by decide +kernel
theorem dX8_joins_71 : decode cX8_joins 71 = .ok (.iconst 1, 1) := by decide +kernel
theorem dX8_joins_72 : decode cX8_joins 72 = .ok (.iadd, 1) := by decide +kernel
theorem dX8_joins_73 : decode cX8_joins 73 = .ok (.iastore, 1) := by decide +kernel
theorem dX8_joins_74 : decode cX8_joins 74 = .ok (.aload_n 0, 1) := by decide +kernel
theorem dX8_joins_75 : decode cX8_joins 75 = .ok (.getfield 7, 3) := by decide +kernel
theorem dX8_joins_78 : decode cX8_joins 78 = .ok (.iconst 2, 1) := by decide +kernel
theorem dX8_joins_79 : decode cX8_joins 79 = .ok (.iconst 0, 1) := by decide +kernel
theorem dX8_joins_80 : decode cX8_joins 80 = .ok (.iastore, 1) := by decide +kernel
theorem dX8_joins_81 : decode cX8_joins 81 = .ok (.iload 5, 2) := by decide +kernel
theorem dX8_joins_83 : decode cX8_joins 83 = .ok (.ireturn, 1) := by decide +kernel
theorem dX8_empties_0 : decode cX8_empties 0 = .ok (.iconst 0, 1) := by decide +kernel
theorem dX8_empties_1 : decode cX8_empties 1 = .ok (.istore_n 2, 1) := by decide +kernel
theorem dX8_empties_2 : decode cX8_empties 2 = .ok (.iload_n 2, 1) := by decide +kernel
theorem dX8_empties_3 : decode cX8_empties 3 = .ok (.bipush 124, 2) := by decide +kernel
theorem dX8_empties_5 : decode cX8_empties 5 = .ok (.if_icmp .ge 16, 3) := by decide +kernel
theorem dX8_empties_8 : decode cX8_empties 8 = .ok (.aload_n 0, 1) := by decide +kernel
theorem dX8_empties_9 : decode cX8_empties 9 = .ok (.getfield 7, 3) := by decide +kernel
theorem dX8_empties_12 : decode cX8_empties 12 = .ok (.iload_n 2, 1) := by decide +kernel
theorem dX8_empties_13 : decode cX8_empties 13 = .ok (.iconst 0, 1) := by decide +kernel
theorem dX8_empties_14 : decode cX8_empties 14 = .ok (.iastore, 1) := by decide +kernel
theorem dX8_empties_15 : decode cX8_empties 15 = .ok (.iinc 2 1, 3) := by decide +kernel
theorem dX8_empties_18 : decode cX8_empties 18 = .ok (.goto (-16), 3) := by decide +kernel
theorem dX8_empties_21 : decode cX8_empties 21 = .ok (.aload_n 0, 1) := by decide +kernel
theorem dX8_empties_22 : decode cX8_empties 22 = .ok (.getfield 7, 3) := by decide +kernel
theorem dX8_empties_25 : decode cX8_empties 25 = .ok (.iconst 0, 1) := by decide +kernel
theorem dX8_empties_26 : decode cX8_empties 26 = .ok (.iload_n 1, 1) := by decide +kernel
theorem dX8_empties_27 : decode cX8_empties 27 = .ok (.iastore, 1) := by decide +kernel
theorem dX8_empties_28 : decode cX8_empties 28 = .ok (.return_, 1) := by decide +kernel
theorem dX8_setNodes_0 : decode cX8_setNodes 0 = .ok (.iload_n 1, 1) := by decide +kernel
theorem dX8_setNodes_1 : decode cX8_setNodes 1 = .ok (.iconst 2, 1) := by decide +kernel
theorem dX8_setNodes_2 : decode cX8_setNodes 2 = .ok (.bipush 9, 2) := by decide +kernel
theorem dX8_setNodes_4 : decode cX8_setNodes 4 = .ok (.invokestatic 70, 3) := by decide +kernel
theorem dX8_setNodes_7 : decode cX8_setNodes 7 = .ok (.ifCond .ne 5, 3) := by decide +kernel
theorem dX8_setNodes_10 : decode cX8_setNodes 10 = .ok (.iconst (-1), 1) := by decide +kernel
theorem dX8_setNodes_11 : decode cX8_setNodes 11 = .ok (.ireturn, 1) := by decide +kernel
theorem dX8_setNodes_12 : decode cX8_setNodes 12 = .ok (.aload_n 0, 1) := by decide +kernel
theorem dX8_setNodes_13 : decode cX8_setNodes 13 = .ok (.invokevirtual 90, 3) := by decide +kernel
theorem dX8_setNodes_16 : decode cX8_setNodes 16 = .ok (.aload_n 0, 1) := by decide +kernel
theorem dX8_setNodes_17 : decode cX8_setNodes 17 = .ok (.getfield 7, 3) := by decide +kernel
theorem dX8_setNodes_20 : decode cX8_setNodes 20 = .ok (.iconst 0, 1) := by decide +kernel
theorem dX8_setNodes_21 : decode cX8_setNodes 21 = .ok (.iaload, 1) := by decide +kernel
theorem dX8_setNodes_22 : decode cX8_setNodes 22 = .ok (.istore_n 2, 1) := by decide +kernel
theorem dX8_setNodes_23 : decode cX8_setNodes 23 = .ok (.aload_n 0, 1) := by decide +kernel
theorem dX8_setNodes_24 : decode cX8_setNodes 24 = .ok (.iload_n 1, 1) := by decide +kernel
theorem dX8_setNodes_25 : decode cX8_setNodes 25 = .ok (.invokevirtual 93, 3) := by decide +kernel
theorem dX8_setNodes_28 : decode cX8_setNodes 28 = .ok (.iload_n 2, 1) := by decide +kernel
theorem dX8_setNodes_29 : decode cX8_setNodes 29 = .ok (.ireturn, 1) := by decide +kernel
theorem dX8_areNodes_0 : decode cX8_areNodes 0 = .ok (.aload_n 0, 1) := by decide +kernel
theorem dX8_areNodes_1 : decode cX8_areNodes 1 = .ok (.iload_n 1, 1) := by decide +kernel
theorem dX8_areNodes_2 : decode cX8_areNodes 2 = .ok (.invokevirtual 97, 3) := by decide +kernel
theorem dX8_areNodes_5 : decode cX8_areNodes 5 = .ok (.ifCond .eq 20, 3) := by decide +kernel
theorem dX8_areNodes_8 : decode cX8_areNodes 8 = .ok (.aload_n 0, 1) := by decide +kernel
theorem dX8_areNodes_9 : decode cX8_areNodes 9 = .ok (.iload_n 2, 1) := by decide +kernel
theorem dX8_areNodes_10 : decode cX8_areNodes 10 = .ok (.invokevirtual 97, 3) := by decide +kernel
theorem dX8_areNodes_13 : decode cX8_areNodes 13 = .ok (.ifCond .eq 12, 3) := by decide +kernel
theorem dX8_areNodes_16 : decode cX8_areNodes 16 = .ok (.iload_n 1, 1) := by decide +kernel
theorem dX8_areNodes_17 : decode cX8_areNodes 17 = .ok (.iload_n 2, 1) := by decide +kernel
theorem dX8_areNodes_18 : decode cX8_areNodes 18 = .ok (.if_icmp .eq 7, 3) := by decide +kernel
theorem dX8_areNodes_21 : decode cX8_areNodes 21 = .ok (.iconst 1, 1) := by decide +kernel
theorem dX8_areNodes_22 : decode cX8_areNodes 22 = .ok (.goto 4, 3) := by decide +kernel
theorem dX8_areNodes_25 : decode cX8_areNodes 25 = .ok (.iconst 0, 1) := by decide +kernel
theorem dX8_areNodes_26 : decode cX8_areNodes 26 = .ok (.ireturn, 1) := by decide +kernel
theorem dX8_addEdge_0 : decode cX8_addEdge 0 = .ok (.aload_n 0, 1) := by decide +kernel
theorem dX8_addEdge_1 : decode cX8_addEdge 1 = .ok (.iload_n 1, 1) := by decide +kernel
theorem dX8_addEdge_2 : decode cX8_addEdge 2 = .ok (.iload_n 2, 1) := by decide +kernel
theorem dX8_addEdge_3 : decode cX8_addEdge 3 = .ok (.invokevirtual 100, 3) := by decide +kernel
theorem dX8_addEdge_6 : decode cX8_addEdge 6 = .ok (.ifCond .eq 33, 3) := by decide +kernel
theorem dX8_addEdge_9 : decode cX8_addEdge 9 = .ok (.iload_n 3, 1) := by decide +kernel
theorem dX8_addEdge_10 : decode cX8_addEdge 10 = .ok (.iconst (-1), 1) := by decide +kernel
theorem dX8_addEdge_11 : decode cX8_addEdge 11 = .ok (.if_icmp .eq 12, 3) := by decide +kernel
theorem dX8_addEdge_14 : decode cX8_addEdge 14 = .ok (.aload_n 0, 1) := by decide +kernel
theorem dX8_addEdge_15 : decode cX8_addEdge 15 = .ok (.iload_n 3, 1) := by decide +kernel
theorem dX8_addEdge_16 : decode cX8_addEdge 16 = .ok (.iload_n 1, 1) := by decide +kernel
theorem dX8_addEdge_17 : decode cX8_addEdge 17 = .ok (.invokevirtual 82, 3) := by decide +kernel
theorem dX8_addEdge_20 : decode cX8_addEdge 20 = .ok (.ifCond .eq 19, 3) := by decide +kernel
theorem dX8_addEdge_23 : decode cX8_addEdge 23 = .ok (.iload 4, 2) := by decide +kernel
theorem dX8_addEdge_25 : decode cX8_addEdge 25 = .ok (.iconst (-1), 1) := by decide +kernel
theorem dX8_addEdge_26 : decode cX8_addEdge 26 = .ok (.if_icmp .eq 15, 3) := by decide +kernel
theorem dX8_addEdge_29 : decode cX8_addEdge 29 = .ok (.aload_n 0, 1) := by decide +kernel
theorem dX8_addEdge_30 : decode cX8_addEdge 30 = .ok (.iload 4, 2) := by decide +kernel
theorem dX8_addEdge_32 : decode cX8_addEdge 32 = .ok (.iload_n 2, 1) := by decide +kernel
theorem dX8_addEdge_33 : decode cX8_addEdge 33 = .ok (.invokevirtual 82, 3) := by decide +kernel
theorem dX8_addEdge_36 : decode cX8_addEdge 36 = .ok (.ifCond .ne 5, 3) := by decide +kernel
theorem dX8_addEdge_39 : decode cX8_addEdge 39 = .ok (.iconst (-1), 1) := by decide +kernel
theorem dX8_addEdge_40 : decode cX8_addEdge 40 = .ok (.ireturn, 1) := by decide +kernel
theorem dX8_addEdge_41 : decode cX8_addEdge 41 = .ok (.aload_n 0, 1) := by decide +kernel
theorem dX8_addEdge_42 : decode cX8_addEdge 42 = .ok (.iload_n 1, 1) := by decide +kernel
theorem dX8_addEdge_43 : decode cX8_addEdge 43 = .ok (.iload_n 2, 1) := by decide +kernel
theorem dX8_addEdge_44 : decode cX8_addEdge 44 = .ok (.invokevirtual 103, 3) := by decide +kernel
theorem dX8_addEdge_47 : decode cX8_addEdge 47 = .ok (.bipush (-9), 2) := by decide +kernel
theorem dX8_addEdge_49 : decode cX8_addEdge 49 = .ok (.if_icmp .eq 6, 3) := by decide +kernel
theorem dX8_addEdge_52 : decode cX8_addEdge 52 = .ok (.bipush (-2), 2) := by decide +kernel
theorem dX8_addEdge_54 : decode cX8_addEdge 54 = .ok (.ireturn, 1) := by decide +kernel
theorem dX8_addEdge_55 : decode cX8_addEdge 55 = .ok (.aload_n 0, 1) := by decide +kernel
theorem dX8_addEdge_56 : decode cX8_addEdge 56 = .ok (.getfield 7, 3) := by decide +kernel
theorem dX8_addEdge_59 : decode cX8_addEdge 59 = .ok (.iconst 1, 1) := by decide +kernel
theorem dX8_addEdge_60 : decode cX8_addEdge 60 = .ok (.iaload, 1) := by decide +kernel
theorem dX8_addEdge_61 : decode cX8_addEdge 61 = .ok (.bipush 20, 2) := by decide +kernel
theorem dX8_addEdge_63 : decode cX8_addEdge 63 = .ok (.if_icmp .ne 6, 3) := by decide +kernel
theorem dX8_addEdge_66 : decode cX8_addEdge 66 = .ok (.bipush (-3), 2) := by decide +kernel
theorem dX8_addEdge_68 : decode cX8_addEdge 68 = .ok (.ireturn, 1) := by decide +kernel
theorem dX8_addEdge_69 : decode cX8_addEdge 69 = .ok (.aload_n 0, 1) := by decide +kernel
theorem dX8_addEdge_70 : decode cX8_addEdge 70 = .ok (.invokevirtual 90, 3) := by decide +kernel
theorem dX8_addEdge_73 : decode cX8_addEdge 73 = .ok (.aload_n 0, 1) := by decide +kernel
theorem dX8_addEdge_74 : decode cX8_addEdge 74 = .ok (.iload_n 1, 1) := by decide +kernel
theorem dX8_addEdge_75 : decode cX8_addEdge 75 = .ok (.iload_n 2, 1) := by decide +kernel
theorem dX8_addEdge_76 : decode cX8_addEdge 76 = .ok (.iload_n 3, 1) := by decide +kernel
theorem dX8_addEdge_77 : decode cX8_addEdge 77 = .ok (.iconst (-1), 1) := by decide +kernel
theorem dX8_addEdge_78 : decode cX8_addEdge 78 = .ok (.if_icmp .ne 7, 3) := by decide +kernel
theorem dX8_addEdge_81 : decode cX8_addEdge 81 = .ok (.iconst 0, 1) := by decide +kernel
theorem dX8_addEdge_82 : decode cX8_addEdge 82 = .ok (.goto 11, 3) := by decide +kernel
theorem dX8_addEdge_85 : decode cX8_addEdge 85 = .ok (.aload_n 0, 1) := by decide +kernel
theorem dX8_addEdge_86 : decode cX8_addEdge 86 = .ok (.iload_n 1, 1) := by decide +kernel
theorem dX8_addEdge_87 : decode cX8_addEdge 87 = .ok (.iload_n 3, 1) := by decide +kernel
theorem dX8_addEdge_88 : decode cX8_addEdge 88 = .ok (.invokevirtual 106, 3) := by decide +kernel
theorem dX8_addEdge_91 : decode cX8_addEdge 91 = .ok (.iconst 1, 1) := by decide +kernel
theorem dX8_addEdge_92 : decode cX8_addEdge 92 = .ok (.iadd, 1) := by decide +kernel
theorem dX8_addEdge_93 : decode cX8_addEdge 93 = .ok (.iload 4, 2) := by decide +kernel
theorem dX8_addEdge_95 : decode cX8_addEdge 95 = .ok (.iconst (-1), 1) := by decide +kernel
theorem dX8_addEdge_96 : decode cX8_addEdge 96 = .ok (.if_icmp .ne 7, 3) := by decide +kernel
theorem dX8_addEdge_99 : decode cX8_addEdge 99 = .ok (.iconst 0, 1) := by decide +kernel
theorem dX8_addEdge_100 : decode cX8_addEdge 100 = .ok (.goto 12, 3) := by decide +kernel
theorem dX8_addEdge_103 : decode cX8_addEdge 103 = .ok (.aload_n 0, 1) := by decide +kernel
theorem dX8_addEdge_104 : decode cX8_addEdge 104 = .ok (.iload_n 2, 1) := by decide +kernel
theorem dX8_addEdge_105 : decode cX8_addEdge 105 = .ok (.iload 4, 2) := by decide +kernel
theorem dX8_addEdge_107 : decode cX8_addEdge 107 = .ok (.invokevirtual 106, 3) := by decide +kernel
theorem dX8_addEdge_110 : decode cX8_addEdge 110 = .ok (.iconst 1, 1) := by decide +kernel
theorem dX8_addEdge_111 : decode cX8_addEdge 111 = .ok (.iadd, 1) := by decide +kernel
theorem dX8_addEdge_112 : decode cX8_addEdge 112 = .ok (.invokevirtual 109, 3) := by decide +kernel
theorem dX8_addEdge_115 : decode cX8_addEdge 115 = .ok (.ireturn, 1) := by decide +kernel
theorem dX8_removeEdge_0 : decode cX8_removeEdge 0 = .ok (.aload_n 0, 1) := by decide +kernel
theorem dX8_removeEdge_1 : decode cX8_removeEdge 1 = .ok (.iload_n 1, 1) := by decide +kernel
theorem dX8_removeEdge_2 : decode cX8_removeEdge 2 = .ok (.invokevirtual 74, 3) := by decide +kernel
theorem dX8_removeEdge_5 : decode cX8_removeEdge 5 = .ok (.ifCond .ne 5, 3) := by decide +kernel
theorem dX8_removeEdge_8 : decode cX8_removeEdge 8 = .ok (.iconst (-1), 1) := by decide +kernel
theorem dX8_removeEdge_9 : decode cX8_removeEdge 9 = .ok (.ireturn, 1) := by decide +kernel
theorem dX8_removeEdge_10 : decode cX8_removeEdge 10 = .ok (.aload_n 0, 1) := by decide +kernel
theorem dX8_removeEdge_11 : decode cX8_removeEdge 11 = .ok (.invokevirtual 90, 3) := by decide +kernel
theorem dX8_removeEdge_14 : decode cX8_removeEdge 14 = .ok (.iconst 0, 1) := by decide +kernel
theorem dX8_removeEdge_15 : decode cX8_removeEdge 15 = .ok (.istore_n 2, 1) := by decide +kernel
theorem dX8_removeEdge_16 : decode cX8_removeEdge 16 = .ok (.iload_n 2, 1) := by decide +kernel
theorem dX8_removeEdge_17 : decode cX8_removeEdge 17 = .ok (.aload_n 0, 1) := by decide +kernel
theorem dX8_removeEdge_18 : decode cX8_removeEdge 18 = .ok (.getfield 7, 3) := by decide +kernel
theorem dX8_removeEdge_21 : decode cX8_removeEdge 21 = .ok (.iconst 0, 1) := by decide +kernel
theorem dX8_removeEdge_22 : decode cX8_removeEdge 22 = .ok (.iaload, 1) := by decide +kernel
theorem dX8_removeEdge_23 : decode cX8_removeEdge 23 = .ok (.if_icmp .ge 96, 3) := by decide +kernel
theorem dX8_removeEdge_26 : decode cX8_removeEdge 26 = .ok (.iconst 0, 1) := by decide +kernel
theorem dX8_removeEdge_27 : decode cX8_removeEdge 27 = .ok (.istore_n 3, 1) := by decide +kernel
theorem dX8_removeEdge_28 : decode cX8_removeEdge 28 = .ok (.iconst 0, 1) := by decide +kernel
theorem dX8_removeEdge_29 : decode cX8_removeEdge 29 = .ok (.istore 4, 2) := by decide +kernel
theorem dX8_removeEdge_31 : decode cX8_removeEdge 31 = .ok (.iload 4, 2) := by decide +kernel
theorem dX8_removeEdge_33 : decode cX8_removeEdge 33 = .ok (.aload_n 0, 1) := by decide +kernel
theorem dX8_removeEdge_34 : decode cX8_removeEdge 34 = .ok (.getfield 7, 3) := by decide +kernel
theorem dX8_removeEdge_37 : decode cX8_removeEdge 37 = .ok (.bipush 43, 2) := by decide +kernel
theorem dX8_removeEdge_39 : decode cX8_removeEdge 39 = .ok (.iload_n 2, 1) := by decide +kernel
theorem dX8_removeEdge_40 : decode cX8_removeEdge 40 = .ok (.iadd, 1) := by decide +kernel
theorem dX8_removeEdge_41 : decode cX8_removeEdge 41 = .ok (.iaload, 1) := by decide +kernel
theorem dX8_removeEdge_42 : decode cX8_removeEdge 42 = .ok (.if_icmp .ge 61, 3) := by decide +kernel
theorem dX8_removeEdge_45 : decode cX8_removeEdge 45 = .ok (.aload_n 0, 1) := by decide +kernel
theorem dX8_removeEdge_46 : decode cX8_removeEdge 46 = .ok (.iload_n 2, 1) := by decide +kernel
theorem dX8_removeEdge_47 : decode cX8_removeEdge 47 = .ok (.iload 4, 2) := by decide +kernel
theorem dX8_removeEdge_49 : decode cX8_removeEdge 49 = .ok (.invokevirtual 78, 3) := by decide +kernel
theorem dX8_removeEdge_52 : decode cX8_removeEdge 52 = .ok (.istore 5, 2) := by decide +kernel
theorem dX8_removeEdge_54 : decode cX8_removeEdge 54 = .ok (.aload_n 0, 1) := by decide +kernel
theorem dX8_removeEdge_55 : decode cX8_removeEdge 55 = .ok (.getfield 7, 3) := by decide +kernel
theorem dX8_removeEdge_58 : decode cX8_removeEdge 58 = .ok (.bipush 52, 2) := by decide +kernel
theorem dX8_removeEdge_60 : decode cX8_removeEdge 60 = .ok (.bipush 8, 2) := by decide +kernel
theorem dX8_removeEdge_62 : decode cX8_removeEdge 62 = .ok (.iload_n 2, 1) := by decide +kernel
theorem dX8_removeEdge_63 : decode cX8_removeEdge 63 = .ok (.imul, 1) := by decide +kernel
theorem dX8_removeEdge_64 : decode cX8_removeEdge 64 = .ok (.iadd, 1) := by decide +kernel
theorem dX8_removeEdge_65 : decode cX8_removeEdge 65 = .ok (.iload_n 3, 1) := by decide +kernel
theorem dX8_removeEdge_66 : decode cX8_removeEdge 66 = .ok (.iadd, 1) := by decide +kernel
theorem dX8_removeEdge_67 : decode cX8_removeEdge 67 = .ok (.iload 5, 2) := by decide +kernel
theorem dX8_removeEdge_69 : decode cX8_removeEdge 69 = .ok (.iload_n 1, 1) := by decide +kernel
theorem dX8_removeEdge_70 : decode cX8_removeEdge 70 = .ok (.if_icmp .le 10, 3) := by decide +kernel
theorem dX8_removeEdge_73 : decode cX8_removeEdge 73 = .ok (.iload 5, 2) := by decide +kernel
theorem dX8_removeEdge_75 : decode cX8_removeEdge 75 = .ok (.iconst 1, 1) := by decide +kernel
theorem dX8_removeEdge_76 : decode cX8_removeEdge 76 = .ok (.isub, 1) := by decide +kernel
theorem dX8_removeEdge_77 : decode cX8_removeEdge 77 = .ok (.goto 5, 3) := by decide +kernel
theorem dX8_removeEdge_80 : decode cX8_removeEdge 80 = .ok (.iload 5, 2) := by decide +kernel
theorem dX8_removeEdge_82 : decode cX8_removeEdge 82 = .ok (.iastore, 1) := by decide +kernel
theorem dX8_removeEdge_83 : decode cX8_removeEdge 83 = .ok (.iload_n 3, 1) := by decide +kernel
theorem dX8_removeEdge_84 : decode cX8_removeEdge 84 = .ok (.iload 5, 2) := by decide +kernel
theorem dX8_removeEdge_86 : decode cX8_removeEdge 86 = .ok (.iload_n 1, 1) := by decide +kernel
theorem dX8_removeEdge_87 : decode cX8_removeEdge 87 = .ok (.if_icmp .ne 7, 3) := by decide +kernel
theorem dX8_removeEdge_90 : decode cX8_removeEdge 90 = .ok (.iconst 0, 1) := by decide +kernel
theorem dX8_removeEdge_91 : decode cX8_removeEdge 91 = .ok (.goto 4, 3) := by decide +kernel
theorem dX8_removeEdge_94 : decode cX8_removeEdge 94 = .ok (.iconst 1, 1) := by decide +kernel
theorem dX8_removeEdge_95 : decode cX8_removeEdge 95 = .ok (.iadd, 1) := by decide +kernel
theorem dX8_removeEdge_96 : decode cX8_removeEdge 96 = .ok (.istore_n 3, 1) := by decide +kernel
theorem dX8_removeEdge_97 : decode cX8_removeEdge 97 = .ok (.iinc 4 1, 3) := by decide +kernel
theorem dX8_removeEdge_100 : decode cX8_removeEdge 100 = .ok (.goto (-69), 3) := by decide +kernel
theorem dX8_removeEdge_103 : decode cX8_removeEdge 103 = .ok (.aload_n 0, 1) := by decide +kernel
theorem dX8_removeEdge_104 : decode cX8_removeEdge 104 = .ok (.getfield 7, 3) := by decide +kernel
theorem dX8_removeEdge_107 : decode cX8_removeEdge 107 = .ok (.bipush 43, 2) := by decide +kernel
theorem dX8_removeEdge_109 : decode cX8_removeEdge 109 = .ok (.iload_n 2, 1) := by decide +kernel
theorem dX8_removeEdge_110 : decode cX8_removeEdge 110 = .ok (.iadd, 1) := by decide +kernel
theorem dX8_removeEdge_111 : decode cX8_removeEdge 111 = .ok (.iload_n 3, 1) := by decide +kernel
theorem dX8_removeEdge_112 : decode cX8_removeEdge 112 = .ok (.iastore, 1) := by decide +kernel
theorem dX8_removeEdge_113 : decode cX8_removeEdge 113 = .ok (.iinc 2 1, 3) := by decide +kernel
theorem dX8_removeEdge_116 : decode cX8_removeEdge 116 = .ok (.goto (-100), 3) := by decide +kernel
theorem dX8_removeEdge_119 : decode cX8_removeEdge 119 = .ok (.aload_n 0, 1) := by decide +kernel
theorem dX8_removeEdge_120 : decode cX8_removeEdge 120 = .ok (.getfield 7, 3) := by decide +kernel
theorem dX8_removeEdge_123 : decode cX8_removeEdge 123 = .ok (.iconst 1, 1) := by decide +kernel
theorem dX8_removeEdge_124 : decode cX8_removeEdge 124 = .ok (.dup2, 1) := by decide +kernel
theorem dX8_removeEdge_125 : decode cX8_removeEdge 125 = .ok (.iaload, 1) := by decide +kernel
theorem dX8_removeEdge_126 : decode cX8_removeEdge 126 = .ok (.iconst 1, 1) := by decide +kernel
theorem dX8_removeEdge_127 : decode cX8_removeEdge 127 = .ok (.isub, 1) := by decide +kernel
theorem dX8_removeEdge_128 : decode cX8_removeEdge 128 = .ok (.iastore, 1) := by decide +kernel
theorem dX8_removeEdge_129 : decode cX8_removeEdge 129 = .ok (.iload_n 1, 1) := by decide +kernel
theorem dX8_removeEdge_130 : decode cX8_removeEdge 130 = .ok (.istore_n 2, 1) := by decide +kernel
theorem dX8_removeEdge_131 : decode cX8_removeEdge 131 = .ok (.iload_n 2, 1) := by decide +kernel
theorem dX8_removeEdge_132 : decode cX8_removeEdge 132 = .ok (.aload_n 0, 1) := by decide +kernel
theorem dX8_removeEdge_133 : decode cX8_removeEdge 133 = .ok (.getfield 7, 3) := by decide +kernel
theorem dX8_removeEdge_136 : decode cX8_removeEdge 136 = .ok (.iconst 1, 1) := by decide +kernel
theorem dX8_removeEdge_137 : decode cX8_removeEdge 137 = .ok (.iaload, 1) := by decide +kernel
theorem dX8_removeEdge_138 : decode cX8_removeEdge 138 = .ok (.if_icmp .ge 47, 3) := by decide +kernel
theorem dX8_removeEdge_141 : decode cX8_removeEdge 141 = .ok (.aload_n 0, 1) := by decide +kernel
theorem dX8_removeEdge_142 : decode cX8_removeEdge 142 = .ok (.getfield 7, 3) := by decide +kernel
theorem dX8_removeEdge_145 : decode cX8_removeEdge 145 = .ok (.iconst 3, 1) := by decide +kernel
theorem dX8_removeEdge_146 : decode cX8_removeEdge 146 = .ok (.iload_n 2, 1) := by decide +kernel
theorem dX8_removeEdge_147 : decode cX8_removeEdge 147 = .ok (.iadd, 1) := by decide +kernel
theorem dX8_removeEdge_148 : decode cX8_removeEdge 148 = .ok (.aload_n 0, 1) := by decide +kernel
theorem dX8_removeEdge_149 : decode cX8_removeEdge 149 = .ok (.getfield 7, 3) := by decide +kernel
theorem dX8_removeEdge_152 : decode cX8_removeEdge 152 = .ok (.iconst 3, 1) := by decide +kernel
theorem dX8_removeEdge_153 : decode cX8_removeEdge 153 = .ok (.iload_n 2, 1) := by decide +kernel
theorem dX8_removeEdge_154 : decode cX8_removeEdge 154 = .ok (.iadd, 1) := by decide +kernel
theorem dX8_removeEdge_155 : decode cX8_removeEdge 155 = .ok (.iconst 1, 1) := by decide +kernel
theorem dX8_removeEdge_156 : decode cX8_removeEdge 156 = .ok (.iadd, 1) := by decide +kernel
theorem dX8_removeEdge_157 : decode cX8_removeEdge 157 = .ok (.iaload, 1) := by decide +kernel
theorem dX8_removeEdge_158 : decode cX8_removeEdge 158 = .ok (.iastore, 1) := by decide +kernel
theorem dX8_removeEdge_159 : decode cX8_removeEdge 159 = .ok (.aload_n 0, 1) := by decide +kernel
theorem dX8_removeEdge_160 : decode cX8_removeEdge 160 = .ok (.getfield 7, 3) := by decide +kernel
theorem dX8_removeEdge_163 : decode cX8_removeEdge 163 = .ok (.bipush 23, 2) := by decide +kernel
theorem dX8_removeEdge_165 : decode cX8_removeEdge 165 = .ok (.iload_n 2, 1) := by decide +kernel
theorem dX8_removeEdge_166 : decode cX8_removeEdge 166 = .ok (.iadd, 1) := by decide +kernel
theorem dX8_removeEdge_167 : decode cX8_removeEdge 167 = .ok (.aload_n 0, 1) := by decide +kernel
theorem dX8_removeEdge_168 : decode cX8_removeEdge 168 = .ok (.getfield 7, 3) := by decide +kernel
theorem dX8_removeEdge_171 : decode cX8_removeEdge 171 = .ok (.bipush 23, 2) := by decide +kernel
theorem dX8_removeEdge_173 : decode cX8_removeEdge 173 = .ok (.iload_n 2, 1) := by decide +kernel
theorem dX8_removeEdge_174 : decode cX8_removeEdge 174 = .ok (.iadd, 1) := by decide +kernel
theorem dX8_removeEdge_175 : decode cX8_removeEdge 175 = .ok (.iconst 1, 1) := by decide +kernel
theorem dX8_removeEdge_176 : decode cX8_removeEdge 176 = .ok (.iadd, 1) := by decide +kernel
theorem dX8_removeEdge_177 : decode cX8_removeEdge 177 = .ok (.iaload, 1) := by decide +kernel
theorem dX8_removeEdge_178 : decode cX8_removeEdge 178 = .ok (.iastore, 1) := by decide +kernel
theorem dX8_removeEdge_179 : decode cX8_removeEdge 179 = .ok (.iinc 2 1, 3) := by decide +kernel
theorem dX8_removeEdge_182 : decode cX8_removeEdge 182 = .ok (.goto (-51), 3) := by decide +kernel
theorem dX8_removeEdge_185 : decode cX8_removeEdge 185 = .ok (.aload_n 0, 1) := by decide +kernel
theorem dX8_removeEdge_186 : decode cX8_removeEdge 186 = .ok (.getfield 7, 3) := by decide +kernel
theorem dX8_removeEdge_189 : decode cX8_removeEdge 189 = .ok (.iconst 2, 1) := by decide +kernel
theorem dX8_removeEdge_190 : decode cX8_removeEdge 190 = .ok (.iconst 0, 1) := by decide +kernel
theorem dX8_removeEdge_191 : decode cX8_removeEdge 191 = .ok (.iastore, 1) := by decide +kernel
theorem dX8_removeEdge_192 : decode cX8_removeEdge 192 = .ok (.aload_n 0, 1) := by decide +kernel
theorem dX8_removeEdge_193 : decode cX8_removeEdge 193 = .ok (.getfield 7, 3) := by decide +kernel
theorem dX8_removeEdge_196 : decode cX8_removeEdge 196 = .ok (.iconst 1, 1) := by decide +kernel
theorem dX8_removeEdge_197 : decode cX8_removeEdge 197 = .ok (.iaload, 1) := by decide +kernel
theorem dX8_removeEdge_198 : decode cX8_removeEdge 198 = .ok (.ireturn, 1) := by decide +kernel
theorem dX8_swap_0 : decode cX8_swap 0 = .ok (.aload_n 0, 1) := by decide +kernel
theorem dX8_swap_1 : decode cX8_swap 1 = .ok (.iload_n 1, 1) := by decide +kernel
theorem dX8_swap_2 : decode cX8_swap 2 = .ok (.invokevirtual 97, 3) := by decide +kernel
theorem dX8_swap_5 : decode cX8_swap 5 = .ok (.ifCond .eq 21, 3) := by decide +kernel
theorem dX8_swap_8 : decode cX8_swap 8 = .ok (.aload_n 0, 1) := by decide +kernel
theorem dX8_swap_9 : decode cX8_swap 9 = .ok (.iload_n 2, 1) := by decide +kernel
theorem dX8_swap_10 : decode cX8_swap 10 = .ok (.iload_n 1, 1) := by decide +kernel
theorem dX8_swap_11 : decode cX8_swap 11 = .ok (.invokevirtual 82, 3) := by decide +kernel
theorem dX8_swap_14 : decode cX8_swap 14 = .ok (.ifCond .eq 12, 3) := by decide +kernel
theorem dX8_swap_17 : decode cX8_swap 17 = .ok (.aload_n 0, 1) := by decide +kernel
theorem dX8_swap_18 : decode cX8_swap 18 = .ok (.iload_n 3, 1) := by decide +kernel
theorem dX8_swap_19 : decode cX8_swap 19 = .ok (.iload_n 1, 1) := by decide +kernel
theorem dX8_swap_20 : decode cX8_swap 20 = .ok (.invokevirtual 82, 3) := by decide +kernel
theorem dX8_swap_23 : decode cX8_swap 23 = .ok (.ifCond .ne 5, 3) := by decide +kernel
theorem dX8_swap_26 : decode cX8_swap 26 = .ok (.iconst (-1), 1) := by decide +kernel
theorem dX8_swap_27 : decode cX8_swap 27 = .ok (.ireturn, 1) := by decide +kernel
theorem dX8_swap_28 : decode cX8_swap 28 = .ok (.aload_n 0, 1) := by decide +kernel
theorem dX8_swap_29 : decode cX8_swap 29 = .ok (.invokevirtual 90, 3) := by decide +kernel
theorem dX8_swap_32 : decode cX8_swap 32 = .ok (.aload_n 0, 1) := by decide +kernel
theorem dX8_swap_33 : decode cX8_swap 33 = .ok (.iload_n 1, 1) := by decide +kernel
theorem dX8_swap_34 : decode cX8_swap 34 = .ok (.iload_n 2, 1) := by decide +kernel
theorem dX8_swap_35 : decode cX8_swap 35 = .ok (.invokevirtual 106, 3) := by decide +kernel
theorem dX8_swap_38 : decode cX8_swap 38 = .ok (.istore 4, 2) := by decide +kernel
theorem dX8_swap_40 : decode cX8_swap 40 = .ok (.aload_n 0, 1) := by decide +kernel
theorem dX8_swap_41 : decode cX8_swap 41 = .ok (.iload_n 1, 1) := by decide +kernel
theorem dX8_swap_42 : decode cX8_swap 42 = .ok (.iload_n 3, 1) := by decide +kernel
theorem dX8_swap_43 : decode cX8_swap 43 = .ok (.invokevirtual 106, 3) := by decide +kernel
theorem dX8_swap_46 : decode cX8_swap 46 = .ok (.istore 5, 2) := by decide +kernel
theorem dX8_swap_48 : decode cX8_swap 48 = .ok (.aload_n 0, 1) := by decide +kernel
theorem dX8_swap_49 : decode cX8_swap 49 = .ok (.getfield 7, 3) := by decide +kernel
theorem dX8_swap_52 : decode cX8_swap 52 = .ok (.bipush 52, 2) := by decide +kernel
theorem dX8_swap_54 : decode cX8_swap 54 = .ok (.bipush 8, 2) := by decide +kernel
theorem dX8_swap_56 : decode cX8_swap 56 = .ok (.iload_n 1, 1) := by decide +kernel
theorem dX8_swap_57 : decode cX8_swap 57 = .ok (.imul, 1) := by decide +kernel
theorem dX8_swap_58 : decode cX8_swap 58 = .ok (.iadd, 1) := by decide +kernel
theorem dX8_swap_59 : decode cX8_swap 59 = .ok (.iload 4, 2) := by decide +kernel
theorem dX8_swap_61 : decode cX8_swap 61 = .ok (.iadd, 1) := by decide +kernel
theorem dX8_swap_62 : decode cX8_swap 62 = .ok (.iload_n 3, 1) := by decide +kernel
theorem dX8_swap_63 : decode cX8_swap 63 = .ok (.iastore, 1) := by decide +kernel
theorem dX8_swap_64 : decode cX8_swap 64 = .ok (.aload_n 0, 1) := by decide +kernel
theorem dX8_swap_65 : decode cX8_swap 65 = .ok (.getfield 7, 3) := by decide +kernel
theorem dX8_swap_68 : decode cX8_swap 68 = .ok (.bipush 52, 2) := by decide +kernel
theorem dX8_swap_70 : decode cX8_swap 70 = .ok (.bipush 8, 2) := by decide +kernel
theorem dX8_swap_72 : decode cX8_swap 72 = .ok (.iload_n 1, 1) := by decide +kernel
theorem dX8_swap_73 : decode cX8_swap 73 = .ok (.imul, 1) := by decide +kernel
theorem dX8_swap_74 : decode cX8_swap 74 = .ok (.iadd, 1) := by decide +kernel
theorem dX8_swap_75 : decode cX8_swap 75 = .ok (.iload 5, 2) := by decide +kernel
theorem dX8_swap_77 : decode cX8_swap 77 = .ok (.iadd, 1) := by decide +kernel
theorem dX8_swap_78 : decode cX8_swap 78 = .ok (.iload_n 2, 1) := by decide +kernel
theorem dX8_swap_79 : decode cX8_swap 79 = .ok (.iastore, 1) := by decide +kernel
theorem dX8_swap_80 : decode cX8_swap 80 = .ok (.aload_n 0, 1) := by decide +kernel
theorem dX8_swap_81 : decode cX8_swap 81 = .ok (.getfield 7, 3) := by decide +kernel
theorem dX8_swap_84 : decode cX8_swap 84 = .ok (.iconst 2, 1) := by decide +kernel
theorem dX8_swap_85 : decode cX8_swap 85 = .ok (.iconst 0, 1) := by decide +kernel
theorem dX8_swap_86 : decode cX8_swap 86 = .ok (.iastore, 1) := by decide +kernel
theorem dX8_swap_87 : decode cX8_swap 87 = .ok (.aload_n 0, 1) := by decide +kernel
theorem dX8_swap_88 : decode cX8_swap 88 = .ok (.invokevirtual 113, 3) := by decide +kernel
theorem dX8_swap_91 : decode cX8_swap 91 = .ok (.ifCond .ne 7, 3) := by decide +kernel
theorem dX8_swap_94 : decode cX8_swap 94 = .ok (.iconst 1, 1) := by decide +kernel
theorem dX8_swap_95 : decode cX8_swap 95 = .ok (.goto 4, 3) := by decide +kernel
theorem dX8_swap_98 : decode cX8_swap 98 = .ok (.iconst 0, 1) := by decide +kernel
theorem dX8_swap_99 : decode cX8_swap 99 = .ok (.ireturn, 1) := by decide +kernel
theorem dX8_mirror_0 : decode cX8_mirror 0 = .ok (.aload_n 0, 1) := by decide +kernel
theorem dX8_mirror_1 : decode cX8_mirror 1 = .ok (.invokevirtual 90, 3) := by decide +kernel
theorem dX8_mirror_4 : decode cX8_mirror 4 = .ok (.iconst 0, 1) := by decide +kernel
theorem dX8_mirror_5 : decode cX8_mirror 5 = .ok (.istore_n 1, 1) := by decide +kernel
theorem dX8_mirror_6 : decode cX8_mirror 6 = .ok (.iload_n 1, 1) := by decide +kernel
theorem dX8_mirror_7 : decode cX8_mirror 7 = .ok (.aload_n 0, 1) := by decide +kernel
theorem dX8_mirror_8 : decode cX8_mirror 8 = .ok (.getfield 7, 3) := by decide +kernel
theorem dX8_mirror_11 : decode cX8_mirror 11 = .ok (.iconst 0, 1) := by decide +kernel
theorem dX8_mirror_12 : decode cX8_mirror 12 = .ok (.iaload, 1) := by decide +kernel
theorem dX8_mirror_13 : decode cX8_mirror 13 = .ok (.if_icmp .ge 86, 3) := by decide +kernel
theorem dX8_mirror_16 : decode cX8_mirror 16 = .ok (.aload_n 0, 1) := by decide +kernel
theorem dX8_mirror_17 : decode cX8_mirror 17 = .ok (.getfield 7, 3) := by decide +kernel
theorem dX8_mirror_20 : decode cX8_mirror 20 = .ok (.bipush 43, 2) := by decide +kernel
theorem dX8_mirror_22 : decode cX8_mirror 22 = .ok (.iload_n 1, 1) := by decide +kernel
theorem dX8_mirror_23 : decode cX8_mirror 23 = .ok (.iadd, 1) := by decide +kernel
theorem dX8_mirror_24 : decode cX8_mirror 24 = .ok (.iaload, 1) := by decide +kernel
theorem dX8_mirror_25 : decode cX8_mirror 25 = .ok (.istore_n 2, 1) := by decide +kernel
theorem dX8_mirror_26 : decode cX8_mirror 26 = .ok (.iconst 0, 1) := by decide +kernel
theorem dX8_mirror_27 : decode cX8_mirror 27 = .ok (.istore_n 3, 1) := by decide +kernel
theorem dX8_mirror_28 : decode cX8_mirror 28 = .ok (.iload_n 3, 1) := by decide +kernel
theorem dX8_mirror_29 : decode cX8_mirror 29 = .ok (.iload_n 2, 1) := by decide +kernel
theorem dX8_mirror_30 : decode cX8_mirror 30 = .ok (.iconst 2, 1) := by decide +kernel
theorem dX8_mirror_31 : decode cX8_mirror 31 = .ok (.idiv, 1) := by decide +kernel
theorem dX8_mirror_32 : decode cX8_mirror 32 = .ok (.if_icmp .ge 61, 3) := by decide +kernel
theorem dX8_mirror_35 : decode cX8_mirror 35 = .ok (.aload_n 0, 1) := by decide +kernel
theorem dX8_mirror_36 : decode cX8_mirror 36 = .ok (.iload_n 1, 1) := by decide +kernel
theorem dX8_mirror_37 : decode cX8_mirror 37 = .ok (.iload_n 3, 1) := by decide +kernel
theorem dX8_mirror_38 : decode cX8_mirror 38 = .ok (.invokevirtual 78, 3) := by decide +kernel
theorem dX8_mirror_41 : decode cX8_mirror 41 = .ok (.istore 4, 2) := by decide +kernel
theorem dX8_mirror_43 : decode cX8_mirror 43 = .ok (.aload_n 0, 1) := by decide +kernel
theorem dX8_mirror_44 : decode cX8_mirror 44 = .ok (.getfield 7, 3) := by decide +kernel
theorem dX8_mirror_47 : decode cX8_mirror 47 = .ok (.bipush 52, 2) := by decide +kernel
theorem dX8_mirror_49 : decode cX8_mirror 49 = .ok (.bipush 8, 2) := by decide +kernel
theorem dX8_mirror_51 : decode cX8_mirror 51 = .ok (.iload_n 1, 1) := by decide +kernel
theorem dX8_mirror_52 : decode cX8_mirror 52 = .ok (.imul, 1) := by decide +kernel
theorem dX8_mirror_53 : decode cX8_mirror 53 = .ok (.iadd, 1) := by decide +kernel
theorem dX8_mirror_54 : decode cX8_mirror 54 = .ok (.iload_n 3, 1) := by decide +kernel
theorem dX8_mirror_55 : decode cX8_mirror 55 = .ok (.iadd, 1) := by decide +kernel
theorem dX8_mirror_56 : decode cX8_mirror 56 = .ok (.aload_n 0, 1) := by decide +kernel
theorem dX8_mirror_57 : decode cX8_mirror 57 = .ok (.iload_n 1, 1) := by decide +kernel
theorem dX8_mirror_58 : decode cX8_mirror 58 = .ok (.iload_n 2, 1) := by decide +kernel
theorem dX8_mirror_59 : decode cX8_mirror 59 = .ok (.iconst 1, 1) := by decide +kernel
theorem dX8_mirror_60 : decode cX8_mirror 60 = .ok (.isub, 1) := by decide +kernel
theorem dX8_mirror_61 : decode cX8_mirror 61 = .ok (.iload_n 3, 1) := by decide +kernel
theorem dX8_mirror_62 : decode cX8_mirror 62 = .ok (.isub, 1) := by decide +kernel
theorem dX8_mirror_63 : decode cX8_mirror 63 = .ok (.invokevirtual 78, 3) := by decide +kernel
theorem dX8_mirror_66 : decode cX8_mirror 66 = .ok (.iastore, 1) := by decide +kernel
theorem dX8_mirror_67 : decode cX8_mirror 67 = .ok (.aload_n 0, 1) := by decide +kernel
theorem dX8_mirror_68 : decode cX8_mirror 68 = .ok (.getfield 7, 3) := by decide +kernel
theorem dX8_mirror_71 : decode cX8_mirror 71 = .ok (.bipush 52, 2) := by decide +kernel
theorem dX8_mirror_73 : decode cX8_mirror 73 = .ok (.bipush 8, 2) := by decide +kernel
theorem dX8_mirror_75 : decode cX8_mirror 75 = .ok (.iload_n 1, 1) := by decide +kernel
theorem dX8_mirror_76 : decode cX8_mirror 76 = .ok (.imul, 1) := by decide +kernel
theorem dX8_mirror_77 : decode cX8_mirror 77 = .ok (.iadd, 1) := by decide +kernel
theorem dX8_mirror_78 : decode cX8_mirror 78 = .ok (.iload_n 2, 1) := by decide +kernel
theorem dX8_mirror_79 : decode cX8_mirror 79 = .ok (.iadd, 1) := by decide +kernel
theorem dX8_mirror_80 : decode cX8_mirror 80 = .ok (.iconst 1, 1) := by decide +kernel
theorem dX8_mirror_81 : decode cX8_mirror 81 = .ok (.isub, 1) := by decide +kernel
theorem dX8_mirror_82 : decode cX8_mirror 82 = .ok (.iload_n 3, 1) := by decide +kernel
theorem dX8_mirror_83 : decode cX8_mirror 83 = .ok (.isub, 1) := by decide +kernel
theorem dX8_mirror_84 : decode cX8_mirror 84 = .ok (.iload 4, 2) := by decide +kernel
theorem dX8_mirror_86 : decode cX8_mirror 86 = .ok (.iastore, 1) := by decide +kernel
theorem dX8_mirror_87 : decode cX8_mirror 87 = .ok (.iinc 3 1, 3) := by decide +kernel
theorem dX8_mirror_90 : decode cX8_mirror 90 = .ok (.goto (-62), 3) := by decide +kernel
theorem dX8_mirror_93 : decode cX8_mirror 93 = .ok (.iinc 1 1, 3) := by decide +kernel
theorem dX8_mirror_96 : decode cX8_mirror 96 = .ok (.goto (-90), 3) := by decide +kernel
theorem dX8_mirror_99 : decode cX8_mirror 99 = .ok (.aload_n 0, 1) := by decide +kernel
theorem dX8_mirror_100 : decode cX8_mirror 100 = .ok (.getfield 7, 3) := by decide +kernel
theorem dX8_mirror_103 : decode cX8_mirror 103 = .ok (.iconst 2, 1) := by decide +kernel
theorem dX8_mirror_104 : decode cX8_mirror 104 = .ok (.iconst 0, 1) := by decide +kernel
theorem dX8_mirror_105 : decode cX8_mirror 105 = .ok (.iastore, 1) := by decide +kernel
theorem dX8_mirror_106 : decode cX8_mirror 106 = .ok (.aload_n 0, 1) := by decide +kernel
theorem dX8_mirror_107 : decode cX8_mirror 107 = .ok (.invokevirtual 117, 3) := by decide +kernel
theorem dX8_mirror_110 : decode cX8_mirror 110 = .ok (.aload_n 0, 1) := by decide +kernel
theorem dX8_mirror_111 : decode cX8_mirror 111 = .ok (.getfield 120, 3) := by decide +kernel
theorem dX8_mirror_114 : decode cX8_mirror 114 = .ok (.ireturn, 1) := by decide +kernel
theorem dX8_rotation_0 : decode cX8_rotation 0 = .ok (.aload_n 0, 1) := by decide +kernel
theorem dX8_rotation_1 : decode cX8_rotation 1 = .ok (.iload_n 1, 1) := by decide +kernel
theorem dX8_rotation_2 : decode cX8_rotation 2 = .ok (.invokevirtual 97, 3) := by decide +kernel
theorem dX8_rotation_5 : decode cX8_rotation 5 = .ok (.ifCond .eq 7, 3) := by decide +kernel
theorem dX8_rotation_8 : decode cX8_rotation 8 = .ok (.iload_n 2, 1) := by decide +kernel
theorem dX8_rotation_9 : decode cX8_rotation 9 = .ok (.ifCond .ge 5, 3) := by decide +kernel
theorem dX8_rotation_12 : decode cX8_rotation 12 = .ok (.iconst (-1), 1) := by decide +kernel
theorem dX8_rotation_13 : decode cX8_rotation 13 = .ok (.ireturn, 1) := by decide +kernel
theorem dX8_rotation_14 : decode cX8_rotation 14 = .ok (.iload_n 2, 1) := by decide +kernel
theorem dX8_rotation_15 : decode cX8_rotation 15 = .ok (.aload_n 0, 1) := by decide +kernel
theorem dX8_rotation_16 : decode cX8_rotation 16 = .ok (.getfield 7, 3) := by decide +kernel
theorem dX8_rotation_19 : decode cX8_rotation 19 = .ok (.bipush 43, 2) := by decide +kernel
theorem dX8_rotation_21 : decode cX8_rotation 21 = .ok (.iload_n 1, 1) := by decide +kernel
theorem dX8_rotation_22 : decode cX8_rotation 22 = .ok (.iadd, 1) := by decide +kernel
theorem dX8_rotation_23 : decode cX8_rotation 23 = .ok (.iaload, 1) := by decide +kernel
theorem dX8_rotation_24 : decode cX8_rotation 24 = .ok (.if_icmp .ge 12, 3) := by decide +kernel
theorem dX8_rotation_27 : decode cX8_rotation 27 = .ok (.aload_n 0, 1) := by decide +kernel
theorem dX8_rotation_28 : decode cX8_rotation 28 = .ok (.iload_n 1, 1) := by decide +kernel
theorem dX8_rotation_29 : decode cX8_rotation 29 = .ok (.iload_n 2, 1) := by decide +kernel
theorem dX8_rotation_30 : decode cX8_rotation 30 = .ok (.invokevirtual 78, 3) := by decide +kernel
theorem dX8_rotation_33 : decode cX8_rotation 33 = .ok (.goto 5, 3) := by decide +kernel
theorem dX8_rotation_36 : decode cX8_rotation 36 = .ok (.bipush (-9), 2) := by decide +kernel
theorem dX8_rotation_38 : decode cX8_rotation 38 = .ok (.ireturn, 1) := by decide +kernel
theorem dX8_edge_0 : decode cX8_edge 0 = .ok (.aload_n 0, 1) := by decide +kernel
theorem dX8_edge_1 : decode cX8_edge 1 = .ok (.iload_n 1, 1) := by decide +kernel
theorem dX8_edge_2 : decode cX8_edge 2 = .ok (.invokevirtual 74, 3) := by decide +kernel
theorem dX8_edge_5 : decode cX8_edge 5 = .ok (.ifCond .eq 12, 3) := by decide +kernel
theorem dX8_edge_8 : decode cX8_edge 8 = .ok (.iload_n 2, 1) := by decide +kernel
theorem dX8_edge_9 : decode cX8_edge 9 = .ok (.iconst 0, 1) := by decide +kernel
theorem dX8_edge_10 : decode cX8_edge 10 = .ok (.iconst 1, 1) := by decide +kernel
theorem dX8_edge_11 : decode cX8_edge 11 = .ok (.invokestatic 70, 3) := by decide +kernel
theorem dX8_edge_14 : decode cX8_edge 14 = .ok (.ifCond .ne 5, 3) := by decide +kernel
theorem dX8_edge_17 : decode cX8_edge 17 = .ok (.iconst (-1), 1) := by decide +kernel
theorem dX8_edge_18 : decode cX8_edge 18 = .ok (.ireturn, 1) := by decide +kernel
theorem dX8_edge_19 : decode cX8_edge 19 = .ok (.iload_n 2, 1) := by decide +kernel
theorem dX8_edge_20 : decode cX8_edge 20 = .ok (.ifCond .ne 14, 3) := by decide +kernel
theorem dX8_edge_23 : decode cX8_edge 23 = .ok (.aload_n 0, 1) := by decide +kernel
theorem dX8_edge_24 : decode cX8_edge 24 = .ok (.getfield 7, 3) := by decide +kernel
theorem dX8_edge_27 : decode cX8_edge 27 = .ok (.iconst 3, 1) := by decide +kernel
theorem dX8_edge_28 : decode cX8_edge 28 = .ok (.iload_n 1, 1) := by decide +kernel
theorem dX8_edge_29 : decode cX8_edge 29 = .ok (.iadd, 1) := by decide +kernel
theorem dX8_edge_30 : decode cX8_edge 30 = .ok (.iaload, 1) := by decide +kernel
theorem dX8_edge_31 : decode cX8_edge 31 = .ok (.goto 12, 3) := by decide +kernel
theorem dX8_edge_34 : decode cX8_edge 34 = .ok (.aload_n 0, 1) := by decide +kernel
theorem dX8_edge_35 : decode cX8_edge 35 = .ok (.getfield 7, 3) := by decide +kernel
theorem dX8_edge_38 : decode cX8_edge 38 = .ok (.bipush 23, 2) := by decide +kernel
theorem dX8_edge_40 : decode cX8_edge 40 = .ok (.iload_n 1, 1) := by decide +kernel
theorem dX8_edge_41 : decode cX8_edge 41 = .ok (.iadd, 1) := by decide +kernel
theorem dX8_edge_42 : decode cX8_edge 42 = .ok (.iaload, 1) := by decide +kernel
theorem dX8_edge_43 : decode cX8_edge 43 = .ok (.ireturn, 1) := by decide +kernel
theorem dX8_tail_0 : decode cX8_tail 0 = .ok (.iload_n 1, 1) := by decide +kernel
theorem dX8_tail_1 : decode cX8_tail 1 = .ok (.iconst 2, 1) := by decide +kernel
theorem dX8_tail_2 : decode cX8_tail 2 = .ok (.irem, 1) := by decide +kernel
theorem dX8_tail_3 : decode cX8_tail 3 = .ok (.ifCond .ne 16, 3) := by decide +kernel
theorem dX8_tail_6 : decode cX8_tail 6 = .ok (.aload_n 0, 1) := by decide +kernel
theorem dX8_tail_7 : decode cX8_tail 7 = .ok (.getfield 7, 3) := by decide +kernel
theorem dX8_tail_10 : decode cX8_tail 10 = .ok (.iconst 3, 1) := by decide +kernel
theorem dX8_tail_11 : decode cX8_tail 11 = .ok (.iload_n 1, 1) := by decide +kernel
theorem dX8_tail_12 : decode cX8_tail 12 = .ok (.iconst 2, 1) := by decide +kernel
theorem dX8_tail_13 : decode cX8_tail 13 = .ok (.idiv, 1) := by decide +kernel
theorem dX8_tail_14 : decode cX8_tail 14 = .ok (.iadd, 1) := by decide +kernel
theorem dX8_tail_15 : decode cX8_tail 15 = .ok (.iaload, 1) := by decide +kernel
theorem dX8_tail_16 : decode cX8_tail 16 = .ok (.goto 14, 3) := by decide +kernel
theorem dX8_tail_19 : decode cX8_tail 19 = .ok (.aload_n 0, 1) := by decide +kernel
theorem dX8_tail_20 : decode cX8_tail 20 = .ok (.getfield 7, 3) := by decide +kernel
theorem dX8_tail_23 : decode cX8_tail 23 = .ok (.bipush 23, 2) := by decide +kernel
theorem dX8_tail_25 : decode cX8_tail 25 = .ok (.iload_n 1, 1) := by decide +kernel
theorem dX8_tail_26 : decode cX8_tail 26 = .ok (.iconst 2, 1) := by decide +kernel
theorem dX8_tail_27 : decode cX8_tail 27 = .ok (.idiv, 1) := by decide +kernel
theorem dX8_tail_28 : decode cX8_tail 28 = .ok (.iadd, 1) := by decide +kernel
theorem dX8_tail_29 : decode cX8_tail 29 = .ok (.iaload, 1) := by decide +kernel
theorem dX8_tail_30 : decode cX8_tail 30 = .ok (.ireturn, 1) := by decide +kernel
theorem dX8_follows_0 : decode cX8_follows 0 = .ok (.iload_n 1, 1) := by decide +kernel
theorem dX8_follows_1 : decode cX8_follows 1 = .ok (.iconst 2, 1) := by decide +kernel
theorem dX8_follows_2 : decode cX8_follows 2 = .ok (.idiv, 1) := by decide +kernel
theorem dX8_follows_3 : decode cX8_follows 3 = .ok (.istore_n 2, 1) := by decide +kernel
theorem dX8_follows_4 : decode cX8_follows 4 = .ok (.aload_n 0, 1) := by decide +kernel
theorem dX8_follows_5 : decode cX8_follows 5 = .ok (.iload_n 2, 1) := by decide +kernel
theorem dX8_follows_6 : decode cX8_follows 6 = .ok (.aload_n 0, 1) := by decide +kernel
theorem dX8_follows_7 : decode cX8_follows 7 = .ok (.iload_n 1, 1) := by decide +kernel
theorem dX8_follows_8 : decode cX8_follows 8 = .ok (.invokevirtual 123, 3) := by decide +kernel
theorem dX8_follows_11 : decode cX8_follows 11 = .ok (.invokevirtual 127, 3) := by decide +kernel
theorem dX8_follows_14 : decode cX8_follows 14 = .ok (.istore_n 3, 1) := by decide +kernel
theorem dX8_follows_15 : decode cX8_follows 15 = .ok (.aload_n 0, 1) := by decide +kernel
theorem dX8_follows_16 : decode cX8_follows 16 = .ok (.iload_n 3, 1) := by decide +kernel
theorem dX8_follows_17 : decode cX8_follows 17 = .ok (.aload_n 0, 1) := by decide +kernel
theorem dX8_follows_18 : decode cX8_follows 18 = .ok (.iload_n 3, 1) := by decide +kernel
theorem dX8_follows_19 : decode cX8_follows 19 = .ok (.iload_n 2, 1) := by decide +kernel
theorem dX8_follows_20 : decode cX8_follows 20 = .ok (.invokevirtual 106, 3) := by decide +kernel
theorem dX8_follows_23 : decode cX8_follows 23 = .ok (.iconst 1, 1) := by decide +kernel
theorem dX8_follows_24 : decode cX8_follows 24 = .ok (.iadd, 1) := by decide +kernel
theorem dX8_follows_25 : decode cX8_follows 25 = .ok (.aload_n 0, 1) := by decide +kernel
theorem dX8_follows_26 : decode cX8_follows 26 = .ok (.getfield 7, 3) := by decide +kernel
theorem dX8_follows_29 : decode cX8_follows 29 = .ok (.bipush 43, 2) := by decide +kernel
theorem dX8_follows_31 : decode cX8_follows 31 = .ok (.iload_n 3, 1) := by decide +kernel
theorem dX8_follows_32 : decode cX8_follows 32 = .ok (.iadd, 1) := by decide +kernel
theorem dX8_follows_33 : decode cX8_follows 33 = .ok (.iaload, 1) := by decide +kernel
theorem dX8_follows_34 : decode cX8_follows 34 = .ok (.irem, 1) := by decide +kernel
theorem dX8_follows_35 : decode cX8_follows 35 = .ok (.invokevirtual 78, 3) := by decide +kernel
theorem dX8_follows_38 : decode cX8_follows 38 = .ok (.istore 4, 2) := by decide +kernel
theorem dX8_follows_40 : decode cX8_follows 40 = .ok (.iconst 2, 1) := by decide +kernel
theorem dX8_follows_41 : decode cX8_follows 41 = .ok (.iload 4, 2) := by decide +kernel
theorem dX8_follows_43 : decode cX8_follows 43 = .ok (.imul, 1) := by decide +kernel
theorem dX8_follows_44 : decode cX8_follows 44 = .ok (.aload_n 0, 1) := by decide +kernel
theorem dX8_follows_45 : decode cX8_follows 45 = .ok (.getfield 7, 3) := by decide +kernel
theorem dX8_follows_48 : decode cX8_follows 48 = .ok (.iconst 3, 1) := by decide +kernel
theorem dX8_follows_49 : decode cX8_follows 49 = .ok (.iload 4, 2) := by decide +kernel
theorem dX8_follows_51 : decode cX8_follows 51 = .ok (.iadd, 1) := by decide +kernel
theorem dX8_follows_52 : decode cX8_follows 52 = .ok (.iaload, 1) := by decide +kernel
theorem dX8_follows_53 : decode cX8_follows 53 = .ok (.iload_n 3, 1) := by decide +kernel
theorem dX8_follows_54 : decode cX8_follows 54 = .ok (.if_icmp .ne 7, 3) := by decide +kernel
theorem dX8_follows_57 : decode cX8_follows 57 = .ok (.iconst 0, 1) := by decide +kernel
theorem dX8_follows_58 : decode cX8_follows 58 = .ok (.goto 4, 3) := by decide +kernel
theorem dX8_follows_61 : decode cX8_follows 61 = .ok (.iconst 1, 1) := by decide +kernel
theorem dX8_follows_62 : decode cX8_follows 62 = .ok (.iadd, 1) := by decide +kernel
theorem dX8_follows_63 : decode cX8_follows 63 = .ok (.ireturn, 1) := by decide +kernel
theorem dX8_walks_0 : decode cX8_walks 0 = .ok (.iconst 0, 1) := by decide +kernel
theorem dX8_walks_1 : decode cX8_walks 1 = .ok (.istore_n 1, 1) := by decide +kernel
theorem dX8_walks_2 : decode cX8_walks 2 = .ok (.iload_n 1, 1) := by decide +kernel
theorem dX8_walks_3 : decode cX8_walks 3 = .ok (.iconst 2, 1) := by decide +kernel
theorem dX8_walks_4 : decode cX8_walks 4 = .ok (.aload_n 0, 1) := by decide +kernel
theorem dX8_walks_5 : decode cX8_walks 5 = .ok (.getfield 7, 3) := by decide +kernel
theorem dX8_walks_8 : decode cX8_walks 8 = .ok (.iconst 1, 1) := by decide +kernel
theorem dX8_walks_9 : decode cX8_walks 9 = .ok (.iaload, 1) := by decide +kernel
theorem dX8_walks_10 : decode cX8_walks 10 = .ok (.imul, 1) := by decide +kernel
theorem dX8_walks_11 : decode cX8_walks 11 = .ok (.if_icmp .ge 17, 3) := by decide +kernel
theorem dX8_walks_14 : decode cX8_walks 14 = .ok (.aload_n 0, 1) := by decide +kernel
theorem dX8_walks_15 : decode cX8_walks 15 = .ok (.getfield 20, 3) := by decide +kernel
theorem dX8_walks_18 : decode cX8_walks 18 = .ok (.iload_n 1, 1) := by decide +kernel
theorem dX8_walks_19 : decode cX8_walks 19 = .ok (.bipush (-9), 2) := by decide +kernel
theorem dX8_walks_21 : decode cX8_walks 21 = .ok (.iastore, 1) := by decide +kernel
theorem dX8_walks_22 : decode cX8_walks 22 = .ok (.iinc 1 1, 3) := by decide +kernel
theorem dX8_walks_25 : decode cX8_walks 25 = .ok (.goto (-23), 3) := by decide +kernel
theorem dX8_walks_28 : decode cX8_walks 28 = .ok (.aload_n 0, 1) := by decide +kernel
theorem dX8_walks_29 : decode cX8_walks 29 = .ok (.iconst 0, 1) := by decide +kernel
theorem dX8_walks_30 : decode cX8_walks 30 = .ok (.putfield 120, 3) := by decide +kernel
theorem dX8_walks_33 : decode cX8_walks 33 = .ok (.iconst 0, 1) := by decide +kernel
theorem dX8_walks_34 : decode cX8_walks 34 = .ok (.istore_n 1, 1) := by decide +kernel
theorem dX8_walks_35 : decode cX8_walks 35 = .ok (.iload_n 1, 1) := by decide +kernel
theorem dX8_walks_36 : decode cX8_walks 36 = .ok (.iconst 2, 1) := by decide +kernel
theorem dX8_walks_37 : decode cX8_walks 37 = .ok (.aload_n 0, 1) := by decide +kernel
theorem dX8_walks_38 : decode cX8_walks 38 = .ok (.getfield 7, 3) := by decide +kernel
theorem dX8_walks_41 : decode cX8_walks 41 = .ok (.iconst 1, 1) := by decide +kernel
theorem dX8_walks_42 : decode cX8_walks 42 = .ok (.iaload, 1) := by decide +kernel
theorem dX8_walks_43 : decode cX8_walks 43 = .ok (.imul, 1) := by decide +kernel
theorem dX8_walks_44 : decode cX8_walks 44 = .ok (.if_icmp .ge 72, 3) := by decide +kernel
theorem dX8_walks_47 : decode cX8_walks 47 = .ok (.aload_n 0, 1) := by decide +kernel
theorem dX8_walks_48 : decode cX8_walks 48 = .ok (.getfield 20, 3) := by decide +kernel
theorem dX8_walks_51 : decode cX8_walks 51 = .ok (.iload_n 1, 1) := by decide +kernel
theorem dX8_walks_52 : decode cX8_walks 52 = .ok (.iaload, 1) := by decide +kernel
theorem dX8_walks_53 : decode cX8_walks 53 = .ok (.bipush (-9), 2) := by decide +kernel
theorem dX8_walks_55 : decode cX8_walks 55 = .ok (.if_icmp .ne 55, 3) := by decide +kernel
theorem dX8_walks_58 : decode cX8_walks 58 = .ok (.iload_n 1, 1) := by decide +kernel
theorem dX8_walks_59 : decode cX8_walks 59 = .ok (.istore_n 2, 1) := by decide +kernel
theorem dX8_walks_60 : decode cX8_walks 60 = .ok (.aload_n 0, 1) := by decide +kernel
theorem dX8_walks_61 : decode cX8_walks 61 = .ok (.getfield 20, 3) := by decide +kernel
theorem dX8_walks_64 : decode cX8_walks 64 = .ok (.iload_n 2, 1) := by decide +kernel
theorem dX8_walks_65 : decode cX8_walks 65 = .ok (.iaload, 1) := by decide +kernel
theorem dX8_walks_66 : decode cX8_walks 66 = .ok (.bipush (-9), 2) := by decide +kernel
theorem dX8_walks_68 : decode cX8_walks 68 = .ok (.if_icmp .ne 22, 3) := by decide +kernel
theorem dX8_walks_71 : decode cX8_walks 71 = .ok (.aload_n 0, 1) := by decide +kernel
theorem dX8_walks_72 : decode cX8_walks 72 = .ok (.getfield 20, 3) := by decide +kernel
theorem dX8_walks_75 : decode cX8_walks 75 = .ok (.iload_n 2, 1) := by decide +kernel
theorem dX8_walks_76 : decode cX8_walks 76 = .ok (.aload_n 0, 1) := by decide +kernel
theorem dX8_walks_77 : decode cX8_walks 77 = .ok (.getfield 120, 3) := by decide +kernel
theorem dX8_walks_80 : decode cX8_walks 80 = .ok (.iastore, 1) := by decide +kernel
theorem dX8_walks_81 : decode cX8_walks 81 = .ok (.aload_n 0, 1) := by decide +kernel
theorem dX8_walks_82 : decode cX8_walks 82 = .ok (.iload_n 2, 1) := by decide +kernel
theorem dX8_walks_83 : decode cX8_walks 83 = .ok (.invokevirtual 130, 3) := by decide +kernel
theorem dX8_walks_86 : decode cX8_walks 86 = .ok (.istore_n 2, 1) := by decide +kernel
theorem dX8_walks_87 : decode cX8_walks 87 = .ok (.goto (-27), 3) := by decide +kernel
theorem dX8_walks_90 : decode cX8_walks 90 = .ok (.aload_n 0, 1) := by decide +kernel
theorem dX8_walks_91 : decode cX8_walks 91 = .ok (.getfield 23, 3) := by decide +kernel
theorem dX8_walks_94 : decode cX8_walks 94 = .ok (.aload_n 0, 1) := by decide +kernel
theorem dX8_walks_95 : decode cX8_walks 95 = .ok (.getfield 120, 3) := by decide +kernel
theorem dX8_walks_98 : decode cX8_walks 98 = .ok (.iload_n 1, 1) := by decide +kernel
theorem dX8_walks_99 : decode cX8_walks 99 = .ok (.iastore, 1) := by decide +kernel
theorem dX8_walks_100 : decode cX8_walks 100 = .ok (.aload_n 0, 1) := by decide +kernel
theorem dX8_walks_101 : decode cX8_walks 101 = .ok (.dup, 1) := by decide +kernel
theorem dX8_walks_102 : decode cX8_walks 102 = .ok (.getfield 120, 3) := by decide +kernel
theorem dX8_walks_105 : decode cX8_walks 105 = .ok (.iconst 1, 1) := by decide +kernel
theorem dX8_walks_106 : decode cX8_walks 106 = .ok (.iadd, 1) := by decide +kernel
theorem dX8_walks_107 : decode cX8_walks 107 = .ok (.putfield 120, 3) := by decide +kernel
theorem dX8_walks_110 : decode cX8_walks 110 = .ok (.iinc 1 1, 3) := by decide +kernel
theorem dX8_walks_113 : decode cX8_walks 113 = .ok (.goto (-78), 3) := by decide +kernel
theorem dX8_walks_116 : decode cX8_walks 116 = .ok (.return_, 1) := by decide +kernel
theorem dX8_nodesOn_0 : decode cX8_nodesOn 0 = .ok (.iconst 0, 1) := by decide +kernel
theorem dX8_nodesOn_1 : decode cX8_nodesOn 1 = .ok (.istore_n 2, 1) := by decide +kernel
theorem dX8_nodesOn_2 : decode cX8_nodesOn 2 = .ok (.iconst 0, 1) := by decide +kernel
theorem dX8_nodesOn_3 : decode cX8_nodesOn 3 = .ok (.istore_n 3, 1) := by decide +kernel
theorem dX8_nodesOn_4 : decode cX8_nodesOn 4 = .ok (.iload_n 3, 1) := by decide +kernel
theorem dX8_nodesOn_5 : decode cX8_nodesOn 5 = .ok (.iconst 2, 1) := by decide +kernel
theorem dX8_nodesOn_6 : decode cX8_nodesOn 6 = .ok (.aload_n 0, 1) := by decide +kernel
theorem dX8_nodesOn_7 : decode cX8_nodesOn 7 = .ok (.getfield 7, 3) := by decide +kernel
theorem dX8_nodesOn_10 : decode cX8_nodesOn 10 = .ok (.iconst 1, 1) := by decide +kernel
theorem dX8_nodesOn_11 : decode cX8_nodesOn 11 = .ok (.iaload, 1) := by decide +kernel
theorem dX8_nodesOn_12 : decode cX8_nodesOn 12 = .ok (.imul, 1) := by decide +kernel
theorem dX8_nodesOn_13 : decode cX8_nodesOn 13 = .ok (.if_icmp .ge 33, 3) := by decide +kernel
theorem dX8_nodesOn_16 : decode cX8_nodesOn 16 = .ok (.iload_n 2, 1) := by decide +kernel
theorem dX8_nodesOn_17 : decode cX8_nodesOn 17 = .ok (.aload_n 0, 1) := by decide +kernel
theorem dX8_nodesOn_18 : decode cX8_nodesOn 18 = .ok (.getfield 20, 3) := by decide +kernel
theorem dX8_nodesOn_21 : decode cX8_nodesOn 21 = .ok (.iload_n 3, 1) := by decide +kernel
theorem dX8_nodesOn_22 : decode cX8_nodesOn 22 = .ok (.iaload, 1) := by decide +kernel
theorem dX8_nodesOn_23 : decode cX8_nodesOn 23 = .ok (.iload_n 1, 1) := by decide +kernel
theorem dX8_nodesOn_24 : decode cX8_nodesOn 24 = .ok (.if_icmp .ne 13, 3) := by decide +kernel
theorem dX8_nodesOn_27 : decode cX8_nodesOn 27 = .ok (.iconst 1, 1) := by decide +kernel
theorem dX8_nodesOn_28 : decode cX8_nodesOn 28 = .ok (.aload_n 0, 1) := by decide +kernel
theorem dX8_nodesOn_29 : decode cX8_nodesOn 29 = .ok (.iload_n 3, 1) := by decide +kernel
theorem dX8_nodesOn_30 : decode cX8_nodesOn 30 = .ok (.invokevirtual 123, 3) := by decide +kernel
theorem dX8_nodesOn_33 : decode cX8_nodesOn 33 = .ok (.ishl, 1) := by decide +kernel
theorem dX8_nodesOn_34 : decode cX8_nodesOn 34 = .ok (.goto 4, 3) := by decide +kernel
theorem dX8_nodesOn_37 : decode cX8_nodesOn 37 = .ok (.iconst 0, 1) := by decide +kernel
theorem dX8_nodesOn_38 : decode cX8_nodesOn 38 = .ok (.ior, 1) := by decide +kernel
theorem dX8_nodesOn_39 : decode cX8_nodesOn 39 = .ok (.istore_n 2, 1) := by decide +kernel
theorem dX8_nodesOn_40 : decode cX8_nodesOn 40 = .ok (.iinc 3 1, 3) := by decide +kernel
theorem dX8_nodesOn_43 : decode cX8_nodesOn 43 = .ok (.goto (-39), 3) := by decide +kernel
theorem dX8_nodesOn_46 : decode cX8_nodesOn 46 = .ok (.iload_n 2, 1) := by decide +kernel
theorem dX8_nodesOn_47 : decode cX8_nodesOn 47 = .ok (.ireturn, 1) := by decide +kernel
theorem dX8_bits_0 : decode cX8_bits 0 = .ok (.iconst 0, 1) := by decide +kernel
theorem dX8_bits_1 : decode cX8_bits 1 = .ok (.istore_n 2, 1) := by decide +kernel
theorem dX8_bits_2 : decode cX8_bits 2 = .ok (.iconst 0, 1) := by decide +kernel
theorem dX8_bits_3 : decode cX8_bits 3 = .ok (.istore_n 3, 1) := by decide +kernel
theorem dX8_bits_4 : decode cX8_bits 4 = .ok (.iload_n 3, 1) := by decide +kernel
theorem dX8_bits_5 : decode cX8_bits 5 = .ok (.bipush 40, 2) := by decide +kernel
theorem dX8_bits_7 : decode cX8_bits 7 = .ok (.if_icmp .ge 18, 3) := by decide +kernel
theorem dX8_bits_10 : decode cX8_bits 10 = .ok (.iload_n 2, 1) := by decide +kernel
theorem dX8_bits_11 : decode cX8_bits 11 = .ok (.lload_n 0, 1) := by decide +kernel
theorem dX8_bits_12 : decode cX8_bits 12 = .ok (.iload_n 3, 1) := by decide +kernel
theorem dX8_bits_13 : decode cX8_bits 13 = .ok (.lshr, 1) := by decide +kernel
theorem dX8_bits_14 : decode cX8_bits 14 = .ok (.lconst 1, 1) := by decide +kernel
theorem dX8_bits_15 : decode cX8_bits 15 = .ok (.land, 1) := by decide +kernel
theorem dX8_bits_16 : decode cX8_bits 16 = .ok (.l2i, 1) := by decide +kernel
theorem dX8_bits_17 : decode cX8_bits 17 = .ok (.iadd, 1) := by decide +kernel
theorem dX8_bits_18 : decode cX8_bits 18 = .ok (.istore_n 2, 1) := by decide +kernel
theorem dX8_bits_19 : decode cX8_bits 19 = .ok (.iinc 3 1, 3) := by decide +kernel
theorem dX8_bits_22 : decode cX8_bits 22 = .ok (.goto (-18), 3) := by decide +kernel
theorem dX8_bits_25 : decode cX8_bits 25 = .ok (.iload_n 2, 1) := by decide +kernel
theorem dX8_bits_26 : decode cX8_bits 26 = .ok (.ireturn, 1) := by decide +kernel
theorem dX8_component_0 : decode cX8_component 0 = .ok (.iconst 1, 1) := by decide +kernel
theorem dX8_component_1 : decode cX8_component 1 = .ok (.iload_n 1, 1) := by decide +kernel
theorem dX8_component_2 : decode cX8_component 2 = .ok (.ishl, 1) := by decide +kernel
theorem dX8_component_3 : decode cX8_component 3 = .ok (.istore_n 2, 1) := by decide +kernel
theorem dX8_component_4 : decode cX8_component 4 = .ok (.iconst 0, 1) := by decide +kernel
theorem dX8_component_5 : decode cX8_component 5 = .ok (.istore_n 3, 1) := by decide +kernel
theorem dX8_component_6 : decode cX8_component 6 = .ok (.iload_n 3, 1) := by decide +kernel
theorem dX8_component_7 : decode cX8_component 7 = .ok (.aload_n 0, 1) := by decide +kernel
theorem dX8_component_8 : decode cX8_component 8 = .ok (.getfield 7, 3) := by decide +kernel
theorem dX8_component_11 : decode cX8_component 11 = .ok (.iconst 0, 1) := by decide +kernel
theorem dX8_component_12 : decode cX8_component 12 = .ok (.iaload, 1) := by decide +kernel
theorem dX8_component_13 : decode cX8_component 13 = .ok (.if_icmp .ge 71, 3) := by decide +kernel
theorem dX8_component_16 : decode cX8_component 16 = .ok (.iconst 0, 1) := by decide +kernel
theorem dX8_component_17 : decode cX8_component 17 = .ok (.istore 4, 2) := by decide +kernel
theorem dX8_component_19 : decode cX8_component 19 = .ok (.iload 4, 2) := by decide +kernel
theorem dX8_component_21 : decode cX8_component 21 = .ok (.aload_n 0, 1) := by decide +kernel
theorem dX8_component_22 : decode cX8_component 22 = .ok (.getfield 7, 3) := by decide +kernel
theorem dX8_component_25 : decode cX8_component 25 = .ok (.iconst 1, 1) := by decide +kernel
theorem dX8_component_26 : decode cX8_component 26 = .ok (.iaload, 1) := by decide +kernel
theorem dX8_component_27 : decode cX8_component 27 = .ok (.if_icmp .ge 51, 3) := by decide +kernel
theorem dX8_component_30 : decode cX8_component 30 = .ok (.iconst 1, 1) := by decide +kernel
theorem dX8_component_31 : decode cX8_component 31 = .ok (.aload_n 0, 1) := by decide +kernel
theorem dX8_component_32 : decode cX8_component 32 = .ok (.getfield 7, 3) := by decide +kernel
theorem dX8_component_35 : decode cX8_component 35 = .ok (.iconst 3, 1) := by decide +kernel
theorem dX8_component_36 : decode cX8_component 36 = .ok (.iload 4, 2) := by decide +kernel
theorem dX8_component_38 : decode cX8_component 38 = .ok (.iadd, 1) := by decide +kernel
theorem dX8_component_39 : decode cX8_component 39 = .ok (.iaload, 1) := by decide +kernel
theorem dX8_component_40 : decode cX8_component 40 = .ok (.ishl, 1) := by decide +kernel
theorem dX8_component_41 : decode cX8_component 41 = .ok (.iconst 1, 1) := by decide +kernel
theorem dX8_component_42 : decode cX8_component 42 = .ok (.aload_n 0, 1) := by decide +kernel
theorem dX8_component_43 : decode cX8_component 43 = .ok (.getfield 7, 3) := by decide +kernel
theorem dX8_component_46 : decode cX8_component 46 = .ok (.bipush 23, 2) := by decide +kernel
theorem dX8_component_48 : decode cX8_component 48 = .ok (.iload 4, 2) := by decide +kernel
theorem dX8_component_50 : decode cX8_component 50 = .ok (.iadd, 1) := by decide +kernel
theorem dX8_component_51 : decode cX8_component 51 = .ok (.iaload, 1) := by decide +kernel
theorem dX8_component_52 : decode cX8_component 52 = .ok (.ishl, 1) := by decide +kernel
theorem dX8_component_53 : decode cX8_component 53 = .ok (.ior, 1) := by decide +kernel
theorem dX8_component_54 : decode cX8_component 54 = .ok (.istore 5, 2) := by decide +kernel
theorem dX8_component_56 : decode cX8_component 56 = .ok (.iload_n 2, 1) := by decide +kernel
theorem dX8_component_57 : decode cX8_component 57 = .ok (.iload_n 2, 1) := by decide +kernel
theorem dX8_component_58 : decode cX8_component 58 = .ok (.iload 5, 2) := by decide +kernel
theorem dX8_component_60 : decode cX8_component 60 = .ok (.iand, 1) := by decide +kernel
theorem dX8_component_61 : decode cX8_component 61 = .ok (.ifCond .eq 8, 3) := by decide +kernel
theorem dX8_component_64 : decode cX8_component 64 = .ok (.iload 5, 2) := by decide +kernel
theorem dX8_component_66 : decode cX8_component 66 = .ok (.goto 4, 3) := by decide +kernel
theorem dX8_component_69 : decode cX8_component 69 = .ok (.iconst 0, 1) := by decide +kernel
theorem dX8_component_70 : decode cX8_component 70 = .ok (.ior, 1) := by decide +kernel
theorem dX8_component_71 : decode cX8_component 71 = .ok (.istore_n 2, 1) := by decide +kernel
theorem dX8_component_72 : decode cX8_component 72 = .ok (.iinc 4 1, 3) := by decide +kernel
theorem dX8_component_75 : decode cX8_component 75 = .ok (.goto (-56), 3) := by decide +kernel
theorem dX8_component_78 : decode cX8_component 78 = .ok (.iinc 3 1, 3) := by decide +kernel
theorem dX8_component_81 : decode cX8_component 81 = .ok (.goto (-75), 3) := by decide +kernel
theorem dX8_component_84 : decode cX8_component 84 = .ok (.iload_n 2, 1) := by decide +kernel
theorem dX8_component_85 : decode cX8_component 85 = .ok (.ireturn, 1) := by decide +kernel
theorem dX8_components_0 : decode cX8_components 0 = .ok (.iconst 0, 1) := by decide +kernel
theorem dX8_components_1 : decode cX8_components 1 = .ok (.istore_n 1, 1) := by decide +kernel
theorem dX8_components_2 : decode cX8_components 2 = .ok (.iconst 0, 1) := by decide +kernel
theorem dX8_components_3 : decode cX8_components 3 = .ok (.istore_n 2, 1) := by decide +kernel
theorem dX8_components_4 : decode cX8_components 4 = .ok (.iload_n 2, 1) := by decide +kernel
theorem dX8_components_5 : decode cX8_components 5 = .ok (.aload_n 0, 1) := by decide +kernel
theorem dX8_components_6 : decode cX8_components 6 = .ok (.getfield 7, 3) := by decide +kernel
theorem dX8_components_9 : decode cX8_components 9 = .ok (.iconst 0, 1) := by decide +kernel
theorem dX8_components_10 : decode cX8_components 10 = .ok (.iaload, 1) := by decide +kernel
theorem dX8_components_11 : decode cX8_components 11 = .ok (.if_icmp .ge 31, 3) := by decide +kernel
theorem dX8_components_14 : decode cX8_components 14 = .ok (.iload_n 1, 1) := by decide +kernel
theorem dX8_components_15 : decode cX8_components 15 = .ok (.aload_n 0, 1) := by decide +kernel
theorem dX8_components_16 : decode cX8_components 16 = .ok (.iload_n 2, 1) := by decide +kernel
theorem dX8_components_17 : decode cX8_components 17 = .ok (.invokevirtual 133, 3) := by decide +kernel
theorem dX8_components_20 : decode cX8_components 20 = .ok (.iconst 1, 1) := by decide +kernel
theorem dX8_components_21 : decode cX8_components 21 = .ok (.iload_n 2, 1) := by decide +kernel
theorem dX8_components_22 : decode cX8_components 22 = .ok (.ishl, 1) := by decide +kernel
theorem dX8_components_23 : decode cX8_components 23 = .ok (.iconst 1, 1) := by decide +kernel
theorem dX8_components_24 : decode cX8_components 24 = .ok (.isub, 1) := by decide +kernel
theorem dX8_components_25 : decode cX8_components 25 = .ok (.iand, 1) := by decide +kernel
theorem dX8_components_26 : decode cX8_components 26 = .ok (.ifCond .ne 7, 3) := by decide +kernel
theorem dX8_components_29 : decode cX8_components 29 = .ok (.iconst 1, 1) := by decide +kernel
theorem dX8_components_30 : decode cX8_components 30 = .ok (.goto 4, 3) := by decide +kernel
theorem dX8_components_33 : decode cX8_components 33 = .ok (.iconst 0, 1) := by decide +kernel
theorem dX8_components_34 : decode cX8_components 34 = .ok (.iadd, 1) := by decide +kernel
theorem dX8_components_35 : decode cX8_components 35 = .ok (.istore_n 1, 1) := by decide +kernel
theorem dX8_components_36 : decode cX8_components 36 = .ok (.iinc 2 1, 3) := by decide +kernel
theorem dX8_components_39 : decode cX8_components 39 = .ok (.goto (-35), 3) := by decide +kernel
theorem dX8_components_42 : decode cX8_components 42 = .ok (.iload_n 1, 1) := by decide +kernel
theorem dX8_components_43 : decode cX8_components 43 = .ok (.ireturn, 1) := by decide +kernel
theorem dX8_genus_0 : decode cX8_genus 0 = .ok (.aload_n 0, 1) := by decide +kernel
theorem dX8_genus_1 : decode cX8_genus 1 = .ok (.invokevirtual 117, 3) := by decide +kernel
theorem dX8_genus_4 : decode cX8_genus 4 = .ok (.iconst 0, 1) := by decide +kernel
theorem dX8_genus_5 : decode cX8_genus 5 = .ok (.istore_n 1, 1) := by decide +kernel
theorem dX8_genus_6 : decode cX8_genus 6 = .ok (.iconst 0, 1) := by decide +kernel
theorem dX8_genus_7 : decode cX8_genus 7 = .ok (.istore_n 2, 1) := by decide +kernel
theorem dX8_genus_8 : decode cX8_genus 8 = .ok (.iload_n 2, 1) := by decide +kernel
theorem dX8_genus_9 : decode cX8_genus 9 = .ok (.aload_n 0, 1) := by decide +kernel
theorem dX8_genus_10 : decode cX8_genus 10 = .ok (.getfield 7, 3) := by decide +kernel
theorem dX8_genus_13 : decode cX8_genus 13 = .ok (.iconst 0, 1) := by decide +kernel
theorem dX8_genus_14 : decode cX8_genus 14 = .ok (.iaload, 1) := by decide +kernel
theorem dX8_genus_15 : decode cX8_genus 15 = .ok (.if_icmp .ge 47, 3) := by decide +kernel
theorem dX8_genus_18 : decode cX8_genus 18 = .ok (.aload_n 0, 1) := by decide +kernel
theorem dX8_genus_19 : decode cX8_genus 19 = .ok (.iload_n 2, 1) := by decide +kernel
theorem dX8_genus_20 : decode cX8_genus 20 = .ok (.invokevirtual 133, 3) := by decide +kernel
theorem dX8_genus_23 : decode cX8_genus 23 = .ok (.istore_n 3, 1) := by decide +kernel
theorem dX8_genus_24 : decode cX8_genus 24 = .ok (.iload_n 3, 1) := by decide +kernel
theorem dX8_genus_25 : decode cX8_genus 25 = .ok (.iconst 1, 1) := by decide +kernel
theorem dX8_genus_26 : decode cX8_genus 26 = .ok (.iload_n 2, 1) := by decide +kernel
theorem dX8_genus_27 : decode cX8_genus 27 = .ok (.ishl, 1) := by decide +kernel
theorem dX8_genus_28 : decode cX8_genus 28 = .ok (.iconst 1, 1) := by decide +kernel
theorem dX8_genus_29 : decode cX8_genus 29 = .ok (.isub, 1) := by decide +kernel
theorem dX8_genus_30 : decode cX8_genus 30 = .ok (.iand, 1) := by decide +kernel
theorem dX8_genus_31 : decode cX8_genus 31 = .ok (.ifCond .ne 25, 3) := by decide +kernel
theorem dX8_genus_34 : decode cX8_genus 34 = .ok (.aload_n 0, 1) := by decide +kernel
theorem dX8_genus_35 : decode cX8_genus 35 = .ok (.getfield 7, 3) := by decide +kernel
theorem dX8_genus_38 : decode cX8_genus 38 = .ok (.bipush 43, 2) := by decide +kernel
theorem dX8_genus_40 : decode cX8_genus 40 = .ok (.iload_n 2, 1) := by decide +kernel
theorem dX8_genus_41 : decode cX8_genus 41 = .ok (.iadd, 1) := by decide +kernel
theorem dX8_genus_42 : decode cX8_genus 42 = .ok (.iaload, 1) := by decide +kernel
theorem dX8_genus_43 : decode cX8_genus 43 = .ok (.ifCond .le 13, 3) := by decide +kernel
theorem dX8_genus_46 : decode cX8_genus 46 = .ok (.iload_n 1, 1) := by decide +kernel
theorem dX8_genus_47 : decode cX8_genus 47 = .ok (.iconst 2, 1) := by decide +kernel
theorem dX8_genus_48 : decode cX8_genus 48 = .ok (.iload_n 3, 1) := by decide +kernel
theorem dX8_genus_49 : decode cX8_genus 49 = .ok (.i2l, 1) := by decide +kernel
theorem dX8_genus_50 : decode cX8_genus 50 = .ok (.invokestatic 136, 3) := by decide +kernel
theorem dX8_genus_53 : decode cX8_genus 53 = .ok (.isub, 1) := by decide +kernel
theorem dX8_genus_54 : decode cX8_genus 54 = .ok (.iadd, 1) := by decide +kernel
theorem dX8_genus_55 : decode cX8_genus 55 = .ok (.istore_n 1, 1) := by decide +kernel
theorem dX8_genus_56 : decode cX8_genus 56 = .ok (.iinc 2 1, 3) := by decide +kernel
theorem dX8_genus_59 : decode cX8_genus 59 = .ok (.goto (-51), 3) := by decide +kernel
theorem dX8_genus_62 : decode cX8_genus 62 = .ok (.iload_n 1, 1) := by decide +kernel
theorem dX8_genus_63 : decode cX8_genus 63 = .ok (.aload_n 0, 1) := by decide +kernel
theorem dX8_genus_64 : decode cX8_genus 64 = .ok (.getfield 7, 3) := by decide +kernel
theorem dX8_genus_67 : decode cX8_genus 67 = .ok (.iconst 1, 1) := by decide +kernel
theorem dX8_genus_68 : decode cX8_genus 68 = .ok (.iaload, 1) := by decide +kernel
theorem dX8_genus_69 : decode cX8_genus 69 = .ok (.iadd, 1) := by decide +kernel
theorem dX8_genus_70 : decode cX8_genus 70 = .ok (.aload_n 0, 1) := by decide +kernel
theorem dX8_genus_71 : decode cX8_genus 71 = .ok (.getfield 120, 3) := by decide +kernel
theorem dX8_genus_74 : decode cX8_genus 74 = .ok (.isub, 1) := by decide +kernel
theorem dX8_genus_75 : decode cX8_genus 75 = .ok (.iconst 2, 1) := by decide +kernel
theorem dX8_genus_76 : decode cX8_genus 76 = .ok (.idiv, 1) := by decide +kernel
theorem dX8_genus_77 : decode cX8_genus 77 = .ok (.ireturn, 1) := by decide +kernel
theorem dX8_addInFace_0 : decode cX8_addInFace 0 = .ok (.aload_n 0, 1) := by decide +kernel
theorem dX8_addInFace_1 : decode cX8_addInFace 1 = .ok (.invokevirtual 117, 3) := by decide +kernel
theorem dX8_addInFace_4 : decode cX8_addInFace 4 = .ok (.aload_n 0, 1) := by decide +kernel
theorem dX8_addInFace_5 : decode cX8_addInFace 5 = .ok (.iload_n 1, 1) := by decide +kernel
theorem dX8_addInFace_6 : decode cX8_addInFace 6 = .ok (.iload_n 2, 1) := by decide +kernel
theorem dX8_addInFace_7 : decode cX8_addInFace 7 = .ok (.invokevirtual 100, 3) := by decide +kernel
theorem dX8_addInFace_10 : decode cX8_addInFace 10 = .ok (.ifCond .eq 17, 3) := by decide +kernel
theorem dX8_addInFace_13 : decode cX8_addInFace 13 = .ok (.iload_n 3, 1) := by decide +kernel
theorem dX8_addInFace_14 : decode cX8_addInFace 14 = .ok (.iconst 0, 1) := by decide +kernel
theorem dX8_addInFace_15 : decode cX8_addInFace 15 = .ok (.aload_n 0, 1) := by decide +kernel
theorem dX8_addInFace_16 : decode cX8_addInFace 16 = .ok (.getfield 120, 3) := by decide +kernel
theorem dX8_addInFace_19 : decode cX8_addInFace 19 = .ok (.iconst 1, 1) := by decide +kernel
theorem dX8_addInFace_20 : decode cX8_addInFace 20 = .ok (.isub, 1) := by decide +kernel
theorem dX8_addInFace_21 : decode cX8_addInFace 21 = .ok (.invokestatic 70, 3) := by decide +kernel
theorem dX8_addInFace_24 : decode cX8_addInFace 24 = .ok (.ifCond .ne 5, 3) := by decide +kernel
theorem dX8_addInFace_27 : decode cX8_addInFace 27 = .ok (.iconst (-1), 1) := by decide +kernel
theorem dX8_addInFace_28 : decode cX8_addInFace 28 = .ok (.ireturn, 1) := by decide +kernel
theorem dX8_addInFace_29 : decode cX8_addInFace 29 = .ok (.aload_n 0, 1) := by decide +kernel
theorem dX8_addInFace_30 : decode cX8_addInFace 30 = .ok (.iload_n 3, 1) := by decide +kernel
theorem dX8_addInFace_31 : decode cX8_addInFace 31 = .ok (.invokevirtual 140, 3) := by decide +kernel
theorem dX8_addInFace_34 : decode cX8_addInFace 34 = .ok (.istore 4, 2) := by decide +kernel
theorem dX8_addInFace_36 : decode cX8_addInFace 36 = .ok (.aload_n 0, 1) := by decide +kernel
theorem dX8_addInFace_37 : decode cX8_addInFace 37 = .ok (.iload_n 1, 1) := by decide +kernel
theorem dX8_addInFace_38 : decode cX8_addInFace 38 = .ok (.iload_n 2, 1) := by decide +kernel
theorem dX8_addInFace_39 : decode cX8_addInFace 39 = .ok (.invokevirtual 103, 3) := by decide +kernel
theorem dX8_addInFace_42 : decode cX8_addInFace 42 = .ok (.bipush (-9), 2) := by decide +kernel
theorem dX8_addInFace_44 : decode cX8_addInFace 44 = .ok (.if_icmp .ne 17, 3) := by decide +kernel
theorem dX8_addInFace_47 : decode cX8_addInFace 47 = .ok (.iload 4, 2) := by decide +kernel
theorem dX8_addInFace_49 : decode cX8_addInFace 49 = .ok (.iload_n 1, 1) := by decide +kernel
theorem dX8_addInFace_50 : decode cX8_addInFace 50 = .ok (.ishr, 1) := by decide +kernel
theorem dX8_addInFace_51 : decode cX8_addInFace 51 = .ok (.iload 4, 2) := by decide +kernel
theorem dX8_addInFace_53 : decode cX8_addInFace 53 = .ok (.iload_n 2, 1) := by decide +kernel
theorem dX8_addInFace_54 : decode cX8_addInFace 54 = .ok (.ishr, 1) := by decide +kernel
theorem dX8_addInFace_55 : decode cX8_addInFace 55 = .ok (.iand, 1) := by decide +kernel
theorem dX8_addInFace_56 : decode cX8_addInFace 56 = .ok (.iconst 1, 1) := by decide +kernel
theorem dX8_addInFace_57 : decode cX8_addInFace 57 = .ok (.iand, 1) := by decide +kernel
theorem dX8_addInFace_58 : decode cX8_addInFace 58 = .ok (.ifCond .ne 6, 3) := by decide +kernel
theorem dX8_addInFace_61 : decode cX8_addInFace 61 = .ok (.bipush (-2), 2) := by decide +kernel
theorem dX8_addInFace_63 : decode cX8_addInFace 63 = .ok (.ireturn, 1) := by decide +kernel
theorem dX8_addInFace_64 : decode cX8_addInFace 64 = .ok (.aload_n 0, 1) := by decide +kernel
theorem dX8_addInFace_65 : decode cX8_addInFace 65 = .ok (.getfield 7, 3) := by decide +kernel
theorem dX8_addInFace_68 : decode cX8_addInFace 68 = .ok (.iconst 1, 1) := by decide +kernel
theorem dX8_addInFace_69 : decode cX8_addInFace 69 = .ok (.iaload, 1) := by decide +kernel
theorem dX8_addInFace_70 : decode cX8_addInFace 70 = .ok (.bipush 20, 2) := by decide +kernel
theorem dX8_addInFace_72 : decode cX8_addInFace 72 = .ok (.if_icmp .ne 6, 3) := by decide +kernel
theorem dX8_addInFace_75 : decode cX8_addInFace 75 = .ok (.bipush (-3), 2) := by decide +kernel
theorem dX8_addInFace_77 : decode cX8_addInFace 77 = .ok (.ireturn, 1) := by decide +kernel
theorem dX8_addInFace_78 : decode cX8_addInFace 78 = .ok (.aload_n 0, 1) := by decide +kernel
theorem dX8_addInFace_79 : decode cX8_addInFace 79 = .ok (.invokevirtual 90, 3) := by decide +kernel
theorem dX8_addInFace_82 : decode cX8_addInFace 82 = .ok (.aload_n 0, 1) := by decide +kernel
theorem dX8_addInFace_83 : decode cX8_addInFace 83 = .ok (.iload_n 3, 1) := by decide +kernel
theorem dX8_addInFace_84 : decode cX8_addInFace 84 = .ok (.iload_n 1, 1) := by decide +kernel
theorem dX8_addInFace_85 : decode cX8_addInFace 85 = .ok (.invokevirtual 143, 3) := by decide +kernel
theorem dX8_addInFace_88 : decode cX8_addInFace 88 = .ok (.istore 5, 2) := by decide +kernel
theorem dX8_addInFace_90 : decode cX8_addInFace 90 = .ok (.aload_n 0, 1) := by decide +kernel
theorem dX8_addInFace_91 : decode cX8_addInFace 91 = .ok (.iload_n 1, 1) := by decide +kernel
theorem dX8_addInFace_92 : decode cX8_addInFace 92 = .ok (.iload_n 2, 1) := by decide +kernel
theorem dX8_addInFace_93 : decode cX8_addInFace 93 = .ok (.iload 5, 2) := by decide +kernel
theorem dX8_addInFace_95 : decode cX8_addInFace 95 = .ok (.aload_n 0, 1) := by decide +kernel
theorem dX8_addInFace_96 : decode cX8_addInFace 96 = .ok (.iload_n 3, 1) := by decide +kernel
theorem dX8_addInFace_97 : decode cX8_addInFace 97 = .ok (.iload_n 2, 1) := by decide +kernel
theorem dX8_addInFace_98 : decode cX8_addInFace 98 = .ok (.invokevirtual 143, 3) := by decide +kernel
theorem dX8_addInFace_101 : decode cX8_addInFace 101 = .ok (.invokevirtual 109, 3) := by decide +kernel
theorem dX8_addInFace_104 : decode cX8_addInFace 104 = .ok (.ireturn, 1) := by decide +kernel
theorem dX8_corner_0 : decode cX8_corner 0 = .ok (.aload_n 0, 1) := by decide +kernel
theorem dX8_corner_1 : decode cX8_corner 1 = .ok (.getfield 23, 3) := by decide +kernel
theorem dX8_corner_4 : decode cX8_corner 4 = .ok (.iload_n 1, 1) := by decide +kernel
theorem dX8_corner_5 : decode cX8_corner 5 = .ok (.iaload, 1) := by decide +kernel
theorem dX8_corner_6 : decode cX8_corner 6 = .ok (.istore_n 3, 1) := by decide +kernel
theorem dX8_corner_7 : decode cX8_corner 7 = .ok (.aload_n 0, 1) := by decide +kernel
theorem dX8_corner_8 : decode cX8_corner 8 = .ok (.iload_n 3, 1) := by decide +kernel
theorem dX8_corner_9 : decode cX8_corner 9 = .ok (.invokevirtual 123, 3) := by decide +kernel
theorem dX8_corner_12 : decode cX8_corner 12 = .ok (.iload_n 2, 1) := by decide +kernel
theorem dX8_corner_13 : decode cX8_corner 13 = .ok (.if_icmp .eq 12, 3) := by decide +kernel
theorem dX8_corner_16 : decode cX8_corner 16 = .ok (.aload_n 0, 1) := by decide +kernel
theorem dX8_corner_17 : decode cX8_corner 17 = .ok (.iload_n 3, 1) := by decide +kernel
theorem dX8_corner_18 : decode cX8_corner 18 = .ok (.invokevirtual 130, 3) := by decide +kernel
theorem dX8_corner_21 : decode cX8_corner 21 = .ok (.istore_n 3, 1) := by decide +kernel
theorem dX8_corner_22 : decode cX8_corner 22 = .ok (.goto (-15), 3) := by decide +kernel
theorem dX8_corner_25 : decode cX8_corner 25 = .ok (.aload_n 0, 1) := by decide +kernel
theorem dX8_corner_26 : decode cX8_corner 26 = .ok (.iload_n 2, 1) := by decide +kernel
theorem dX8_corner_27 : decode cX8_corner 27 = .ok (.iload_n 3, 1) := by decide +kernel
theorem dX8_corner_28 : decode cX8_corner 28 = .ok (.iconst 2, 1) := by decide +kernel
theorem dX8_corner_29 : decode cX8_corner 29 = .ok (.idiv, 1) := by decide +kernel
theorem dX8_corner_30 : decode cX8_corner 30 = .ok (.invokevirtual 106, 3) := by decide +kernel
theorem dX8_corner_33 : decode cX8_corner 33 = .ok (.ireturn, 1) := by decide +kernel
theorem dX8_count_0 : decode cX8_count 0 = .ok (.iload_n 1, 1) := by decide +kernel
theorem dX8_count_1 : decode cX8_count 1 = .ok (.tableswitch 97 0 7 #[47, 54, 61, 66, 75, 80, 87, 92], 47) := by decide +kernel
theorem dX8_count_48 : decode cX8_count 48 = .ok (.aload_n 0, 1) := by decide +kernel
theorem dX8_count_49 : decode cX8_count 49 = .ok (.getfield 7, 3) := by decide +kernel
theorem dX8_count_52 : decode cX8_count 52 = .ok (.iconst 0, 1) := by decide +kernel
theorem dX8_count_53 : decode cX8_count 53 = .ok (.iaload, 1) := by decide +kernel
theorem dX8_count_54 : decode cX8_count 54 = .ok (.ireturn, 1) := by decide +kernel
theorem dX8_count_55 : decode cX8_count 55 = .ok (.aload_n 0, 1) := by decide +kernel
theorem dX8_count_56 : decode cX8_count 56 = .ok (.getfield 7, 3) := by decide +kernel
theorem dX8_count_59 : decode cX8_count 59 = .ok (.iconst 1, 1) := by decide +kernel
theorem dX8_count_60 : decode cX8_count 60 = .ok (.iaload, 1) := by decide +kernel
theorem dX8_count_61 : decode cX8_count 61 = .ok (.ireturn, 1) := by decide +kernel
theorem dX8_count_62 : decode cX8_count 62 = .ok (.aload_n 0, 1) := by decide +kernel
theorem dX8_count_63 : decode cX8_count 63 = .ok (.invokevirtual 146, 3) := by decide +kernel
theorem dX8_count_66 : decode cX8_count 66 = .ok (.ireturn, 1) := by decide +kernel
theorem dX8_count_67 : decode cX8_count 67 = .ok (.aload_n 0, 1) := by decide +kernel
theorem dX8_count_68 : decode cX8_count 68 = .ok (.invokevirtual 117, 3) := by decide +kernel
theorem dX8_count_71 : decode cX8_count 71 = .ok (.aload_n 0, 1) := by decide +kernel
theorem dX8_count_72 : decode cX8_count 72 = .ok (.getfield 120, 3) := by decide +kernel
theorem dX8_count_75 : decode cX8_count 75 = .ok (.ireturn, 1) := by decide +kernel
theorem dX8_count_76 : decode cX8_count 76 = .ok (.aload_n 0, 1) := by decide +kernel
theorem dX8_count_77 : decode cX8_count 77 = .ok (.invokevirtual 113, 3) := by decide +kernel
theorem dX8_count_80 : decode cX8_count 80 = .ok (.ireturn, 1) := by decide +kernel
theorem dX8_count_81 : decode cX8_count 81 = .ok (.aload_n 0, 1) := by decide +kernel
theorem dX8_count_82 : decode cX8_count 82 = .ok (.getfield 7, 3) := by decide +kernel
theorem dX8_count_85 : decode cX8_count 85 = .ok (.iconst 2, 1) := by decide +kernel
theorem dX8_count_86 : decode cX8_count 86 = .ok (.iaload, 1) := by decide +kernel
theorem dX8_count_87 : decode cX8_count 87 = .ok (.ireturn, 1) := by decide +kernel
theorem dX8_count_88 : decode cX8_count 88 = .ok (.aload_n 0, 1) := by decide +kernel
theorem dX8_count_89 : decode cX8_count 89 = .ok (.getfield 149, 3) := by decide +kernel
theorem dX8_count_92 : decode cX8_count 92 = .ok (.ireturn, 1) := by decide +kernel
theorem dX8_count_93 : decode cX8_count 93 = .ok (.aload_n 0, 1) := by decide +kernel
theorem dX8_count_94 : decode cX8_count 94 = .ok (.getfield 66, 3) := by decide +kernel
theorem dX8_count_97 : decode cX8_count 97 = .ok (.ireturn, 1) := by decide +kernel
theorem dX8_count_98 : decode cX8_count 98 = .ok (.iconst (-1), 1) := by decide +kernel
theorem dX8_count_99 : decode cX8_count 99 = .ok (.ireturn, 1) := by decide +kernel
theorem dX8_lengthOf_0 : decode cX8_lengthOf 0 = .ok (.iconst 0, 1) := by decide +kernel
theorem dX8_lengthOf_1 : decode cX8_lengthOf 1 = .ok (.istore_n 2, 1) := by decide +kernel
theorem dX8_lengthOf_2 : decode cX8_lengthOf 2 = .ok (.iconst 0, 1) := by decide +kernel
theorem dX8_lengthOf_3 : decode cX8_lengthOf 3 = .ok (.istore_n 3, 1) := by decide +kernel
theorem dX8_lengthOf_4 : decode cX8_lengthOf 4 = .ok (.iload_n 3, 1) := by decide +kernel
theorem dX8_lengthOf_5 : decode cX8_lengthOf 5 = .ok (.iconst 2, 1) := by decide +kernel
theorem dX8_lengthOf_6 : decode cX8_lengthOf 6 = .ok (.aload_n 0, 1) := by decide +kernel
theorem dX8_lengthOf_7 : decode cX8_lengthOf 7 = .ok (.getfield 7, 3) := by decide +kernel
theorem dX8_lengthOf_10 : decode cX8_lengthOf 10 = .ok (.iconst 1, 1) := by decide +kernel
theorem dX8_lengthOf_11 : decode cX8_lengthOf 11 = .ok (.iaload, 1) := by decide +kernel
theorem dX8_lengthOf_12 : decode cX8_lengthOf 12 = .ok (.imul, 1) := by decide +kernel
theorem dX8_lengthOf_13 : decode cX8_lengthOf 13 = .ok (.if_icmp .ge 27, 3) := by decide +kernel
theorem dX8_lengthOf_16 : decode cX8_lengthOf 16 = .ok (.iload_n 2, 1) := by decide +kernel
theorem dX8_lengthOf_17 : decode cX8_lengthOf 17 = .ok (.aload_n 0, 1) := by decide +kernel
theorem dX8_lengthOf_18 : decode cX8_lengthOf 18 = .ok (.getfield 20, 3) := by decide +kernel
theorem dX8_lengthOf_21 : decode cX8_lengthOf 21 = .ok (.iload_n 3, 1) := by decide +kernel
theorem dX8_lengthOf_22 : decode cX8_lengthOf 22 = .ok (.iaload, 1) := by decide +kernel
theorem dX8_lengthOf_23 : decode cX8_lengthOf 23 = .ok (.iload_n 1, 1) := by decide +kernel
theorem dX8_lengthOf_24 : decode cX8_lengthOf 24 = .ok (.if_icmp .ne 7, 3) := by decide +kernel
theorem dX8_lengthOf_27 : decode cX8_lengthOf 27 = .ok (.iconst 1, 1) := by decide +kernel
theorem dX8_lengthOf_28 : decode cX8_lengthOf 28 = .ok (.goto 4, 3) := by decide +kernel
theorem dX8_lengthOf_31 : decode cX8_lengthOf 31 = .ok (.iconst 0, 1) := by decide +kernel
theorem dX8_lengthOf_32 : decode cX8_lengthOf 32 = .ok (.iadd, 1) := by decide +kernel
theorem dX8_lengthOf_33 : decode cX8_lengthOf 33 = .ok (.istore_n 2, 1) := by decide +kernel
theorem dX8_lengthOf_34 : decode cX8_lengthOf 34 = .ok (.iinc 3 1, 3) := by decide +kernel
theorem dX8_lengthOf_37 : decode cX8_lengthOf 37 = .ok (.goto (-33), 3) := by decide +kernel
theorem dX8_lengthOf_40 : decode cX8_lengthOf 40 = .ok (.iload_n 2, 1) := by decide +kernel
theorem dX8_lengthOf_41 : decode cX8_lengthOf 41 = .ok (.ireturn, 1) := by decide +kernel
theorem dX8_besides_0 : decode cX8_besides 0 = .ok (.lconst 0, 1) := by decide +kernel
theorem dX8_besides_1 : decode cX8_besides 1 = .ok (.lstore_n 2, 1) := by decide +kernel
theorem dX8_besides_2 : decode cX8_besides 2 = .ok (.iconst 0, 1) := by decide +kernel
theorem dX8_besides_3 : decode cX8_besides 3 = .ok (.istore 4, 2) := by decide +kernel
theorem dX8_besides_5 : decode cX8_besides 5 = .ok (.iload 4, 2) := by decide +kernel
theorem dX8_besides_7 : decode cX8_besides 7 = .ok (.iconst 2, 1) := by decide +kernel
theorem dX8_besides_8 : decode cX8_besides 8 = .ok (.aload_n 0, 1) := by decide +kernel
theorem dX8_besides_9 : decode cX8_besides 9 = .ok (.getfield 7, 3) := by decide +kernel
theorem dX8_besides_12 : decode cX8_besides 12 = .ok (.iconst 1, 1) := by decide +kernel
theorem dX8_besides_13 : decode cX8_besides 13 = .ok (.iaload, 1) := by decide +kernel
theorem dX8_besides_14 : decode cX8_besides 14 = .ok (.imul, 1) := by decide +kernel
theorem dX8_besides_15 : decode cX8_besides 15 = .ok (.if_icmp .ge 38, 3) := by decide +kernel
theorem dX8_besides_18 : decode cX8_besides 18 = .ok (.lload_n 2, 1) := by decide +kernel
theorem dX8_besides_19 : decode cX8_besides 19 = .ok (.aload_n 0, 1) := by decide +kernel
theorem dX8_besides_20 : decode cX8_besides 20 = .ok (.getfield 20, 3) := by decide +kernel
theorem dX8_besides_23 : decode cX8_besides 23 = .ok (.iload 4, 2) := by decide +kernel
theorem dX8_besides_25 : decode cX8_besides 25 = .ok (.iaload, 1) := by decide +kernel
theorem dX8_besides_26 : decode cX8_besides 26 = .ok (.iload_n 1, 1) := by decide +kernel
theorem dX8_besides_27 : decode cX8_besides 27 = .ok (.if_icmp .ne 17, 3) := by decide +kernel
theorem dX8_besides_30 : decode cX8_besides 30 = .ok (.lconst 1, 1) := by decide +kernel
theorem dX8_besides_31 : decode cX8_besides 31 = .ok (.aload_n 0, 1) := by decide +kernel
theorem dX8_besides_32 : decode cX8_besides 32 = .ok (.getfield 20, 3) := by decide +kernel
theorem dX8_besides_35 : decode cX8_besides 35 = .ok (.iload 4, 2) := by decide +kernel
theorem dX8_besides_37 : decode cX8_besides 37 = .ok (.iconst 1, 1) := by decide +kernel
theorem dX8_besides_38 : decode cX8_besides 38 = .ok (.ixor, 1) := by decide +kernel
theorem dX8_besides_39 : decode cX8_besides 39 = .ok (.iaload, 1) := by decide +kernel
theorem dX8_besides_40 : decode cX8_besides 40 = .ok (.lshl, 1) := by decide +kernel
theorem dX8_besides_41 : decode cX8_besides 41 = .ok (.goto 4, 3) := by decide +kernel
theorem dX8_besides_44 : decode cX8_besides 44 = .ok (.lconst 0, 1) := by decide +kernel
theorem dX8_besides_45 : decode cX8_besides 45 = .ok (.lor, 1) := by decide +kernel
theorem dX8_besides_46 : decode cX8_besides 46 = .ok (.lstore_n 2, 1) := by decide +kernel
theorem dX8_besides_47 : decode cX8_besides 47 = .ok (.iinc 4 1, 3) := by decide +kernel
theorem dX8_besides_50 : decode cX8_besides 50 = .ok (.goto (-45), 3) := by decide +kernel
theorem dX8_besides_53 : decode cX8_besides 53 = .ok (.lload_n 2, 1) := by decide +kernel
theorem dX8_besides_54 : decode cX8_besides 54 = .ok (.lconst 1, 1) := by decide +kernel
theorem dX8_besides_55 : decode cX8_besides 55 = .ok (.iload_n 1, 1) := by decide +kernel
theorem dX8_besides_56 : decode cX8_besides 56 = .ok (.lshl, 1) := by decide +kernel
theorem dX8_besides_57 : decode cX8_besides 57 = .ok (.ldc2_w 152, 3) := by decide +kernel
theorem dX8_besides_60 : decode cX8_besides 60 = .ok (.lxor, 1) := by decide +kernel
theorem dX8_besides_61 : decode cX8_besides 61 = .ok (.land, 1) := by decide +kernel
theorem dX8_besides_62 : decode cX8_besides 62 = .ok (.invokestatic 136, 3) := by decide +kernel
theorem dX8_besides_65 : decode cX8_besides 65 = .ok (.ireturn, 1) := by decide +kernel
theorem dX8_face_0 : decode cX8_face 0 = .ok (.aload_n 0, 1) := by decide +kernel
theorem dX8_face_1 : decode cX8_face 1 = .ok (.invokevirtual 117, 3) := by decide +kernel
theorem dX8_face_4 : decode cX8_face 4 = .ok (.iload_n 1, 1) := by decide +kernel
theorem dX8_face_5 : decode cX8_face 5 = .ok (.iconst 0, 1) := by decide +kernel
theorem dX8_face_6 : decode cX8_face 6 = .ok (.aload_n 0, 1) := by decide +kernel
theorem dX8_face_7 : decode cX8_face 7 = .ok (.getfield 120, 3) := by decide +kernel
theorem dX8_face_10 : decode cX8_face 10 = .ok (.iconst 1, 1) := by decide +kernel
theorem dX8_face_11 : decode cX8_face 11 = .ok (.isub, 1) := by decide +kernel
theorem dX8_face_12 : decode cX8_face 12 = .ok (.invokestatic 70, 3) := by decide +kernel
theorem dX8_face_15 : decode cX8_face 15 = .ok (.ifCond .eq 12, 3) := by decide +kernel
theorem dX8_face_18 : decode cX8_face 18 = .ok (.iload_n 2, 1) := by decide +kernel
theorem dX8_face_19 : decode cX8_face 19 = .ok (.iconst 0, 1) := by decide +kernel
theorem dX8_face_20 : decode cX8_face 20 = .ok (.iconst 3, 1) := by decide +kernel
theorem dX8_face_21 : decode cX8_face 21 = .ok (.invokestatic 70, 3) := by decide +kernel
theorem dX8_face_24 : decode cX8_face 24 = .ok (.ifCond .ne 5, 3) := by decide +kernel
theorem dX8_face_27 : decode cX8_face 27 = .ok (.iconst (-1), 1) := by decide +kernel
theorem dX8_face_28 : decode cX8_face 28 = .ok (.ireturn, 1) := by decide +kernel
theorem dX8_face_29 : decode cX8_face 29 = .ok (.iload_n 2, 1) := by decide +kernel
theorem dX8_face_30 : decode cX8_face 30 = .ok (.ifCond .ne 11, 3) := by decide +kernel
theorem dX8_face_33 : decode cX8_face 33 = .ok (.aload_n 0, 1) := by decide +kernel
theorem dX8_face_34 : decode cX8_face 34 = .ok (.iload_n 1, 1) := by decide +kernel
theorem dX8_face_35 : decode cX8_face 35 = .ok (.invokevirtual 154, 3) := by decide +kernel
theorem dX8_face_38 : decode cX8_face 38 = .ok (.goto 39, 3) := by decide +kernel
theorem dX8_face_41 : decode cX8_face 41 = .ok (.iload_n 2, 1) := by decide +kernel
theorem dX8_face_42 : decode cX8_face 42 = .ok (.iconst 1, 1) := by decide +kernel
theorem dX8_face_43 : decode cX8_face 43 = .ok (.if_icmp .ne 15, 3) := by decide +kernel
theorem dX8_face_46 : decode cX8_face 46 = .ok (.aload_n 0, 1) := by decide +kernel
theorem dX8_face_47 : decode cX8_face 47 = .ok (.iload_n 1, 1) := by decide +kernel
theorem dX8_face_48 : decode cX8_face 48 = .ok (.invokevirtual 140, 3) := by decide +kernel
theorem dX8_face_51 : decode cX8_face 51 = .ok (.i2l, 1) := by decide +kernel
theorem dX8_face_52 : decode cX8_face 52 = .ok (.invokestatic 136, 3) := by decide +kernel
theorem dX8_face_55 : decode cX8_face 55 = .ok (.goto 22, 3) := by decide +kernel
theorem dX8_face_58 : decode cX8_face 58 = .ok (.iload_n 2, 1) := by decide +kernel
theorem dX8_face_59 : decode cX8_face 59 = .ok (.iconst 2, 1) := by decide +kernel
theorem dX8_face_60 : decode cX8_face 60 = .ok (.if_icmp .ne 12, 3) := by decide +kernel
theorem dX8_face_63 : decode cX8_face 63 = .ok (.aload_n 0, 1) := by decide +kernel
theorem dX8_face_64 : decode cX8_face 64 = .ok (.getfield 23, 3) := by decide +kernel
theorem dX8_face_67 : decode cX8_face 67 = .ok (.iload_n 1, 1) := by decide +kernel
theorem dX8_face_68 : decode cX8_face 68 = .ok (.iaload, 1) := by decide +kernel
theorem dX8_face_69 : decode cX8_face 69 = .ok (.goto 8, 3) := by decide +kernel
theorem dX8_face_72 : decode cX8_face 72 = .ok (.aload_n 0, 1) := by decide +kernel
theorem dX8_face_73 : decode cX8_face 73 = .ok (.iload_n 1, 1) := by decide +kernel
theorem dX8_face_74 : decode cX8_face 74 = .ok (.invokevirtual 157, 3) := by decide +kernel
theorem dX8_face_77 : decode cX8_face 77 = .ok (.ireturn, 1) := by decide +kernel
theorem dX8_walk_0 : decode cX8_walk 0 = .ok (.aload_n 0, 1) := by decide +kernel
theorem dX8_walk_1 : decode cX8_walk 1 = .ok (.invokevirtual 117, 3) := by decide +kernel
theorem dX8_walk_4 : decode cX8_walk 4 = .ok (.iload_n 1, 1) := by decide +kernel
theorem dX8_walk_5 : decode cX8_walk 5 = .ok (.iconst 0, 1) := by decide +kernel
theorem dX8_walk_6 : decode cX8_walk 6 = .ok (.aload_n 0, 1) := by decide +kernel
theorem dX8_walk_7 : decode cX8_walk 7 = .ok (.getfield 120, 3) := by decide +kernel
theorem dX8_walk_10 : decode cX8_walk 10 = .ok (.iconst 1, 1) := by decide +kernel
theorem dX8_walk_11 : decode cX8_walk 11 = .ok (.isub, 1) := by decide +kernel
theorem dX8_walk_12 : decode cX8_walk 12 = .ok (.invokestatic 70, 3) := by decide +kernel
theorem dX8_walk_15 : decode cX8_walk 15 = .ok (.ifCond .eq 7, 3) := by decide +kernel
theorem dX8_walk_18 : decode cX8_walk 18 = .ok (.iload_n 2, 1) := by decide +kernel
theorem dX8_walk_19 : decode cX8_walk 19 = .ok (.ifCond .ge 5, 3) := by decide +kernel
theorem dX8_walk_22 : decode cX8_walk 22 = .ok (.iconst (-1), 1) := by decide +kernel
theorem dX8_walk_23 : decode cX8_walk 23 = .ok (.ireturn, 1) := by decide +kernel
theorem dX8_walk_24 : decode cX8_walk 24 = .ok (.iload_n 2, 1) := by decide +kernel
theorem dX8_walk_25 : decode cX8_walk 25 = .ok (.aload_n 0, 1) := by decide +kernel
theorem dX8_walk_26 : decode cX8_walk 26 = .ok (.iload_n 1, 1) := by decide +kernel
theorem dX8_walk_27 : decode cX8_walk 27 = .ok (.invokevirtual 154, 3) := by decide +kernel
theorem dX8_walk_30 : decode cX8_walk 30 = .ok (.if_icmp .lt 6, 3) := by decide +kernel
theorem dX8_walk_33 : decode cX8_walk 33 = .ok (.bipush (-9), 2) := by decide +kernel
theorem dX8_walk_35 : decode cX8_walk 35 = .ok (.ireturn, 1) := by decide +kernel
theorem dX8_walk_36 : decode cX8_walk 36 = .ok (.aload_n 0, 1) := by decide +kernel
theorem dX8_walk_37 : decode cX8_walk 37 = .ok (.getfield 23, 3) := by decide +kernel
theorem dX8_walk_40 : decode cX8_walk 40 = .ok (.iload_n 1, 1) := by decide +kernel
theorem dX8_walk_41 : decode cX8_walk 41 = .ok (.iaload, 1) := by decide +kernel
theorem dX8_walk_42 : decode cX8_walk 42 = .ok (.istore_n 3, 1) := by decide +kernel
theorem dX8_walk_43 : decode cX8_walk 43 = .ok (.iconst 0, 1) := by decide +kernel
theorem dX8_walk_44 : decode cX8_walk 44 = .ok (.istore 4, 2) := by decide +kernel
theorem dX8_walk_46 : decode cX8_walk 46 = .ok (.iload 4, 2) := by decide +kernel
theorem dX8_walk_48 : decode cX8_walk 48 = .ok (.iload_n 2, 1) := by decide +kernel
theorem dX8_walk_49 : decode cX8_walk 49 = .ok (.if_icmp .ge 15, 3) := by decide +kernel
theorem dX8_walk_52 : decode cX8_walk 52 = .ok (.aload_n 0, 1) := by decide +kernel
theorem dX8_walk_53 : decode cX8_walk 53 = .ok (.iload_n 3, 1) := by decide +kernel
theorem dX8_walk_54 : decode cX8_walk 54 = .ok (.invokevirtual 130, 3) := by decide +kernel
theorem dX8_walk_57 : decode cX8_walk 57 = .ok (.istore_n 3, 1) := by decide +kernel
theorem dX8_walk_58 : decode cX8_walk 58 = .ok (.iinc 4 1, 3) := by decide +kernel
theorem dX8_walk_61 : decode cX8_walk 61 = .ok (.goto (-15), 3) := by decide +kernel
theorem dX8_walk_64 : decode cX8_walk 64 = .ok (.iload_n 3, 1) := by decide +kernel
theorem dX8_walk_65 : decode cX8_walk 65 = .ok (.ireturn, 1) := by decide +kernel
theorem dX8_faceOf_0 : decode cX8_faceOf 0 = .ok (.iload_n 1, 1) := by decide +kernel
theorem dX8_faceOf_1 : decode cX8_faceOf 1 = .ok (.iconst 0, 1) := by decide +kernel
theorem dX8_faceOf_2 : decode cX8_faceOf 2 = .ok (.iconst 2, 1) := by decide +kernel
theorem dX8_faceOf_3 : decode cX8_faceOf 3 = .ok (.aload_n 0, 1) := by decide +kernel
theorem dX8_faceOf_4 : decode cX8_faceOf 4 = .ok (.getfield 7, 3) := by decide +kernel
theorem dX8_faceOf_7 : decode cX8_faceOf 7 = .ok (.iconst 1, 1) := by decide +kernel
theorem dX8_faceOf_8 : decode cX8_faceOf 8 = .ok (.iaload, 1) := by decide +kernel
theorem dX8_faceOf_9 : decode cX8_faceOf 9 = .ok (.imul, 1) := by decide +kernel
theorem dX8_faceOf_10 : decode cX8_faceOf 10 = .ok (.iconst 1, 1) := by decide +kernel
theorem dX8_faceOf_11 : decode cX8_faceOf 11 = .ok (.isub, 1) := by decide +kernel
theorem dX8_faceOf_12 : decode cX8_faceOf 12 = .ok (.invokestatic 70, 3) := by decide +kernel
theorem dX8_faceOf_15 : decode cX8_faceOf 15 = .ok (.ifCond .ne 5, 3) := by decide +kernel
theorem dX8_faceOf_18 : decode cX8_faceOf 18 = .ok (.iconst (-1), 1) := by decide +kernel
theorem dX8_faceOf_19 : decode cX8_faceOf 19 = .ok (.ireturn, 1) := by decide +kernel
theorem dX8_faceOf_20 : decode cX8_faceOf 20 = .ok (.aload_n 0, 1) := by decide +kernel
theorem dX8_faceOf_21 : decode cX8_faceOf 21 = .ok (.invokevirtual 117, 3) := by decide +kernel
theorem dX8_faceOf_24 : decode cX8_faceOf 24 = .ok (.aload_n 0, 1) := by decide +kernel
theorem dX8_faceOf_25 : decode cX8_faceOf 25 = .ok (.getfield 20, 3) := by decide +kernel
theorem dX8_faceOf_28 : decode cX8_faceOf 28 = .ok (.iload_n 1, 1) := by decide +kernel
theorem dX8_faceOf_29 : decode cX8_faceOf 29 = .ok (.iaload, 1) := by decide +kernel
theorem dX8_faceOf_30 : decode cX8_faceOf 30 = .ok (.ireturn, 1) := by decide +kernel
theorem dX8_commonFace_0 : decode cX8_commonFace 0 = .ok (.aload_n 0, 1) := by decide +kernel
theorem dX8_commonFace_1 : decode cX8_commonFace 1 = .ok (.iload_n 1, 1) := by decide +kernel
theorem dX8_commonFace_2 : decode cX8_commonFace 2 = .ok (.iload_n 2, 1) := by decide +kernel
theorem dX8_commonFace_3 : decode cX8_commonFace 3 = .ok (.invokevirtual 100, 3) := by decide +kernel
theorem dX8_commonFace_6 : decode cX8_commonFace 6 = .ok (.ifCond .ne 5, 3) := by decide +kernel
theorem dX8_commonFace_9 : decode cX8_commonFace 9 = .ok (.iconst (-1), 1) := by decide +kernel
theorem dX8_commonFace_10 : decode cX8_commonFace 10 = .ok (.ireturn, 1) := by decide +kernel
theorem dX8_commonFace_11 : decode cX8_commonFace 11 = .ok (.aload_n 0, 1) := by decide +kernel
theorem dX8_commonFace_12 : decode cX8_commonFace 12 = .ok (.invokevirtual 117, 3) := by decide +kernel
theorem dX8_commonFace_15 : decode cX8_commonFace 15 = .ok (.iconst 0, 1) := by decide +kernel
theorem dX8_commonFace_16 : decode cX8_commonFace 16 = .ok (.istore_n 3, 1) := by decide +kernel
theorem dX8_commonFace_17 : decode cX8_commonFace 17 = .ok (.iload_n 3, 1) := by decide +kernel
theorem dX8_commonFace_18 : decode cX8_commonFace 18 = .ok (.aload_n 0, 1) := by decide +kernel
theorem dX8_commonFace_19 : decode cX8_commonFace 19 = .ok (.getfield 120, 3) := by decide +kernel
theorem dX8_commonFace_22 : decode cX8_commonFace 22 = .ok (.if_icmp .ge 32, 3) := by decide +kernel
theorem dX8_commonFace_25 : decode cX8_commonFace 25 = .ok (.aload_n 0, 1) := by decide +kernel
theorem dX8_commonFace_26 : decode cX8_commonFace 26 = .ok (.iload_n 3, 1) := by decide +kernel
theorem dX8_commonFace_27 : decode cX8_commonFace 27 = .ok (.invokevirtual 140, 3) := by decide +kernel
theorem dX8_commonFace_30 : decode cX8_commonFace 30 = .ok (.iload_n 1, 1) := by decide +kernel
theorem dX8_commonFace_31 : decode cX8_commonFace 31 = .ok (.ishr, 1) := by decide +kernel
theorem dX8_commonFace_32 : decode cX8_commonFace 32 = .ok (.aload_n 0, 1) := by decide +kernel
theorem dX8_commonFace_33 : decode cX8_commonFace 33 = .ok (.iload_n 3, 1) := by decide +kernel
theorem dX8_commonFace_34 : decode cX8_commonFace 34 = .ok (.invokevirtual 140, 3) := by decide +kernel
theorem dX8_commonFace_37 : decode cX8_commonFace 37 = .ok (.iload_n 2, 1) := by decide +kernel
theorem dX8_commonFace_38 : decode cX8_commonFace 38 = .ok (.ishr, 1) := by decide +kernel
theorem dX8_commonFace_39 : decode cX8_commonFace 39 = .ok (.iand, 1) := by decide +kernel
theorem dX8_commonFace_40 : decode cX8_commonFace 40 = .ok (.iconst 1, 1) := by decide +kernel
theorem dX8_commonFace_41 : decode cX8_commonFace 41 = .ok (.iand, 1) := by decide +kernel
theorem dX8_commonFace_42 : decode cX8_commonFace 42 = .ok (.iconst 1, 1) := by decide +kernel
theorem dX8_commonFace_43 : decode cX8_commonFace 43 = .ok (.if_icmp .ne 5, 3) := by decide +kernel
theorem dX8_commonFace_46 : decode cX8_commonFace 46 = .ok (.iload_n 3, 1) := by decide +kernel
theorem dX8_commonFace_47 : decode cX8_commonFace 47 = .ok (.ireturn, 1) := by decide +kernel
theorem dX8_commonFace_48 : decode cX8_commonFace 48 = .ok (.iinc 3 1, 3) := by decide +kernel
theorem dX8_commonFace_51 : decode cX8_commonFace 51 = .ok (.goto (-34), 3) := by decide +kernel
theorem dX8_commonFace_54 : decode cX8_commonFace 54 = .ok (.bipush (-9), 2) := by decide +kernel
theorem dX8_commonFace_56 : decode cX8_commonFace 56 = .ok (.ireturn, 1) := by decide +kernel
theorem dX8_appendCharacter_0 : decode cX8_appendCharacter 0 = .ok (.iload_n 1, 1) := by decide +kernel
theorem dX8_appendCharacter_1 : decode cX8_appendCharacter 1 = .ok (.iconst 0, 1) := by decide +kernel
theorem dX8_appendCharacter_2 : decode cX8_appendCharacter 2 = .ok (.sipush 255, 3) := by decide +kernel
theorem dX8_appendCharacter_5 : decode cX8_appendCharacter 5 = .ok (.invokestatic 70, 3) := by decide +kernel
theorem dX8_appendCharacter_8 : decode cX8_appendCharacter 8 = .ok (.ifCond .ne 5, 3) := by decide +kernel
theorem dX8_appendCharacter_11 : decode cX8_appendCharacter 11 = .ok (.iconst (-1), 1) := by decide +kernel
theorem dX8_appendCharacter_12 : decode cX8_appendCharacter 12 = .ok (.ireturn, 1) := by decide +kernel
theorem dX8_appendCharacter_13 : decode cX8_appendCharacter 13 = .ok (.aload_n 0, 1) := by decide +kernel
theorem dX8_appendCharacter_14 : decode cX8_appendCharacter 14 = .ok (.getfield 149, 3) := by decide +kernel
theorem dX8_appendCharacter_17 : decode cX8_appendCharacter 17 = .ok (.bipush 100, 2) := by decide +kernel
theorem dX8_appendCharacter_19 : decode cX8_appendCharacter 19 = .ok (.if_icmp .ne 6, 3) := by decide +kernel
theorem dX8_appendCharacter_22 : decode cX8_appendCharacter 22 = .ok (.bipush (-3), 2) := by decide +kernel
theorem dX8_appendCharacter_24 : decode cX8_appendCharacter 24 = .ok (.ireturn, 1) := by decide +kernel
theorem dX8_appendCharacter_25 : decode cX8_appendCharacter 25 = .ok (.aload_n 0, 1) := by decide +kernel
theorem dX8_appendCharacter_26 : decode cX8_appendCharacter 26 = .ok (.getfield 16, 3) := by decide +kernel
theorem dX8_appendCharacter_29 : decode cX8_appendCharacter 29 = .ok (.aload_n 0, 1) := by decide +kernel
theorem dX8_appendCharacter_30 : decode cX8_appendCharacter 30 = .ok (.getfield 149, 3) := by decide +kernel
theorem dX8_appendCharacter_33 : decode cX8_appendCharacter 33 = .ok (.iload_n 1, 1) := by decide +kernel
theorem dX8_appendCharacter_34 : decode cX8_appendCharacter 34 = .ok (.i2b, 1) := by decide +kernel
theorem dX8_appendCharacter_35 : decode cX8_appendCharacter 35 = .ok (.bastore, 1) := by decide +kernel
theorem dX8_appendCharacter_36 : decode cX8_appendCharacter 36 = .ok (.aload_n 0, 1) := by decide +kernel
theorem dX8_appendCharacter_37 : decode cX8_appendCharacter 37 = .ok (.dup, 1) := by decide +kernel
theorem dX8_appendCharacter_38 : decode cX8_appendCharacter 38 = .ok (.getfield 149, 3) := by decide +kernel
theorem dX8_appendCharacter_41 : decode cX8_appendCharacter 41 = .ok (.iconst 1, 1) := by decide +kernel
theorem dX8_appendCharacter_42 : decode cX8_appendCharacter 42 = .ok (.iadd, 1) := by decide +kernel
theorem dX8_appendCharacter_43 : decode cX8_appendCharacter 43 = .ok (.putfield 149, 3) := by decide +kernel
theorem dX8_appendCharacter_46 : decode cX8_appendCharacter 46 = .ok (.aload_n 0, 1) := by decide +kernel
theorem dX8_appendCharacter_47 : decode cX8_appendCharacter 47 = .ok (.getfield 149, 3) := by decide +kernel
theorem dX8_appendCharacter_50 : decode cX8_appendCharacter 50 = .ok (.ireturn, 1) := by decide +kernel
theorem dX8_clearText_0 : decode cX8_clearText 0 = .ok (.aload_n 0, 1) := by decide +kernel
theorem dX8_clearText_1 : decode cX8_clearText 1 = .ok (.getfield 149, 3) := by decide +kernel
theorem dX8_clearText_4 : decode cX8_clearText 4 = .ok (.istore_n 1, 1) := by decide +kernel
theorem dX8_clearText_5 : decode cX8_clearText 5 = .ok (.aload_n 0, 1) := by decide +kernel
theorem dX8_clearText_6 : decode cX8_clearText 6 = .ok (.iconst 0, 1) := by decide +kernel
theorem dX8_clearText_7 : decode cX8_clearText 7 = .ok (.putfield 149, 3) := by decide +kernel
theorem dX8_clearText_10 : decode cX8_clearText 10 = .ok (.iload_n 1, 1) := by decide +kernel
theorem dX8_clearText_11 : decode cX8_clearText 11 = .ok (.ireturn, 1) := by decide +kernel
theorem dX8_exchanges_0 : decode cX8_exchanges 0 = .ok (.iconst 0, 1) := by decide +kernel
theorem dX8_exchanges_1 : decode cX8_exchanges 1 = .ok (.istore_n 1, 1) := by decide +kernel
theorem dX8_exchanges_2 : decode cX8_exchanges 2 = .ok (.iload_n 1, 1) := by decide +kernel
theorem dX8_exchanges_3 : decode cX8_exchanges 3 = .ok (.bipush 124, 2) := by decide +kernel
theorem dX8_exchanges_5 : decode cX8_exchanges 5 = .ok (.if_icmp .ge 35, 3) := by decide +kernel
theorem dX8_exchanges_8 : decode cX8_exchanges 8 = .ok (.aload_n 0, 1) := by decide +kernel
theorem dX8_exchanges_9 : decode cX8_exchanges 9 = .ok (.getfield 7, 3) := by decide +kernel
theorem dX8_exchanges_12 : decode cX8_exchanges 12 = .ok (.iload_n 1, 1) := by decide +kernel
theorem dX8_exchanges_13 : decode cX8_exchanges 13 = .ok (.iaload, 1) := by decide +kernel
theorem dX8_exchanges_14 : decode cX8_exchanges 14 = .ok (.istore_n 2, 1) := by decide +kernel
theorem dX8_exchanges_15 : decode cX8_exchanges 15 = .ok (.aload_n 0, 1) := by decide +kernel
theorem dX8_exchanges_16 : decode cX8_exchanges 16 = .ok (.getfield 7, 3) := by decide +kernel
theorem dX8_exchanges_19 : decode cX8_exchanges 19 = .ok (.iload_n 1, 1) := by decide +kernel
theorem dX8_exchanges_20 : decode cX8_exchanges 20 = .ok (.aload_n 0, 1) := by decide +kernel
theorem dX8_exchanges_21 : decode cX8_exchanges 21 = .ok (.getfield 26, 3) := by decide +kernel
theorem dX8_exchanges_24 : decode cX8_exchanges 24 = .ok (.iload_n 1, 1) := by decide +kernel
theorem dX8_exchanges_25 : decode cX8_exchanges 25 = .ok (.iaload, 1) := by decide +kernel
theorem dX8_exchanges_26 : decode cX8_exchanges 26 = .ok (.iastore, 1) := by decide +kernel
theorem dX8_exchanges_27 : decode cX8_exchanges 27 = .ok (.aload_n 0, 1) := by decide +kernel
theorem dX8_exchanges_28 : decode cX8_exchanges 28 = .ok (.getfield 26, 3) := by decide +kernel
theorem dX8_exchanges_31 : decode cX8_exchanges 31 = .ok (.iload_n 1, 1) := by decide +kernel
theorem dX8_exchanges_32 : decode cX8_exchanges 32 = .ok (.iload_n 2, 1) := by decide +kernel
theorem dX8_exchanges_33 : decode cX8_exchanges 33 = .ok (.iastore, 1) := by decide +kernel
theorem dX8_exchanges_34 : decode cX8_exchanges 34 = .ok (.iinc 1 1, 3) := by decide +kernel
theorem dX8_exchanges_37 : decode cX8_exchanges 37 = .ok (.goto (-35), 3) := by decide +kernel
theorem dX8_exchanges_40 : decode cX8_exchanges 40 = .ok (.return_, 1) := by decide +kernel
theorem dX8_may_0 : decode cX8_may 0 = .ok (.iload_n 2, 1) := by decide +kernel
theorem dX8_may_1 : decode cX8_may 1 = .ok (.bipush 48, 2) := by decide +kernel
theorem dX8_may_3 : decode cX8_may 3 = .ok (.isub, 1) := by decide +kernel
theorem dX8_may_4 : decode cX8_may 4 = .ok (.istore 4, 2) := by decide +kernel
theorem dX8_may_6 : decode cX8_may 6 = .ok (.iload_n 1, 1) := by decide +kernel
theorem dX8_may_7 : decode cX8_may 7 = .ok (.tableswitch 109 0 3 #[29, 38, 50, 76], 29) := by decide +kernel
theorem dX8_may_36 : decode cX8_may 36 = .ok (.iload 4, 2) := by decide +kernel
theorem dX8_may_38 : decode cX8_may 38 = .ok (.iconst 2, 1) := by decide +kernel
theorem dX8_may_39 : decode cX8_may 39 = .ok (.bipush 9, 2) := by decide +kernel
theorem dX8_may_41 : decode cX8_may 41 = .ok (.invokestatic 70, 3) := by decide +kernel
theorem dX8_may_44 : decode cX8_may 44 = .ok (.ireturn, 1) := by decide +kernel
theorem dX8_may_45 : decode cX8_may 45 = .ok (.iload_n 2, 1) := by decide +kernel
theorem dX8_may_46 : decode cX8_may 46 = .ok (.bipush 58, 2) := by decide +kernel
theorem dX8_may_48 : decode cX8_may 48 = .ok (.if_icmp .ne 7, 3) := by decide +kernel
theorem dX8_may_51 : decode cX8_may 51 = .ok (.iconst 1, 1) := by decide +kernel
theorem dX8_may_52 : decode cX8_may 52 = .ok (.goto 4, 3) := by decide +kernel
theorem dX8_may_55 : decode cX8_may 55 = .ok (.iconst 0, 1) := by decide +kernel
theorem dX8_may_56 : decode cX8_may 56 = .ok (.ireturn, 1) := by decide +kernel
theorem dX8_may_57 : decode cX8_may 57 = .ok (.aload_n 0, 1) := by decide +kernel
theorem dX8_may_58 : decode cX8_may 58 = .ok (.iload 4, 2) := by decide +kernel
theorem dX8_may_60 : decode cX8_may 60 = .ok (.invokevirtual 97, 3) := by decide +kernel
theorem dX8_may_63 : decode cX8_may 63 = .ok (.ifCond .eq 18, 3) := by decide +kernel
theorem dX8_may_66 : decode cX8_may 66 = .ok (.aload_n 0, 1) := by decide +kernel
theorem dX8_may_67 : decode cX8_may 67 = .ok (.getfield 7, 3) := by decide +kernel
theorem dX8_may_70 : decode cX8_may 70 = .ok (.iconst 1, 1) := by decide +kernel
theorem dX8_may_71 : decode cX8_may 71 = .ok (.iaload, 1) := by decide +kernel
theorem dX8_may_72 : decode cX8_may 72 = .ok (.bipush 20, 2) := by decide +kernel
theorem dX8_may_74 : decode cX8_may 74 = .ok (.if_icmp .ge 7, 3) := by decide +kernel
theorem dX8_may_77 : decode cX8_may 77 = .ok (.iconst 1, 1) := by decide +kernel
theorem dX8_may_78 : decode cX8_may 78 = .ok (.goto 4, 3) := by decide +kernel
theorem dX8_may_81 : decode cX8_may 81 = .ok (.iconst 0, 1) := by decide +kernel
theorem dX8_may_82 : decode cX8_may 82 = .ok (.ireturn, 1) := by decide +kernel
theorem dX8_may_83 : decode cX8_may 83 = .ok (.aload_n 0, 1) := by decide +kernel
theorem dX8_may_84 : decode cX8_may 84 = .ok (.iload 4, 2) := by decide +kernel
theorem dX8_may_86 : decode cX8_may 86 = .ok (.invokevirtual 97, 3) := by decide +kernel
theorem dX8_may_89 : decode cX8_may 89 = .ok (.ifCond .eq 25, 3) := by decide +kernel
theorem dX8_may_92 : decode cX8_may 92 = .ok (.iload 4, 2) := by decide +kernel
theorem dX8_may_94 : decode cX8_may 94 = .ok (.iload_n 3, 1) := by decide +kernel
theorem dX8_may_95 : decode cX8_may 95 = .ok (.if_icmp .eq 19, 3) := by decide +kernel
theorem dX8_may_98 : decode cX8_may 98 = .ok (.aload_n 0, 1) := by decide +kernel
theorem dX8_may_99 : decode cX8_may 99 = .ok (.iload_n 3, 1) := by decide +kernel
theorem dX8_may_100 : decode cX8_may 100 = .ok (.iload 4, 2) := by decide +kernel
theorem dX8_may_102 : decode cX8_may 102 = .ok (.invokevirtual 103, 3) := by decide +kernel
theorem dX8_may_105 : decode cX8_may 105 = .ok (.bipush (-9), 2) := by decide +kernel
theorem dX8_may_107 : decode cX8_may 107 = .ok (.if_icmp .ne 7, 3) := by decide +kernel
theorem dX8_may_110 : decode cX8_may 110 = .ok (.iconst 1, 1) := by decide +kernel
theorem dX8_may_111 : decode cX8_may 111 = .ok (.goto 4, 3) := by decide +kernel
theorem dX8_may_114 : decode cX8_may 114 = .ok (.iconst 0, 1) := by decide +kernel
theorem dX8_may_115 : decode cX8_may 115 = .ok (.ireturn, 1) := by decide +kernel
theorem dX8_may_116 : decode cX8_may 116 = .ok (.iload_n 2, 1) := by decide +kernel
theorem dX8_may_117 : decode cX8_may 117 = .ok (.bipush 59, 2) := by decide +kernel
theorem dX8_may_119 : decode cX8_may 119 = .ok (.if_icmp .ne 7, 3) := by decide +kernel
theorem dX8_may_122 : decode cX8_may 122 = .ok (.iconst 1, 1) := by decide +kernel
theorem dX8_may_123 : decode cX8_may 123 = .ok (.goto 4, 3) := by decide +kernel
theorem dX8_may_126 : decode cX8_may 126 = .ok (.iconst 0, 1) := by decide +kernel
theorem dX8_may_127 : decode cX8_may 127 = .ok (.ireturn, 1) := by decide +kernel
theorem dX8_load_0 : decode cX8_load 0 = .ok (.iconst 0, 1) := by decide +kernel
theorem dX8_load_1 : decode cX8_load 1 = .ok (.istore_n 1, 1) := by decide +kernel
theorem dX8_load_2 : decode cX8_load 2 = .ok (.iload_n 1, 1) := by decide +kernel
theorem dX8_load_3 : decode cX8_load 3 = .ok (.bipush 124, 2) := by decide +kernel
theorem dX8_load_5 : decode cX8_load 5 = .ok (.if_icmp .ge 21, 3) := by decide +kernel
theorem dX8_load_8 : decode cX8_load 8 = .ok (.aload_n 0, 1) := by decide +kernel
theorem dX8_load_9 : decode cX8_load 9 = .ok (.getfield 26, 3) := by decide +kernel
theorem dX8_load_12 : decode cX8_load 12 = .ok (.iload_n 1, 1) := by decide +kernel
theorem dX8_load_13 : decode cX8_load 13 = .ok (.aload_n 0, 1) := by decide +kernel
theorem dX8_load_14 : decode cX8_load 14 = .ok (.getfield 7, 3) := by decide +kernel
theorem dX8_load_17 : decode cX8_load 17 = .ok (.iload_n 1, 1) := by decide +kernel
theorem dX8_load_18 : decode cX8_load 18 = .ok (.iaload, 1) := by decide +kernel
theorem dX8_load_19 : decode cX8_load 19 = .ok (.iastore, 1) := by decide +kernel
theorem dX8_load_20 : decode cX8_load 20 = .ok (.iinc 1 1, 3) := by decide +kernel
theorem dX8_load_23 : decode cX8_load 23 = .ok (.goto (-21), 3) := by decide +kernel
theorem dX8_load_26 : decode cX8_load 26 = .ok (.aload_n 0, 1) := by decide +kernel
theorem dX8_load_27 : decode cX8_load 27 = .ok (.iconst 0, 1) := by decide +kernel
theorem dX8_load_28 : decode cX8_load 28 = .ok (.invokevirtual 93, 3) := by decide +kernel
theorem dX8_load_31 : decode cX8_load 31 = .ok (.iconst 0, 1) := by decide +kernel
theorem dX8_load_32 : decode cX8_load 32 = .ok (.istore_n 1, 1) := by decide +kernel
theorem dX8_load_33 : decode cX8_load 33 = .ok (.iconst 0, 1) := by decide +kernel
theorem dX8_load_34 : decode cX8_load 34 = .ok (.istore_n 2, 1) := by decide +kernel
theorem dX8_load_35 : decode cX8_load 35 = .ok (.bipush (-9), 2) := by decide +kernel
theorem dX8_load_37 : decode cX8_load 37 = .ok (.istore_n 3, 1) := by decide +kernel
theorem dX8_load_38 : decode cX8_load 38 = .ok (.iconst 0, 1) := by decide +kernel
theorem dX8_load_39 : decode cX8_load 39 = .ok (.istore 4, 2) := by decide +kernel
theorem dX8_load_41 : decode cX8_load 41 = .ok (.iload 4, 2) := by decide +kernel
theorem dX8_load_43 : decode cX8_load 43 = .ok (.aload_n 0, 1) := by decide +kernel
theorem dX8_load_44 : decode cX8_load 44 = .ok (.getfield 149, 3) := by decide +kernel
theorem dX8_load_47 : decode cX8_load 47 = .ok (.if_icmp .ge 161, 3) := by decide +kernel
theorem dX8_load_50 : decode cX8_load 50 = .ok (.iload_n 3, 1) := by decide +kernel
theorem dX8_load_51 : decode cX8_load 51 = .ok (.bipush (-9), 2) := by decide +kernel
theorem dX8_load_53 : decode cX8_load 53 = .ok (.if_icmp .ne 155, 3) := by decide +kernel
theorem dX8_load_56 : decode cX8_load 56 = .ok (.aload_n 0, 1) := by decide +kernel
theorem dX8_load_57 : decode cX8_load 57 = .ok (.getfield 16, 3) := by decide +kernel
theorem dX8_load_60 : decode cX8_load 60 = .ok (.iload 4, 2) := by decide +kernel
theorem dX8_load_62 : decode cX8_load 62 = .ok (.baload, 1) := by decide +kernel
theorem dX8_load_63 : decode cX8_load 63 = .ok (.sipush 255, 3) := by decide +kernel
theorem dX8_load_66 : decode cX8_load 66 = .ok (.iand, 1) := by decide +kernel
theorem dX8_load_67 : decode cX8_load 67 = .ok (.istore 5, 2) := by decide +kernel
theorem dX8_load_69 : decode cX8_load 69 = .ok (.iload 5, 2) := by decide +kernel
theorem dX8_load_71 : decode cX8_load 71 = .ok (.bipush 32, 2) := by decide +kernel
theorem dX8_load_73 : decode cX8_load 73 = .ok (.if_icmp .eq 129, 3) := by decide +kernel
theorem dX8_load_76 : decode cX8_load 76 = .ok (.aload_n 0, 1) := by decide +kernel
theorem dX8_load_77 : decode cX8_load 77 = .ok (.iload_n 1, 1) := by decide +kernel
theorem dX8_load_78 : decode cX8_load 78 = .ok (.iload 5, 2) := by decide +kernel
theorem dX8_load_80 : decode cX8_load 80 = .ok (.iload_n 2, 1) := by decide +kernel
theorem dX8_load_81 : decode cX8_load 81 = .ok (.invokevirtual 160, 3) := by decide +kernel
theorem dX8_load_84 : decode cX8_load 84 = .ok (.ifCond .eq 8, 3) := by decide +kernel
theorem dX8_load_87 : decode cX8_load 87 = .ok (.bipush (-9), 2) := by decide +kernel
theorem dX8_load_89 : decode cX8_load 89 = .ok (.goto 5, 3) := by decide +kernel
theorem dX8_load_92 : decode cX8_load 92 = .ok (.iload 4, 2) := by decide +kernel
theorem dX8_load_94 : decode cX8_load 94 = .ok (.istore_n 3, 1) := by decide +kernel
theorem dX8_load_95 : decode cX8_load 95 = .ok (.iload_n 3, 1) := by decide +kernel
theorem dX8_load_96 : decode cX8_load 96 = .ok (.bipush (-9), 2) := by decide +kernel
theorem dX8_load_98 : decode cX8_load 98 = .ok (.if_icmp .ne 18, 3) := by decide +kernel
theorem dX8_load_101 : decode cX8_load 101 = .ok (.iload_n 1, 1) := by decide +kernel
theorem dX8_load_102 : decode cX8_load 102 = .ok (.ifCond .ne 14, 3) := by decide +kernel
theorem dX8_load_105 : decode cX8_load 105 = .ok (.aload_n 0, 1) := by decide +kernel
theorem dX8_load_106 : decode cX8_load 106 = .ok (.getfield 7, 3) := by decide +kernel
theorem dX8_load_109 : decode cX8_load 109 = .ok (.iconst 0, 1) := by decide +kernel
theorem dX8_load_110 : decode cX8_load 110 = .ok (.iload 5, 2) := by decide +kernel
theorem dX8_load_112 : decode cX8_load 112 = .ok (.bipush 48, 2) := by decide +kernel
theorem dX8_load_114 : decode cX8_load 114 = .ok (.isub, 1) := by decide +kernel
theorem dX8_load_115 : decode cX8_load 115 = .ok (.iastore, 1) := by decide +kernel
theorem dX8_load_116 : decode cX8_load 116 = .ok (.iload_n 3, 1) := by decide +kernel
theorem dX8_load_117 : decode cX8_load 117 = .ok (.bipush (-9), 2) := by decide +kernel
theorem dX8_load_119 : decode cX8_load 119 = .ok (.if_icmp .ne 55, 3) := by decide +kernel
theorem dX8_load_122 : decode cX8_load 122 = .ok (.iload_n 1, 1) := by decide +kernel
theorem dX8_load_123 : decode cX8_load 123 = .ok (.iconst 3, 1) := by decide +kernel
theorem dX8_load_124 : decode cX8_load 124 = .ok (.if_icmp .ne 50, 3) := by decide +kernel
theorem dX8_load_127 : decode cX8_load 127 = .ok (.iload 5, 2) := by decide +kernel
theorem dX8_load_129 : decode cX8_load 129 = .ok (.bipush 48, 2) := by decide +kernel
theorem dX8_load_131 : decode cX8_load 131 = .ok (.isub, 1) := by decide +kernel
theorem dX8_load_132 : decode cX8_load 132 = .ok (.istore 6, 2) := by decide +kernel
theorem dX8_load_134 : decode cX8_load 134 = .ok (.aload_n 0, 1) := by decide +kernel
theorem dX8_load_135 : decode cX8_load 135 = .ok (.iload_n 2, 1) := by decide +kernel
theorem dX8_load_136 : decode cX8_load 136 = .ok (.iload 6, 2) := by decide +kernel
theorem dX8_load_138 : decode cX8_load 138 = .ok (.aload_n 0, 1) := by decide +kernel
theorem dX8_load_139 : decode cX8_load 139 = .ok (.getfield 7, 3) := by decide +kernel
theorem dX8_load_142 : decode cX8_load 142 = .ok (.bipush 43, 2) := by decide +kernel
theorem dX8_load_144 : decode cX8_load 144 = .ok (.iload_n 2, 1) := by decide +kernel
theorem dX8_load_145 : decode cX8_load 145 = .ok (.iadd, 1) := by decide +kernel
theorem dX8_load_146 : decode cX8_load 146 = .ok (.iaload, 1) := by decide +kernel
theorem dX8_load_147 : decode cX8_load 147 = .ok (.aload_n 0, 1) := by decide +kernel
theorem dX8_load_148 : decode cX8_load 148 = .ok (.getfield 7, 3) := by decide +kernel
theorem dX8_load_151 : decode cX8_load 151 = .ok (.bipush 43, 2) := by decide +kernel
theorem dX8_load_153 : decode cX8_load 153 = .ok (.iload 6, 2) := by decide +kernel
theorem dX8_load_155 : decode cX8_load 155 = .ok (.iadd, 1) := by decide +kernel
theorem dX8_load_156 : decode cX8_load 156 = .ok (.iaload, 1) := by decide +kernel
theorem dX8_load_157 : decode cX8_load 157 = .ok (.invokevirtual 109, 3) := by decide +kernel
theorem dX8_load_160 : decode cX8_load 160 = .ok (.istore 7, 2) := by decide +kernel
theorem dX8_load_162 : decode cX8_load 162 = .ok (.iload 7, 2) := by decide +kernel
theorem dX8_load_164 : decode cX8_load 164 = .ok (.ifCond .ge 7, 3) := by decide +kernel
theorem dX8_load_167 : decode cX8_load 167 = .ok (.iload_n 2, 1) := by decide +kernel
theorem dX8_load_168 : decode cX8_load 168 = .ok (.goto 5, 3) := by decide +kernel
theorem dX8_load_171 : decode cX8_load 171 = .ok (.iload 6, 2) := by decide +kernel
theorem dX8_load_173 : decode cX8_load 173 = .ok (.istore_n 2, 1) := by decide +kernel
theorem dX8_load_174 : decode cX8_load 174 = .ok (.iload_n 1, 1) := by decide +kernel
theorem dX8_load_175 : decode cX8_load 175 = .ok (.iconst 2, 1) := by decide +kernel
theorem dX8_load_176 : decode cX8_load 176 = .ok (.if_icmp .ne 11, 3) := by decide +kernel
theorem dX8_load_179 : decode cX8_load 179 = .ok (.iload 5, 2) := by decide +kernel
theorem dX8_load_181 : decode cX8_load 181 = .ok (.bipush 48, 2) := by decide +kernel
theorem dX8_load_183 : decode cX8_load 183 = .ok (.isub, 1) := by decide +kernel
theorem dX8_load_184 : decode cX8_load 184 = .ok (.goto 4, 3) := by decide +kernel
theorem dX8_load_187 : decode cX8_load 187 = .ok (.iload_n 2, 1) := by decide +kernel
theorem dX8_load_188 : decode cX8_load 188 = .ok (.istore_n 2, 1) := by decide +kernel
theorem dX8_load_189 : decode cX8_load 189 = .ok (.iload_n 1, 1) := by decide +kernel
theorem dX8_load_190 : decode cX8_load 190 = .ok (.iconst 4, 1) := by decide +kernel
theorem dX8_load_191 : decode cX8_load 191 = .ok (.if_icmp .ne 7, 3) := by decide +kernel
theorem dX8_load_194 : decode cX8_load 194 = .ok (.iconst 2, 1) := by decide +kernel
theorem dX8_load_195 : decode cX8_load 195 = .ok (.goto 6, 3) := by decide +kernel
theorem dX8_load_198 : decode cX8_load 198 = .ok (.iload_n 1, 1) := by decide +kernel
theorem dX8_load_199 : decode cX8_load 199 = .ok (.iconst 1, 1) := by decide +kernel
theorem dX8_load_200 : decode cX8_load 200 = .ok (.iadd, 1) := by decide +kernel
theorem dX8_load_201 : decode cX8_load 201 = .ok (.istore_n 1, 1) := by decide +kernel
theorem dX8_load_202 : decode cX8_load 202 = .ok (.iinc 4 1, 3) := by decide +kernel
theorem dX8_load_205 : decode cX8_load 205 = .ok (.goto (-164), 3) := by decide +kernel
theorem dX8_load_208 : decode cX8_load 208 = .ok (.iload_n 3, 1) := by decide +kernel
theorem dX8_load_209 : decode cX8_load 209 = .ok (.bipush (-9), 2) := by decide +kernel
theorem dX8_load_211 : decode cX8_load 211 = .ok (.if_icmp .ne 15, 3) := by decide +kernel
theorem dX8_load_214 : decode cX8_load 214 = .ok (.iload_n 1, 1) := by decide +kernel
theorem dX8_load_215 : decode cX8_load 215 = .ok (.iconst 2, 1) := by decide +kernel
theorem dX8_load_216 : decode cX8_load 216 = .ok (.if_icmp .eq 10, 3) := by decide +kernel
theorem dX8_load_219 : decode cX8_load 219 = .ok (.aload_n 0, 1) := by decide +kernel
theorem dX8_load_220 : decode cX8_load 220 = .ok (.getfield 149, 3) := by decide +kernel
theorem dX8_load_223 : decode cX8_load 223 = .ok (.goto 4, 3) := by decide +kernel
theorem dX8_load_226 : decode cX8_load 226 = .ok (.iload_n 3, 1) := by decide +kernel
theorem dX8_load_227 : decode cX8_load 227 = .ok (.istore_n 3, 1) := by decide +kernel
theorem dX8_load_228 : decode cX8_load 228 = .ok (.aload_n 0, 1) := by decide +kernel
theorem dX8_load_229 : decode cX8_load 229 = .ok (.invokevirtual 163, 3) := by decide +kernel
theorem dX8_load_232 : decode cX8_load 232 = .ok (.iload_n 3, 1) := by decide +kernel
theorem dX8_load_233 : decode cX8_load 233 = .ok (.bipush (-9), 2) := by decide +kernel
theorem dX8_load_235 : decode cX8_load 235 = .ok (.if_icmp .eq 8, 3) := by decide +kernel
theorem dX8_load_238 : decode cX8_load 238 = .ok (.bipush (-10), 2) := by decide +kernel
theorem dX8_load_240 : decode cX8_load 240 = .ok (.iload_n 3, 1) := by decide +kernel
theorem dX8_load_241 : decode cX8_load 241 = .ok (.isub, 1) := by decide +kernel
theorem dX8_load_242 : decode cX8_load 242 = .ok (.ireturn, 1) := by decide +kernel
theorem dX8_load_243 : decode cX8_load 243 = .ok (.aload_n 0, 1) := by decide +kernel
theorem dX8_load_244 : decode cX8_load 244 = .ok (.invokevirtual 90, 3) := by decide +kernel
theorem dX8_load_247 : decode cX8_load 247 = .ok (.aload_n 0, 1) := by decide +kernel
theorem dX8_load_248 : decode cX8_load 248 = .ok (.invokevirtual 163, 3) := by decide +kernel
theorem dX8_load_251 : decode cX8_load 251 = .ok (.aload_n 0, 1) := by decide +kernel
theorem dX8_load_252 : decode cX8_load 252 = .ok (.iconst 0, 1) := by decide +kernel
theorem dX8_load_253 : decode cX8_load 253 = .ok (.putfield 149, 3) := by decide +kernel
theorem dX8_load_256 : decode cX8_load 256 = .ok (.aload_n 0, 1) := by decide +kernel
theorem dX8_load_257 : decode cX8_load 257 = .ok (.getfield 7, 3) := by decide +kernel
theorem dX8_load_260 : decode cX8_load 260 = .ok (.iconst 1, 1) := by decide +kernel
theorem dX8_load_261 : decode cX8_load 261 = .ok (.iaload, 1) := by decide +kernel
theorem dX8_load_262 : decode cX8_load 262 = .ok (.ireturn, 1) := by decide +kernel
theorem dX8_laysEnds_0 : decode cX8_laysEnds 0 = .ok (.iconst 0, 1) := by decide +kernel
theorem dX8_laysEnds_1 : decode cX8_laysEnds 1 = .ok (.istore_n 3, 1) := by decide +kernel
theorem dX8_laysEnds_2 : decode cX8_laysEnds 2 = .ok (.iload_n 3, 1) := by decide +kernel
theorem dX8_laysEnds_3 : decode cX8_laysEnds 3 = .ok (.aload_n 0, 1) := by decide +kernel
theorem dX8_laysEnds_4 : decode cX8_laysEnds 4 = .ok (.getfield 7, 3) := by decide +kernel
theorem dX8_laysEnds_7 : decode cX8_laysEnds 7 = .ok (.iconst 1, 1) := by decide +kernel
theorem dX8_laysEnds_8 : decode cX8_laysEnds 8 = .ok (.iaload, 1) := by decide +kernel
theorem dX8_laysEnds_9 : decode cX8_laysEnds 9 = .ok (.if_icmp .ge 38, 3) := by decide +kernel
theorem dX8_laysEnds_12 : decode cX8_laysEnds 12 = .ok (.aload_n 0, 1) := by decide +kernel
theorem dX8_laysEnds_13 : decode cX8_laysEnds 13 = .ok (.getfield 29, 3) := by decide +kernel
theorem dX8_laysEnds_16 : decode cX8_laysEnds 16 = .ok (.iload_n 3, 1) := by decide +kernel
theorem dX8_laysEnds_17 : decode cX8_laysEnds 17 = .ok (.aload_n 0, 1) := by decide +kernel
theorem dX8_laysEnds_18 : decode cX8_laysEnds 18 = .ok (.getfield 7, 3) := by decide +kernel
theorem dX8_laysEnds_21 : decode cX8_laysEnds 21 = .ok (.iconst 3, 1) := by decide +kernel
theorem dX8_laysEnds_22 : decode cX8_laysEnds 22 = .ok (.iload_n 3, 1) := by decide +kernel
theorem dX8_laysEnds_23 : decode cX8_laysEnds 23 = .ok (.iadd, 1) := by decide +kernel
theorem dX8_laysEnds_24 : decode cX8_laysEnds 24 = .ok (.iaload, 1) := by decide +kernel
theorem dX8_laysEnds_25 : decode cX8_laysEnds 25 = .ok (.iastore, 1) := by decide +kernel
theorem dX8_laysEnds_26 : decode cX8_laysEnds 26 = .ok (.aload_n 0, 1) := by decide +kernel
theorem dX8_laysEnds_27 : decode cX8_laysEnds 27 = .ok (.getfield 32, 3) := by decide +kernel
theorem dX8_laysEnds_30 : decode cX8_laysEnds 30 = .ok (.iload_n 3, 1) := by decide +kernel
theorem dX8_laysEnds_31 : decode cX8_laysEnds 31 = .ok (.aload_n 0, 1) := by decide +kernel
theorem dX8_laysEnds_32 : decode cX8_laysEnds 32 = .ok (.getfield 7, 3) := by decide +kernel
theorem dX8_laysEnds_35 : decode cX8_laysEnds 35 = .ok (.bipush 23, 2) := by decide +kernel
theorem dX8_laysEnds_37 : decode cX8_laysEnds 37 = .ok (.iload_n 3, 1) := by decide +kernel
theorem dX8_laysEnds_38 : decode cX8_laysEnds 38 = .ok (.iadd, 1) := by decide +kernel
theorem dX8_laysEnds_39 : decode cX8_laysEnds 39 = .ok (.iaload, 1) := by decide +kernel
theorem dX8_laysEnds_40 : decode cX8_laysEnds 40 = .ok (.iastore, 1) := by decide +kernel
theorem dX8_laysEnds_41 : decode cX8_laysEnds 41 = .ok (.iinc 3 1, 3) := by decide +kernel
theorem dX8_laysEnds_44 : decode cX8_laysEnds 44 = .ok (.goto (-42), 3) := by decide +kernel
theorem dX8_laysEnds_47 : decode cX8_laysEnds 47 = .ok (.aload_n 0, 1) := by decide +kernel
theorem dX8_laysEnds_48 : decode cX8_laysEnds 48 = .ok (.getfield 29, 3) := by decide +kernel
theorem dX8_laysEnds_51 : decode cX8_laysEnds 51 = .ok (.aload_n 0, 1) := by decide +kernel
theorem dX8_laysEnds_52 : decode cX8_laysEnds 52 = .ok (.getfield 7, 3) := by decide +kernel
theorem dX8_laysEnds_55 : decode cX8_laysEnds 55 = .ok (.iconst 1, 1) := by decide +kernel
theorem dX8_laysEnds_56 : decode cX8_laysEnds 56 = .ok (.iaload, 1) := by decide +kernel
theorem dX8_laysEnds_57 : decode cX8_laysEnds 57 = .ok (.iload_n 1, 1) := by decide +kernel
theorem dX8_laysEnds_58 : decode cX8_laysEnds 58 = .ok (.iastore, 1) := by decide +kernel
theorem dX8_laysEnds_59 : decode cX8_laysEnds 59 = .ok (.aload_n 0, 1) := by decide +kernel
theorem dX8_laysEnds_60 : decode cX8_laysEnds 60 = .ok (.getfield 32, 3) := by decide +kernel
theorem dX8_laysEnds_63 : decode cX8_laysEnds 63 = .ok (.aload_n 0, 1) := by decide +kernel
theorem dX8_laysEnds_64 : decode cX8_laysEnds 64 = .ok (.getfield 7, 3) := by decide +kernel
theorem dX8_laysEnds_67 : decode cX8_laysEnds 67 = .ok (.iconst 1, 1) := by decide +kernel
theorem dX8_laysEnds_68 : decode cX8_laysEnds 68 = .ok (.iaload, 1) := by decide +kernel
theorem dX8_laysEnds_69 : decode cX8_laysEnds 69 = .ok (.iload_n 2, 1) := by decide +kernel
theorem dX8_laysEnds_70 : decode cX8_laysEnds 70 = .ok (.iastore, 1) := by decide +kernel
theorem dX8_laysEnds_71 : decode cX8_laysEnds 71 = .ok (.return_, 1) := by decide +kernel
theorem dX8_has_0 : decode cX8_has 0 = .ok (.iload_n 0, 1) := by decide +kernel
theorem dX8_has_1 : decode cX8_has 1 = .ok (.iload_n 1, 1) := by decide +kernel
theorem dX8_has_2 : decode cX8_has 2 = .ok (.ishr, 1) := by decide +kernel
theorem dX8_has_3 : decode cX8_has 3 = .ok (.iconst 1, 1) := by decide +kernel
theorem dX8_has_4 : decode cX8_has 4 = .ok (.iand, 1) := by decide +kernel
theorem dX8_has_5 : decode cX8_has 5 = .ok (.iconst 1, 1) := by decide +kernel
theorem dX8_has_6 : decode cX8_has 6 = .ok (.if_icmp .ne 7, 3) := by decide +kernel
theorem dX8_has_9 : decode cX8_has 9 = .ok (.iconst 1, 1) := by decide +kernel
theorem dX8_has_10 : decode cX8_has 10 = .ok (.goto 4, 3) := by decide +kernel
theorem dX8_has_13 : decode cX8_has 13 = .ok (.iconst 0, 1) := by decide +kernel
theorem dX8_has_14 : decode cX8_has 14 = .ok (.ireturn, 1) := by decide +kernel
theorem dX8_reached_0 : decode cX8_reached 0 = .ok (.iload_n 1, 1) := by decide +kernel
theorem dX8_reached_1 : decode cX8_reached 1 = .ok (.istore 4, 2) := by decide +kernel
theorem dX8_reached_3 : decode cX8_reached 3 = .ok (.iconst 1, 1) := by decide +kernel
theorem dX8_reached_4 : decode cX8_reached 4 = .ok (.istore 5, 2) := by decide +kernel
theorem dX8_reached_6 : decode cX8_reached 6 = .ok (.iload 5, 2) := by decide +kernel
theorem dX8_reached_8 : decode cX8_reached 8 = .ok (.ifCond .eq 100, 3) := by decide +kernel
theorem dX8_reached_11 : decode cX8_reached 11 = .ok (.iload 4, 2) := by decide +kernel
theorem dX8_reached_13 : decode cX8_reached 13 = .ok (.istore 6, 2) := by decide +kernel
theorem dX8_reached_15 : decode cX8_reached 15 = .ok (.iconst 0, 1) := by decide +kernel
theorem dX8_reached_16 : decode cX8_reached 16 = .ok (.istore 7, 2) := by decide +kernel
theorem dX8_reached_18 : decode cX8_reached 18 = .ok (.iload 7, 2) := by decide +kernel
theorem dX8_reached_20 : decode cX8_reached 20 = .ok (.bipush 21, 2) := by decide +kernel
theorem dX8_reached_22 : decode cX8_reached 22 = .ok (.if_icmp .ge 69, 3) := by decide +kernel
theorem dX8_reached_25 : decode cX8_reached 25 = .ok (.iload_n 2, 1) := by decide +kernel
theorem dX8_reached_26 : decode cX8_reached 26 = .ok (.iload 7, 2) := by decide +kernel
theorem dX8_reached_28 : decode cX8_reached 28 = .ok (.invokestatic 166, 3) := by decide +kernel
theorem dX8_reached_31 : decode cX8_reached 31 = .ok (.ifCond .eq 25, 3) := by decide +kernel
theorem dX8_reached_34 : decode cX8_reached 34 = .ok (.iconst 1, 1) := by decide +kernel
theorem dX8_reached_35 : decode cX8_reached 35 = .ok (.aload_n 0, 1) := by decide +kernel
theorem dX8_reached_36 : decode cX8_reached 36 = .ok (.getfield 29, 3) := by decide +kernel
theorem dX8_reached_39 : decode cX8_reached 39 = .ok (.iload 7, 2) := by decide +kernel
theorem dX8_reached_41 : decode cX8_reached 41 = .ok (.iaload, 1) := by decide +kernel
theorem dX8_reached_42 : decode cX8_reached 42 = .ok (.ishl, 1) := by decide +kernel
theorem dX8_reached_43 : decode cX8_reached 43 = .ok (.iconst 1, 1) := by decide +kernel
theorem dX8_reached_44 : decode cX8_reached 44 = .ok (.aload_n 0, 1) := by decide +kernel
theorem dX8_reached_45 : decode cX8_reached 45 = .ok (.getfield 32, 3) := by decide +kernel
theorem dX8_reached_48 : decode cX8_reached 48 = .ok (.iload 7, 2) := by decide +kernel
theorem dX8_reached_50 : decode cX8_reached 50 = .ok (.iaload, 1) := by decide +kernel
theorem dX8_reached_51 : decode cX8_reached 51 = .ok (.ishl, 1) := by decide +kernel
theorem dX8_reached_52 : decode cX8_reached 52 = .ok (.ior, 1) := by decide +kernel
theorem dX8_reached_53 : decode cX8_reached 53 = .ok (.goto 4, 3) := by decide +kernel
theorem dX8_reached_56 : decode cX8_reached 56 = .ok (.iconst 0, 1) := by decide +kernel
theorem dX8_reached_57 : decode cX8_reached 57 = .ok (.istore 8, 2) := by decide +kernel
theorem dX8_reached_59 : decode cX8_reached 59 = .ok (.iload 4, 2) := by decide +kernel
theorem dX8_reached_61 : decode cX8_reached 61 = .ok (.iload 8, 2) := by decide +kernel
theorem dX8_reached_63 : decode cX8_reached 63 = .ok (.iload 4, 2) := by decide +kernel
theorem dX8_reached_65 : decode cX8_reached 65 = .ok (.iand, 1) := by decide +kernel
theorem dX8_reached_66 : decode cX8_reached 66 = .ok (.ifCond .eq 15, 3) := by decide +kernel
theorem dX8_reached_69 : decode cX8_reached 69 = .ok (.iload 8, 2) := by decide +kernel
theorem dX8_reached_71 : decode cX8_reached 71 = .ok (.iload_n 3, 1) := by decide +kernel
theorem dX8_reached_72 : decode cX8_reached 72 = .ok (.iand, 1) := by decide +kernel
theorem dX8_reached_73 : decode cX8_reached 73 = .ok (.ifCond .ne 8, 3) := by decide +kernel
theorem dX8_reached_76 : decode cX8_reached 76 = .ok (.iload 8, 2) := by decide +kernel
theorem dX8_reached_78 : decode cX8_reached 78 = .ok (.goto 4, 3) := by decide +kernel
theorem dX8_reached_81 : decode cX8_reached 81 = .ok (.iconst 0, 1) := by decide +kernel
theorem dX8_reached_82 : decode cX8_reached 82 = .ok (.ior, 1) := by decide +kernel
theorem dX8_reached_83 : decode cX8_reached 83 = .ok (.istore 4, 2) := by decide +kernel
theorem dX8_reached_85 : decode cX8_reached 85 = .ok (.iinc 7 1, 3) := by decide +kernel
theorem dX8_reached_88 : decode cX8_reached 88 = .ok (.goto (-70), 3) := by decide +kernel
theorem dX8_reached_91 : decode cX8_reached 91 = .ok (.iload 4, 2) := by decide +kernel
theorem dX8_reached_93 : decode cX8_reached 93 = .ok (.iload 6, 2) := by decide +kernel
theorem dX8_reached_95 : decode cX8_reached 95 = .ok (.if_icmp .eq 7, 3) := by decide +kernel
theorem dX8_reached_98 : decode cX8_reached 98 = .ok (.iconst 1, 1) := by decide +kernel
theorem dX8_reached_99 : decode cX8_reached 99 = .ok (.goto 4, 3) := by decide +kernel
theorem dX8_reached_102 : decode cX8_reached 102 = .ok (.iconst 0, 1) := by decide +kernel
theorem dX8_reached_103 : decode cX8_reached 103 = .ok (.istore 5, 2) := by decide +kernel
theorem dX8_reached_105 : decode cX8_reached 105 = .ok (.goto (-99), 3) := by decide +kernel
theorem dX8_reached_108 : decode cX8_reached 108 = .ok (.iload 4, 2) := by decide +kernel
theorem dX8_reached_110 : decode cX8_reached 110 = .ok (.ireturn, 1) := by decide +kernel
theorem dX8_block_0 : decode cX8_block 0 = .ok (.iconst 1, 1) := by decide +kernel
theorem dX8_block_1 : decode cX8_block 1 = .ok (.iload_n 2, 1) := by decide +kernel
theorem dX8_block_2 : decode cX8_block 2 = .ok (.ishl, 1) := by decide +kernel
theorem dX8_block_3 : decode cX8_block 3 = .ok (.istore_n 3, 1) := by decide +kernel
theorem dX8_block_4 : decode cX8_block 4 = .ok (.iconst 1, 1) := by decide +kernel
theorem dX8_block_5 : decode cX8_block 5 = .ok (.istore 4, 2) := by decide +kernel
theorem dX8_block_7 : decode cX8_block 7 = .ok (.iload 4, 2) := by decide +kernel
theorem dX8_block_9 : decode cX8_block 9 = .ok (.ifCond .eq 104, 3) := by decide +kernel
theorem dX8_block_12 : decode cX8_block 12 = .ok (.iload_n 3, 1) := by decide +kernel
theorem dX8_block_13 : decode cX8_block 13 = .ok (.istore 5, 2) := by decide +kernel
theorem dX8_block_15 : decode cX8_block 15 = .ok (.iconst 0, 1) := by decide +kernel
theorem dX8_block_16 : decode cX8_block 16 = .ok (.istore 6, 2) := by decide +kernel
theorem dX8_block_18 : decode cX8_block 18 = .ok (.iload 6, 2) := by decide +kernel
theorem dX8_block_20 : decode cX8_block 20 = .ok (.bipush 21, 2) := by decide +kernel
theorem dX8_block_22 : decode cX8_block 22 = .ok (.if_icmp .ge 75, 3) := by decide +kernel
theorem dX8_block_25 : decode cX8_block 25 = .ok (.iconst 0, 1) := by decide +kernel
theorem dX8_block_26 : decode cX8_block 26 = .ok (.istore 7, 2) := by decide +kernel
theorem dX8_block_28 : decode cX8_block 28 = .ok (.iload 7, 2) := by decide +kernel
theorem dX8_block_30 : decode cX8_block 30 = .ok (.bipush 21, 2) := by decide +kernel
theorem dX8_block_32 : decode cX8_block 32 = .ok (.if_icmp .ge 59, 3) := by decide +kernel
theorem dX8_block_35 : decode cX8_block 35 = .ok (.iload_n 3, 1) := by decide +kernel
theorem dX8_block_36 : decode cX8_block 36 = .ok (.iload 6, 2) := by decide +kernel
theorem dX8_block_38 : decode cX8_block 38 = .ok (.invokestatic 166, 3) := by decide +kernel
theorem dX8_block_41 : decode cX8_block 41 = .ok (.ifCond .eq 50, 3) := by decide +kernel
theorem dX8_block_44 : decode cX8_block 44 = .ok (.iload_n 3, 1) := by decide +kernel
theorem dX8_block_45 : decode cX8_block 45 = .ok (.iload_n 1, 1) := by decide +kernel
theorem dX8_block_46 : decode cX8_block 46 = .ok (.iload 7, 2) := by decide +kernel
theorem dX8_block_48 : decode cX8_block 48 = .ok (.invokestatic 166, 3) := by decide +kernel
theorem dX8_block_51 : decode cX8_block 51 = .ok (.ifCond .eq 31, 3) := by decide +kernel
theorem dX8_block_54 : decode cX8_block 54 = .ok (.iload_n 3, 1) := by decide +kernel
theorem dX8_block_55 : decode cX8_block 55 = .ok (.iload 7, 2) := by decide +kernel
theorem dX8_block_57 : decode cX8_block 57 = .ok (.invokestatic 166, 3) := by decide +kernel
theorem dX8_block_60 : decode cX8_block 60 = .ok (.ifCond .ne 22, 3) := by decide +kernel
theorem dX8_block_63 : decode cX8_block 63 = .ok (.aload_n 0, 1) := by decide +kernel
theorem dX8_block_64 : decode cX8_block 64 = .ok (.iload_n 1, 1) := by decide +kernel
theorem dX8_block_65 : decode cX8_block 65 = .ok (.iload 6, 2) := by decide +kernel
theorem dX8_block_67 : decode cX8_block 67 = .ok (.iload 7, 2) := by decide +kernel
theorem dX8_block_69 : decode cX8_block 69 = .ok (.invokevirtual 169, 3) := by decide +kernel
theorem dX8_block_72 : decode cX8_block 72 = .ok (.ifCond .eq 10, 3) := by decide +kernel
theorem dX8_block_75 : decode cX8_block 75 = .ok (.iconst 1, 1) := by decide +kernel
theorem dX8_block_76 : decode cX8_block 76 = .ok (.iload 7, 2) := by decide +kernel
theorem dX8_block_78 : decode cX8_block 78 = .ok (.ishl, 1) := by decide +kernel
theorem dX8_block_79 : decode cX8_block 79 = .ok (.goto 4, 3) := by decide +kernel
theorem dX8_block_82 : decode cX8_block 82 = .ok (.iconst 0, 1) := by decide +kernel
theorem dX8_block_83 : decode cX8_block 83 = .ok (.ior, 1) := by decide +kernel
theorem dX8_block_84 : decode cX8_block 84 = .ok (.istore_n 3, 1) := by decide +kernel
theorem dX8_block_85 : decode cX8_block 85 = .ok (.iinc 7 1, 3) := by decide +kernel
theorem dX8_block_88 : decode cX8_block 88 = .ok (.goto (-60), 3) := by decide +kernel
theorem dX8_block_91 : decode cX8_block 91 = .ok (.iinc 6 1, 3) := by decide +kernel
theorem dX8_block_94 : decode cX8_block 94 = .ok (.goto (-76), 3) := by decide +kernel
theorem dX8_block_97 : decode cX8_block 97 = .ok (.iload_n 3, 1) := by decide +kernel
theorem dX8_block_98 : decode cX8_block 98 = .ok (.iload 5, 2) := by decide +kernel
theorem dX8_block_100 : decode cX8_block 100 = .ok (.if_icmp .eq 7, 3) := by decide +kernel
theorem dX8_block_103 : decode cX8_block 103 = .ok (.iconst 1, 1) := by decide +kernel
theorem dX8_block_104 : decode cX8_block 104 = .ok (.goto 4, 3) := by decide +kernel
theorem dX8_block_107 : decode cX8_block 107 = .ok (.iconst 0, 1) := by decide +kernel
theorem dX8_block_108 : decode cX8_block 108 = .ok (.istore 4, 2) := by decide +kernel
theorem dX8_block_110 : decode cX8_block 110 = .ok (.goto (-103), 3) := by decide +kernel
theorem dX8_block_113 : decode cX8_block 113 = .ok (.iload_n 3, 1) := by decide +kernel
theorem dX8_block_114 : decode cX8_block 114 = .ok (.ireturn, 1) := by decide +kernel
theorem dX8_areInOne_0 : decode cX8_areInOne 0 = .ok (.iconst 1, 1) := by decide +kernel
theorem dX8_areInOne_1 : decode cX8_areInOne 1 = .ok (.aload_n 0, 1) := by decide +kernel
theorem dX8_areInOne_2 : decode cX8_areInOne 2 = .ok (.getfield 29, 3) := by decide +kernel
theorem dX8_areInOne_5 : decode cX8_areInOne 5 = .ok (.iload_n 2, 1) := by decide +kernel
theorem dX8_areInOne_6 : decode cX8_areInOne 6 = .ok (.iaload, 1) := by decide +kernel
theorem dX8_areInOne_7 : decode cX8_areInOne 7 = .ok (.ishl, 1) := by decide +kernel
theorem dX8_areInOne_8 : decode cX8_areInOne 8 = .ok (.iconst 1, 1) := by decide +kernel
theorem dX8_areInOne_9 : decode cX8_areInOne 9 = .ok (.aload_n 0, 1) := by decide +kernel
theorem dX8_areInOne_10 : decode cX8_areInOne 10 = .ok (.getfield 32, 3) := by decide +kernel
theorem dX8_areInOne_13 : decode cX8_areInOne 13 = .ok (.iload_n 2, 1) := by decide +kernel
theorem dX8_areInOne_14 : decode cX8_areInOne 14 = .ok (.iaload, 1) := by decide +kernel
theorem dX8_areInOne_15 : decode cX8_areInOne 15 = .ok (.ishl, 1) := by decide +kernel
theorem dX8_areInOne_16 : decode cX8_areInOne 16 = .ok (.ior, 1) := by decide +kernel
theorem dX8_areInOne_17 : decode cX8_areInOne 17 = .ok (.iconst 1, 1) := by decide +kernel
theorem dX8_areInOne_18 : decode cX8_areInOne 18 = .ok (.aload_n 0, 1) := by decide +kernel
theorem dX8_areInOne_19 : decode cX8_areInOne 19 = .ok (.getfield 29, 3) := by decide +kernel
theorem dX8_areInOne_22 : decode cX8_areInOne 22 = .ok (.iload_n 3, 1) := by decide +kernel
theorem dX8_areInOne_23 : decode cX8_areInOne 23 = .ok (.iaload, 1) := by decide +kernel
theorem dX8_areInOne_24 : decode cX8_areInOne 24 = .ok (.ishl, 1) := by decide +kernel
theorem dX8_areInOne_25 : decode cX8_areInOne 25 = .ok (.iconst 1, 1) := by decide +kernel
theorem dX8_areInOne_26 : decode cX8_areInOne 26 = .ok (.aload_n 0, 1) := by decide +kernel
theorem dX8_areInOne_27 : decode cX8_areInOne 27 = .ok (.getfield 32, 3) := by decide +kernel
theorem dX8_areInOne_30 : decode cX8_areInOne 30 = .ok (.iload_n 3, 1) := by decide +kernel
theorem dX8_areInOne_31 : decode cX8_areInOne 31 = .ok (.iaload, 1) := by decide +kernel
theorem dX8_areInOne_32 : decode cX8_areInOne 32 = .ok (.ishl, 1) := by decide +kernel
theorem dX8_areInOne_33 : decode cX8_areInOne 33 = .ok (.ior, 1) := by decide +kernel
theorem dX8_areInOne_34 : decode cX8_areInOne 34 = .ok (.iand, 1) := by decide +kernel
theorem dX8_areInOne_35 : decode cX8_areInOne 35 = .ok (.istore 4, 2) := by decide +kernel
theorem dX8_areInOne_37 : decode cX8_areInOne 37 = .ok (.iload 4, 2) := by decide +kernel
theorem dX8_areInOne_39 : decode cX8_areInOne 39 = .ok (.ifCond .ne 5, 3) := by decide +kernel
theorem dX8_areInOne_42 : decode cX8_areInOne 42 = .ok (.iconst 0, 1) := by decide +kernel
theorem dX8_areInOne_43 : decode cX8_areInOne 43 = .ok (.ireturn, 1) := by decide +kernel
theorem dX8_areInOne_44 : decode cX8_areInOne 44 = .ok (.iconst 1, 1) := by decide +kernel
theorem dX8_areInOne_45 : decode cX8_areInOne 45 = .ok (.aload_n 0, 1) := by decide +kernel
theorem dX8_areInOne_46 : decode cX8_areInOne 46 = .ok (.getfield 29, 3) := by decide +kernel
theorem dX8_areInOne_49 : decode cX8_areInOne 49 = .ok (.iload_n 2, 1) := by decide +kernel
theorem dX8_areInOne_50 : decode cX8_areInOne 50 = .ok (.iaload, 1) := by decide +kernel
theorem dX8_areInOne_51 : decode cX8_areInOne 51 = .ok (.ishl, 1) := by decide +kernel
theorem dX8_areInOne_52 : decode cX8_areInOne 52 = .ok (.iconst 1, 1) := by decide +kernel
theorem dX8_areInOne_53 : decode cX8_areInOne 53 = .ok (.aload_n 0, 1) := by decide +kernel
theorem dX8_areInOne_54 : decode cX8_areInOne 54 = .ok (.getfield 32, 3) := by decide +kernel
theorem dX8_areInOne_57 : decode cX8_areInOne 57 = .ok (.iload_n 2, 1) := by decide +kernel
theorem dX8_areInOne_58 : decode cX8_areInOne 58 = .ok (.iaload, 1) := by decide +kernel
theorem dX8_areInOne_59 : decode cX8_areInOne 59 = .ok (.ishl, 1) := by decide +kernel
theorem dX8_areInOne_60 : decode cX8_areInOne 60 = .ok (.ior, 1) := by decide +kernel
theorem dX8_areInOne_61 : decode cX8_areInOne 61 = .ok (.iload 4, 2) := by decide +kernel
theorem dX8_areInOne_63 : decode cX8_areInOne 63 = .ok (.iconst (-1), 1) := by decide +kernel
theorem dX8_areInOne_64 : decode cX8_areInOne 64 = .ok (.ixor, 1) := by decide +kernel
theorem dX8_areInOne_65 : decode cX8_areInOne 65 = .ok (.iand, 1) := by decide +kernel
theorem dX8_areInOne_66 : decode cX8_areInOne 66 = .ok (.istore 5, 2) := by decide +kernel
theorem dX8_areInOne_68 : decode cX8_areInOne 68 = .ok (.iconst 1, 1) := by decide +kernel
theorem dX8_areInOne_69 : decode cX8_areInOne 69 = .ok (.aload_n 0, 1) := by decide +kernel
theorem dX8_areInOne_70 : decode cX8_areInOne 70 = .ok (.getfield 29, 3) := by decide +kernel
theorem dX8_areInOne_73 : decode cX8_areInOne 73 = .ok (.iload_n 3, 1) := by decide +kernel
theorem dX8_areInOne_74 : decode cX8_areInOne 74 = .ok (.iaload, 1) := by decide +kernel
theorem dX8_areInOne_75 : decode cX8_areInOne 75 = .ok (.ishl, 1) := by decide +kernel
theorem dX8_areInOne_76 : decode cX8_areInOne 76 = .ok (.iconst 1, 1) := by decide +kernel
theorem dX8_areInOne_77 : decode cX8_areInOne 77 = .ok (.aload_n 0, 1) := by decide +kernel
theorem dX8_areInOne_78 : decode cX8_areInOne 78 = .ok (.getfield 32, 3) := by decide +kernel
theorem dX8_areInOne_81 : decode cX8_areInOne 81 = .ok (.iload_n 3, 1) := by decide +kernel
theorem dX8_areInOne_82 : decode cX8_areInOne 82 = .ok (.iaload, 1) := by decide +kernel
theorem dX8_areInOne_83 : decode cX8_areInOne 83 = .ok (.ishl, 1) := by decide +kernel
theorem dX8_areInOne_84 : decode cX8_areInOne 84 = .ok (.ior, 1) := by decide +kernel
theorem dX8_areInOne_85 : decode cX8_areInOne 85 = .ok (.iload 4, 2) := by decide +kernel
theorem dX8_areInOne_87 : decode cX8_areInOne 87 = .ok (.iconst (-1), 1) := by decide +kernel
theorem dX8_areInOne_88 : decode cX8_areInOne 88 = .ok (.ixor, 1) := by decide +kernel
theorem dX8_areInOne_89 : decode cX8_areInOne 89 = .ok (.iand, 1) := by decide +kernel
theorem dX8_areInOne_90 : decode cX8_areInOne 90 = .ok (.istore 6, 2) := by decide +kernel
theorem dX8_areInOne_92 : decode cX8_areInOne 92 = .ok (.aload_n 0, 1) := by decide +kernel
theorem dX8_areInOne_93 : decode cX8_areInOne 93 = .ok (.iload 5, 2) := by decide +kernel
theorem dX8_areInOne_95 : decode cX8_areInOne 95 = .ok (.iload_n 1, 1) := by decide +kernel
theorem dX8_areInOne_96 : decode cX8_areInOne 96 = .ok (.iload 4, 2) := by decide +kernel
theorem dX8_areInOne_98 : decode cX8_areInOne 98 = .ok (.invokevirtual 172, 3) := by decide +kernel
theorem dX8_areInOne_101 : decode cX8_areInOne 101 = .ok (.iload 6, 2) := by decide +kernel
theorem dX8_areInOne_103 : decode cX8_areInOne 103 = .ok (.iand, 1) := by decide +kernel
theorem dX8_areInOne_104 : decode cX8_areInOne 104 = .ok (.ifCond .eq 7, 3) := by decide +kernel
theorem dX8_areInOne_107 : decode cX8_areInOne 107 = .ok (.iconst 1, 1) := by decide +kernel
theorem dX8_areInOne_108 : decode cX8_areInOne 108 = .ok (.goto 4, 3) := by decide +kernel
theorem dX8_areInOne_111 : decode cX8_areInOne 111 = .ok (.iconst 0, 1) := by decide +kernel
theorem dX8_areInOne_112 : decode cX8_areInOne 112 = .ok (.ireturn, 1) := by decide +kernel

theorem dX8_finds_0 : decode cX8_finds 0 = .ok (.iconst 0, 1) := by decide +kernel
theorem dX8_finds_1 : decode cX8_finds 1 = .ok (.istore 5, 2) := by decide +kernel
theorem dX8_finds_3 : decode cX8_finds 3 = .ok (.iload 5, 2) := by decide +kernel
theorem dX8_finds_5 : decode cX8_finds 5 = .ok (.bipush 9, 2) := by decide +kernel
theorem dX8_finds_7 : decode cX8_finds 7 = .ok (.if_icmp .ge 18, 3) := by decide +kernel
theorem dX8_finds_10 : decode cX8_finds 10 = .ok (.aload_n 0, 1) := by decide +kernel
theorem dX8_finds_11 : decode cX8_finds 11 = .ok (.getfield 35, 3) := by decide +kernel
theorem dX8_finds_14 : decode cX8_finds 14 = .ok (.iload 5, 2) := by decide +kernel
theorem dX8_finds_16 : decode cX8_finds 16 = .ok (.bipush (-9), 2) := by decide +kernel
theorem dX8_finds_18 : decode cX8_finds 18 = .ok (.iastore, 1) := by decide +kernel
theorem dX8_finds_19 : decode cX8_finds 19 = .ok (.iinc 5 1, 3) := by decide +kernel
theorem dX8_finds_22 : decode cX8_finds 22 = .ok (.goto (-19), 3) := by decide +kernel
theorem dX8_finds_25 : decode cX8_finds 25 = .ok (.aload_n 0, 1) := by decide +kernel
theorem dX8_finds_26 : decode cX8_finds 26 = .ok (.getfield 35, 3) := by decide +kernel
theorem dX8_finds_29 : decode cX8_finds 29 = .ok (.iload_n 1, 1) := by decide +kernel
theorem dX8_finds_30 : decode cX8_finds 30 = .ok (.iload_n 1, 1) := by decide +kernel
theorem dX8_finds_31 : decode cX8_finds 31 = .ok (.iastore, 1) := by decide +kernel
theorem dX8_finds_32 : decode cX8_finds 32 = .ok (.aload_n 0, 1) := by decide +kernel
theorem dX8_finds_33 : decode cX8_finds 33 = .ok (.getfield 38, 3) := by decide +kernel
theorem dX8_finds_36 : decode cX8_finds 36 = .ok (.iconst 0, 1) := by decide +kernel
theorem dX8_finds_37 : decode cX8_finds 37 = .ok (.iload_n 1, 1) := by decide +kernel
theorem dX8_finds_38 : decode cX8_finds 38 = .ok (.iastore, 1) := by decide +kernel
theorem dX8_finds_39 : decode cX8_finds 39 = .ok (.iconst 1, 1) := by decide +kernel
theorem dX8_finds_40 : decode cX8_finds 40 = .ok (.istore 5, 2) := by decide +kernel
theorem dX8_finds_42 : decode cX8_finds 42 = .ok (.iconst 0, 1) := by decide +kernel
theorem dX8_finds_43 : decode cX8_finds 43 = .ok (.istore 6, 2) := by decide +kernel
theorem dX8_finds_45 : decode cX8_finds 45 = .ok (.iload 6, 2) := by decide +kernel
theorem dX8_finds_47 : decode cX8_finds 47 = .ok (.iload 5, 2) := by decide +kernel
theorem dX8_finds_49 : decode cX8_finds 49 = .ok (.if_icmp .ge 191, 3) := by decide +kernel
theorem dX8_finds_52 : decode cX8_finds 52 = .ok (.aload_n 0, 1) := by decide +kernel
theorem dX8_finds_53 : decode cX8_finds 53 = .ok (.getfield 38, 3) := by decide +kernel
theorem dX8_finds_56 : decode cX8_finds 56 = .ok (.iload 6, 2) := by decide +kernel
theorem dX8_finds_58 : decode cX8_finds 58 = .ok (.iaload, 1) := by decide +kernel
theorem dX8_finds_59 : decode cX8_finds 59 = .ok (.istore 7, 2) := by decide +kernel
theorem dX8_finds_61 : decode cX8_finds 61 = .ok (.iconst 0, 1) := by decide +kernel
theorem dX8_finds_62 : decode cX8_finds 62 = .ok (.istore 8, 2) := by decide +kernel
theorem dX8_finds_64 : decode cX8_finds 64 = .ok (.iload 8, 2) := by decide +kernel
theorem dX8_finds_66 : decode cX8_finds 66 = .ok (.bipush 21, 2) := by decide +kernel
theorem dX8_finds_68 : decode cX8_finds 68 = .ok (.if_icmp .ge 166, 3) := by decide +kernel
theorem dX8_finds_71 : decode cX8_finds 71 = .ok (.iload_n 2, 1) := by decide +kernel
theorem dX8_finds_72 : decode cX8_finds 72 = .ok (.iload 8, 2) := by decide +kernel
theorem dX8_finds_74 : decode cX8_finds 74 = .ok (.invokestatic 166, 3) := by decide +kernel
theorem dX8_finds_77 : decode cX8_finds 77 = .ok (.ifCond .eq 31, 3) := by decide +kernel
theorem dX8_finds_80 : decode cX8_finds 80 = .ok (.aload_n 0, 1) := by decide +kernel
theorem dX8_finds_81 : decode cX8_finds 81 = .ok (.getfield 29, 3) := by decide +kernel
theorem dX8_finds_84 : decode cX8_finds 84 = .ok (.iload 8, 2) := by decide +kernel
theorem dX8_finds_86 : decode cX8_finds 86 = .ok (.iaload, 1) := by decide +kernel
theorem dX8_finds_87 : decode cX8_finds 87 = .ok (.iload 7, 2) := by decide +kernel
theorem dX8_finds_89 : decode cX8_finds 89 = .ok (.if_icmp .eq 15, 3) := by decide +kernel
theorem dX8_finds_92 : decode cX8_finds 92 = .ok (.aload_n 0, 1) := by decide +kernel
theorem dX8_finds_93 : decode cX8_finds 93 = .ok (.getfield 32, 3) := by decide +kernel
theorem dX8_finds_96 : decode cX8_finds 96 = .ok (.iload 8, 2) := by decide +kernel
theorem dX8_finds_98 : decode cX8_finds 98 = .ok (.iaload, 1) := by decide +kernel
theorem dX8_finds_99 : decode cX8_finds 99 = .ok (.iload 7, 2) := by decide +kernel
theorem dX8_finds_101 : decode cX8_finds 101 = .ok (.if_icmp .ne 7, 3) := by decide +kernel
theorem dX8_finds_104 : decode cX8_finds 104 = .ok (.iconst 1, 1) := by decide +kernel
theorem dX8_finds_105 : decode cX8_finds 105 = .ok (.goto 4, 3) := by decide +kernel
theorem dX8_finds_108 : decode cX8_finds 108 = .ok (.iconst 0, 1) := by decide +kernel
theorem dX8_finds_109 : decode cX8_finds 109 = .ok (.istore 9, 2) := by decide +kernel
theorem dX8_finds_111 : decode cX8_finds 111 = .ok (.aload_n 0, 1) := by decide +kernel
theorem dX8_finds_112 : decode cX8_finds 112 = .ok (.getfield 29, 3) := by decide +kernel
theorem dX8_finds_115 : decode cX8_finds 115 = .ok (.iload 8, 2) := by decide +kernel
theorem dX8_finds_117 : decode cX8_finds 117 = .ok (.iaload, 1) := by decide +kernel
theorem dX8_finds_118 : decode cX8_finds 118 = .ok (.iload 7, 2) := by decide +kernel
theorem dX8_finds_120 : decode cX8_finds 120 = .ok (.if_icmp .ne 13, 3) := by decide +kernel
theorem dX8_finds_123 : decode cX8_finds 123 = .ok (.aload_n 0, 1) := by decide +kernel
theorem dX8_finds_124 : decode cX8_finds 124 = .ok (.getfield 32, 3) := by decide +kernel
theorem dX8_finds_127 : decode cX8_finds 127 = .ok (.iload 8, 2) := by decide +kernel
theorem dX8_finds_129 : decode cX8_finds 129 = .ok (.iaload, 1) := by decide +kernel
theorem dX8_finds_130 : decode cX8_finds 130 = .ok (.goto 10, 3) := by decide +kernel
theorem dX8_finds_133 : decode cX8_finds 133 = .ok (.aload_n 0, 1) := by decide +kernel
theorem dX8_finds_134 : decode cX8_finds 134 = .ok (.getfield 29, 3) := by decide +kernel
theorem dX8_finds_137 : decode cX8_finds 137 = .ok (.iload 8, 2) := by decide +kernel
theorem dX8_finds_139 : decode cX8_finds 139 = .ok (.iaload, 1) := by decide +kernel
theorem dX8_finds_140 : decode cX8_finds 140 = .ok (.istore 10, 2) := by decide +kernel
theorem dX8_finds_142 : decode cX8_finds 142 = .ok (.iload 9, 2) := by decide +kernel
theorem dX8_finds_144 : decode cX8_finds 144 = .ok (.ifCond .eq 37, 3) := by decide +kernel
theorem dX8_finds_147 : decode cX8_finds 147 = .ok (.aload_n 0, 1) := by decide +kernel
theorem dX8_finds_148 : decode cX8_finds 148 = .ok (.getfield 35, 3) := by decide +kernel
theorem dX8_finds_151 : decode cX8_finds 151 = .ok (.iload 10, 2) := by decide +kernel
theorem dX8_finds_153 : decode cX8_finds 153 = .ok (.iaload, 1) := by decide +kernel
theorem dX8_finds_154 : decode cX8_finds 154 = .ok (.bipush (-9), 2) := by decide +kernel
theorem dX8_finds_156 : decode cX8_finds 156 = .ok (.if_icmp .ne 25, 3) := by decide +kernel
theorem dX8_finds_159 : decode cX8_finds 159 = .ok (.iload 4, 2) := by decide +kernel
theorem dX8_finds_161 : decode cX8_finds 161 = .ok (.iload 10, 2) := by decide +kernel
theorem dX8_finds_163 : decode cX8_finds 163 = .ok (.invokestatic 166, 3) := by decide +kernel
theorem dX8_finds_166 : decode cX8_finds 166 = .ok (.ifCond .eq 15, 3) := by decide +kernel
theorem dX8_finds_169 : decode cX8_finds 169 = .ok (.aload_n 0, 1) := by decide +kernel
theorem dX8_finds_170 : decode cX8_finds 170 = .ok (.getfield 35, 3) := by decide +kernel
theorem dX8_finds_173 : decode cX8_finds 173 = .ok (.iload 10, 2) := by decide +kernel
theorem dX8_finds_175 : decode cX8_finds 175 = .ok (.iload 7, 2) := by decide +kernel
theorem dX8_finds_177 : decode cX8_finds 177 = .ok (.iastore, 1) := by decide +kernel
theorem dX8_finds_178 : decode cX8_finds 178 = .ok (.iload 10, 2) := by decide +kernel
theorem dX8_finds_180 : decode cX8_finds 180 = .ok (.ireturn, 1) := by decide +kernel
theorem dX8_finds_181 : decode cX8_finds 181 = .ok (.iload 9, 2) := by decide +kernel
theorem dX8_finds_183 : decode cX8_finds 183 = .ok (.ifCond .eq 45, 3) := by decide +kernel
theorem dX8_finds_186 : decode cX8_finds 186 = .ok (.aload_n 0, 1) := by decide +kernel
theorem dX8_finds_187 : decode cX8_finds 187 = .ok (.getfield 35, 3) := by decide +kernel
theorem dX8_finds_190 : decode cX8_finds 190 = .ok (.iload 10, 2) := by decide +kernel
theorem dX8_finds_192 : decode cX8_finds 192 = .ok (.iaload, 1) := by decide +kernel
theorem dX8_finds_193 : decode cX8_finds 193 = .ok (.bipush (-9), 2) := by decide +kernel
theorem dX8_finds_195 : decode cX8_finds 195 = .ok (.if_icmp .ne 33, 3) := by decide +kernel
theorem dX8_finds_198 : decode cX8_finds 198 = .ok (.iload_n 3, 1) := by decide +kernel
theorem dX8_finds_199 : decode cX8_finds 199 = .ok (.iload 10, 2) := by decide +kernel
theorem dX8_finds_201 : decode cX8_finds 201 = .ok (.invokestatic 166, 3) := by decide +kernel
theorem dX8_finds_204 : decode cX8_finds 204 = .ok (.ifCond .eq 24, 3) := by decide +kernel
theorem dX8_finds_207 : decode cX8_finds 207 = .ok (.aload_n 0, 1) := by decide +kernel
theorem dX8_finds_208 : decode cX8_finds 208 = .ok (.getfield 35, 3) := by decide +kernel
theorem dX8_finds_211 : decode cX8_finds 211 = .ok (.iload 10, 2) := by decide +kernel
theorem dX8_finds_213 : decode cX8_finds 213 = .ok (.iload 7, 2) := by decide +kernel
theorem dX8_finds_215 : decode cX8_finds 215 = .ok (.iastore, 1) := by decide +kernel
theorem dX8_finds_216 : decode cX8_finds 216 = .ok (.aload_n 0, 1) := by decide +kernel
theorem dX8_finds_217 : decode cX8_finds 217 = .ok (.getfield 38, 3) := by decide +kernel
theorem dX8_finds_220 : decode cX8_finds 220 = .ok (.iload 5, 2) := by decide +kernel
theorem dX8_finds_222 : decode cX8_finds 222 = .ok (.iload 10, 2) := by decide +kernel
theorem dX8_finds_224 : decode cX8_finds 224 = .ok (.iastore, 1) := by decide +kernel
theorem dX8_finds_225 : decode cX8_finds 225 = .ok (.iinc 5 1, 3) := by decide +kernel
theorem dX8_finds_228 : decode cX8_finds 228 = .ok (.iinc 8 1, 3) := by decide +kernel
theorem dX8_finds_231 : decode cX8_finds 231 = .ok (.goto (-167), 3) := by decide +kernel
theorem dX8_finds_234 : decode cX8_finds 234 = .ok (.iinc 6 1, 3) := by decide +kernel
theorem dX8_finds_237 : decode cX8_finds 237 = .ok (.goto (-192), 3) := by decide +kernel
theorem dX8_finds_240 : decode cX8_finds 240 = .ok (.bipush (-9), 2) := by decide +kernel
theorem dX8_finds_242 : decode cX8_finds 242 = .ok (.ireturn, 1) := by decide +kernel
theorem dX8_takesPath_0 : decode cX8_takesPath 0 = .ok (.aload_n 0, 1) := by decide +kernel
theorem dX8_takesPath_1 : decode cX8_takesPath 1 = .ok (.iconst 0, 1) := by decide +kernel
theorem dX8_takesPath_2 : decode cX8_takesPath 2 = .ok (.putfield 176, 3) := by decide +kernel
theorem dX8_takesPath_5 : decode cX8_takesPath 5 = .ok (.iload_n 1, 1) := by decide +kernel
theorem dX8_takesPath_6 : decode cX8_takesPath 6 = .ok (.istore_n 3, 1) := by decide +kernel
theorem dX8_takesPath_7 : decode cX8_takesPath 7 = .ok (.iload_n 3, 1) := by decide +kernel
theorem dX8_takesPath_8 : decode cX8_takesPath 8 = .ok (.iload_n 2, 1) := by decide +kernel
theorem dX8_takesPath_9 : decode cX8_takesPath 9 = .ok (.if_icmp .eq 33, 3) := by decide +kernel
theorem dX8_takesPath_12 : decode cX8_takesPath 12 = .ok (.aload_n 0, 1) := by decide +kernel
theorem dX8_takesPath_13 : decode cX8_takesPath 13 = .ok (.getfield 50, 3) := by decide +kernel
theorem dX8_takesPath_16 : decode cX8_takesPath 16 = .ok (.aload_n 0, 1) := by decide +kernel
theorem dX8_takesPath_17 : decode cX8_takesPath 17 = .ok (.getfield 176, 3) := by decide +kernel
theorem dX8_takesPath_20 : decode cX8_takesPath 20 = .ok (.iload_n 3, 1) := by decide +kernel
theorem dX8_takesPath_21 : decode cX8_takesPath 21 = .ok (.iastore, 1) := by decide +kernel
theorem dX8_takesPath_22 : decode cX8_takesPath 22 = .ok (.aload_n 0, 1) := by decide +kernel
theorem dX8_takesPath_23 : decode cX8_takesPath 23 = .ok (.dup, 1) := by decide +kernel
theorem dX8_takesPath_24 : decode cX8_takesPath 24 = .ok (.getfield 176, 3) := by decide +kernel
theorem dX8_takesPath_27 : decode cX8_takesPath 27 = .ok (.iconst 1, 1) := by decide +kernel
theorem dX8_takesPath_28 : decode cX8_takesPath 28 = .ok (.iadd, 1) := by decide +kernel
theorem dX8_takesPath_29 : decode cX8_takesPath 29 = .ok (.putfield 176, 3) := by decide +kernel
theorem dX8_takesPath_32 : decode cX8_takesPath 32 = .ok (.aload_n 0, 1) := by decide +kernel
theorem dX8_takesPath_33 : decode cX8_takesPath 33 = .ok (.getfield 35, 3) := by decide +kernel
theorem dX8_takesPath_36 : decode cX8_takesPath 36 = .ok (.iload_n 3, 1) := by decide +kernel
theorem dX8_takesPath_37 : decode cX8_takesPath 37 = .ok (.iaload, 1) := by decide +kernel
theorem dX8_takesPath_38 : decode cX8_takesPath 38 = .ok (.istore_n 3, 1) := by decide +kernel
theorem dX8_takesPath_39 : decode cX8_takesPath 39 = .ok (.goto (-32), 3) := by decide +kernel
theorem dX8_takesPath_42 : decode cX8_takesPath 42 = .ok (.aload_n 0, 1) := by decide +kernel
theorem dX8_takesPath_43 : decode cX8_takesPath 43 = .ok (.getfield 50, 3) := by decide +kernel
theorem dX8_takesPath_46 : decode cX8_takesPath 46 = .ok (.aload_n 0, 1) := by decide +kernel
theorem dX8_takesPath_47 : decode cX8_takesPath 47 = .ok (.getfield 176, 3) := by decide +kernel
theorem dX8_takesPath_50 : decode cX8_takesPath 50 = .ok (.iload_n 2, 1) := by decide +kernel
theorem dX8_takesPath_51 : decode cX8_takesPath 51 = .ok (.iastore, 1) := by decide +kernel
theorem dX8_takesPath_52 : decode cX8_takesPath 52 = .ok (.aload_n 0, 1) := by decide +kernel
theorem dX8_takesPath_53 : decode cX8_takesPath 53 = .ok (.dup, 1) := by decide +kernel
theorem dX8_takesPath_54 : decode cX8_takesPath 54 = .ok (.getfield 176, 3) := by decide +kernel
theorem dX8_takesPath_57 : decode cX8_takesPath 57 = .ok (.iconst 1, 1) := by decide +kernel
theorem dX8_takesPath_58 : decode cX8_takesPath 58 = .ok (.iadd, 1) := by decide +kernel
theorem dX8_takesPath_59 : decode cX8_takesPath 59 = .ok (.putfield 176, 3) := by decide +kernel
theorem dX8_takesPath_62 : decode cX8_takesPath 62 = .ok (.return_, 1) := by decide +kernel
theorem dX8_edgesOfPath_0 : decode cX8_edgesOfPath 0 = .ok (.iconst 0, 1) := by decide +kernel
theorem dX8_edgesOfPath_1 : decode cX8_edgesOfPath 1 = .ok (.istore_n 2, 1) := by decide +kernel
theorem dX8_edgesOfPath_2 : decode cX8_edgesOfPath 2 = .ok (.iconst 0, 1) := by decide +kernel
theorem dX8_edgesOfPath_3 : decode cX8_edgesOfPath 3 = .ok (.istore_n 3, 1) := by decide +kernel
theorem dX8_edgesOfPath_4 : decode cX8_edgesOfPath 4 = .ok (.iload_n 3, 1) := by decide +kernel
theorem dX8_edgesOfPath_5 : decode cX8_edgesOfPath 5 = .ok (.iconst 1, 1) := by decide +kernel
theorem dX8_edgesOfPath_6 : decode cX8_edgesOfPath 6 = .ok (.iadd, 1) := by decide +kernel
theorem dX8_edgesOfPath_7 : decode cX8_edgesOfPath 7 = .ok (.aload_n 0, 1) := by decide +kernel
theorem dX8_edgesOfPath_8 : decode cX8_edgesOfPath 8 = .ok (.getfield 176, 3) := by decide +kernel
theorem dX8_edgesOfPath_11 : decode cX8_edgesOfPath 11 = .ok (.if_icmp .ge 125, 3) := by decide +kernel
theorem dX8_edgesOfPath_14 : decode cX8_edgesOfPath 14 = .ok (.iconst 0, 1) := by decide +kernel
theorem dX8_edgesOfPath_15 : decode cX8_edgesOfPath 15 = .ok (.istore 4, 2) := by decide +kernel
theorem dX8_edgesOfPath_17 : decode cX8_edgesOfPath 17 = .ok (.iload 4, 2) := by decide +kernel
theorem dX8_edgesOfPath_19 : decode cX8_edgesOfPath 19 = .ok (.bipush 21, 2) := by decide +kernel
theorem dX8_edgesOfPath_21 : decode cX8_edgesOfPath 21 = .ok (.if_icmp .ge 109, 3) := by decide +kernel
theorem dX8_edgesOfPath_24 : decode cX8_edgesOfPath 24 = .ok (.aload_n 0, 1) := by decide +kernel
theorem dX8_edgesOfPath_25 : decode cX8_edgesOfPath 25 = .ok (.getfield 29, 3) := by decide +kernel
theorem dX8_edgesOfPath_28 : decode cX8_edgesOfPath 28 = .ok (.iload 4, 2) := by decide +kernel
theorem dX8_edgesOfPath_30 : decode cX8_edgesOfPath 30 = .ok (.iaload, 1) := by decide +kernel
theorem dX8_edgesOfPath_31 : decode cX8_edgesOfPath 31 = .ok (.aload_n 0, 1) := by decide +kernel
theorem dX8_edgesOfPath_32 : decode cX8_edgesOfPath 32 = .ok (.getfield 50, 3) := by decide +kernel
theorem dX8_edgesOfPath_35 : decode cX8_edgesOfPath 35 = .ok (.iload_n 3, 1) := by decide +kernel
theorem dX8_edgesOfPath_36 : decode cX8_edgesOfPath 36 = .ok (.iaload, 1) := by decide +kernel
theorem dX8_edgesOfPath_37 : decode cX8_edgesOfPath 37 = .ok (.if_icmp .ne 21, 3) := by decide +kernel
theorem dX8_edgesOfPath_40 : decode cX8_edgesOfPath 40 = .ok (.aload_n 0, 1) := by decide +kernel
theorem dX8_edgesOfPath_41 : decode cX8_edgesOfPath 41 = .ok (.getfield 32, 3) := by decide +kernel
theorem dX8_edgesOfPath_44 : decode cX8_edgesOfPath 44 = .ok (.iload 4, 2) := by decide +kernel
theorem dX8_edgesOfPath_46 : decode cX8_edgesOfPath 46 = .ok (.iaload, 1) := by decide +kernel
theorem dX8_edgesOfPath_47 : decode cX8_edgesOfPath 47 = .ok (.aload_n 0, 1) := by decide +kernel
theorem dX8_edgesOfPath_48 : decode cX8_edgesOfPath 48 = .ok (.getfield 50, 3) := by decide +kernel
theorem dX8_edgesOfPath_51 : decode cX8_edgesOfPath 51 = .ok (.iload_n 3, 1) := by decide +kernel
theorem dX8_edgesOfPath_52 : decode cX8_edgesOfPath 52 = .ok (.iconst 1, 1) := by decide +kernel
theorem dX8_edgesOfPath_53 : decode cX8_edgesOfPath 53 = .ok (.iadd, 1) := by decide +kernel
theorem dX8_edgesOfPath_54 : decode cX8_edgesOfPath 54 = .ok (.iaload, 1) := by decide +kernel
theorem dX8_edgesOfPath_55 : decode cX8_edgesOfPath 55 = .ok (.if_icmp .eq 37, 3) := by decide +kernel
theorem dX8_edgesOfPath_58 : decode cX8_edgesOfPath 58 = .ok (.aload_n 0, 1) := by decide +kernel
theorem dX8_edgesOfPath_59 : decode cX8_edgesOfPath 59 = .ok (.getfield 32, 3) := by decide +kernel
theorem dX8_edgesOfPath_62 : decode cX8_edgesOfPath 62 = .ok (.iload 4, 2) := by decide +kernel
theorem dX8_edgesOfPath_64 : decode cX8_edgesOfPath 64 = .ok (.iaload, 1) := by decide +kernel
theorem dX8_edgesOfPath_65 : decode cX8_edgesOfPath 65 = .ok (.aload_n 0, 1) := by decide +kernel
theorem dX8_edgesOfPath_66 : decode cX8_edgesOfPath 66 = .ok (.getfield 50, 3) := by decide +kernel
theorem dX8_edgesOfPath_69 : decode cX8_edgesOfPath 69 = .ok (.iload_n 3, 1) := by decide +kernel
theorem dX8_edgesOfPath_70 : decode cX8_edgesOfPath 70 = .ok (.iaload, 1) := by decide +kernel
theorem dX8_edgesOfPath_71 : decode cX8_edgesOfPath 71 = .ok (.if_icmp .ne 25, 3) := by decide +kernel
theorem dX8_edgesOfPath_74 : decode cX8_edgesOfPath 74 = .ok (.aload_n 0, 1) := by decide +kernel
theorem dX8_edgesOfPath_75 : decode cX8_edgesOfPath 75 = .ok (.getfield 29, 3) := by decide +kernel
theorem dX8_edgesOfPath_78 : decode cX8_edgesOfPath 78 = .ok (.iload 4, 2) := by decide +kernel
theorem dX8_edgesOfPath_80 : decode cX8_edgesOfPath 80 = .ok (.iaload, 1) := by decide +kernel
theorem dX8_edgesOfPath_81 : decode cX8_edgesOfPath 81 = .ok (.aload_n 0, 1) := by decide +kernel
theorem dX8_edgesOfPath_82 : decode cX8_edgesOfPath 82 = .ok (.getfield 50, 3) := by decide +kernel
theorem dX8_edgesOfPath_85 : decode cX8_edgesOfPath 85 = .ok (.iload_n 3, 1) := by decide +kernel
theorem dX8_edgesOfPath_86 : decode cX8_edgesOfPath 86 = .ok (.iconst 1, 1) := by decide +kernel
theorem dX8_edgesOfPath_87 : decode cX8_edgesOfPath 87 = .ok (.iadd, 1) := by decide +kernel
theorem dX8_edgesOfPath_88 : decode cX8_edgesOfPath 88 = .ok (.iaload, 1) := by decide +kernel
theorem dX8_edgesOfPath_89 : decode cX8_edgesOfPath 89 = .ok (.if_icmp .ne 7, 3) := by decide +kernel
theorem dX8_edgesOfPath_92 : decode cX8_edgesOfPath 92 = .ok (.iconst 1, 1) := by decide +kernel
theorem dX8_edgesOfPath_93 : decode cX8_edgesOfPath 93 = .ok (.goto 4, 3) := by decide +kernel
theorem dX8_edgesOfPath_96 : decode cX8_edgesOfPath 96 = .ok (.iconst 0, 1) := by decide +kernel
theorem dX8_edgesOfPath_97 : decode cX8_edgesOfPath 97 = .ok (.istore 5, 2) := by decide +kernel
theorem dX8_edgesOfPath_99 : decode cX8_edgesOfPath 99 = .ok (.iload_n 2, 1) := by decide +kernel
theorem dX8_edgesOfPath_100 : decode cX8_edgesOfPath 100 = .ok (.iload 5, 2) := by decide +kernel
theorem dX8_edgesOfPath_102 : decode cX8_edgesOfPath 102 = .ok (.ifCond .eq 19, 3) := by decide +kernel
theorem dX8_edgesOfPath_105 : decode cX8_edgesOfPath 105 = .ok (.iload_n 1, 1) := by decide +kernel
theorem dX8_edgesOfPath_106 : decode cX8_edgesOfPath 106 = .ok (.iload 4, 2) := by decide +kernel
theorem dX8_edgesOfPath_108 : decode cX8_edgesOfPath 108 = .ok (.invokestatic 166, 3) := by decide +kernel
theorem dX8_edgesOfPath_111 : decode cX8_edgesOfPath 111 = .ok (.ifCond .eq 10, 3) := by decide +kernel
theorem dX8_edgesOfPath_114 : decode cX8_edgesOfPath 114 = .ok (.iconst 1, 1) := by decide +kernel
theorem dX8_edgesOfPath_115 : decode cX8_edgesOfPath 115 = .ok (.iload 4, 2) := by decide +kernel
theorem dX8_edgesOfPath_117 : decode cX8_edgesOfPath 117 = .ok (.ishl, 1) := by decide +kernel
theorem dX8_edgesOfPath_118 : decode cX8_edgesOfPath 118 = .ok (.goto 4, 3) := by decide +kernel
theorem dX8_edgesOfPath_121 : decode cX8_edgesOfPath 121 = .ok (.iconst 0, 1) := by decide +kernel
theorem dX8_edgesOfPath_122 : decode cX8_edgesOfPath 122 = .ok (.ior, 1) := by decide +kernel
theorem dX8_edgesOfPath_123 : decode cX8_edgesOfPath 123 = .ok (.istore_n 2, 1) := by decide +kernel
theorem dX8_edgesOfPath_124 : decode cX8_edgesOfPath 124 = .ok (.iinc 4 1, 3) := by decide +kernel
theorem dX8_edgesOfPath_127 : decode cX8_edgesOfPath 127 = .ok (.goto (-110), 3) := by decide +kernel
theorem dX8_edgesOfPath_130 : decode cX8_edgesOfPath 130 = .ok (.iinc 3 1, 3) := by decide +kernel
theorem dX8_edgesOfPath_133 : decode cX8_edgesOfPath 133 = .ok (.goto (-129), 3) := by decide +kernel
theorem dX8_edgesOfPath_136 : decode cX8_edgesOfPath 136 = .ok (.iload_n 2, 1) := by decide +kernel
theorem dX8_edgesOfPath_137 : decode cX8_edgesOfPath 137 = .ok (.ireturn, 1) := by decide +kernel
theorem dX8_nodesOfPath_0 : decode cX8_nodesOfPath 0 = .ok (.iconst 0, 1) := by decide +kernel
theorem dX8_nodesOfPath_1 : decode cX8_nodesOfPath 1 = .ok (.istore_n 1, 1) := by decide +kernel
theorem dX8_nodesOfPath_2 : decode cX8_nodesOfPath 2 = .ok (.iconst 0, 1) := by decide +kernel
theorem dX8_nodesOfPath_3 : decode cX8_nodesOfPath 3 = .ok (.istore_n 2, 1) := by decide +kernel
theorem dX8_nodesOfPath_4 : decode cX8_nodesOfPath 4 = .ok (.iload_n 2, 1) := by decide +kernel
theorem dX8_nodesOfPath_5 : decode cX8_nodesOfPath 5 = .ok (.aload_n 0, 1) := by decide +kernel
theorem dX8_nodesOfPath_6 : decode cX8_nodesOfPath 6 = .ok (.getfield 176, 3) := by decide +kernel
theorem dX8_nodesOfPath_9 : decode cX8_nodesOfPath 9 = .ok (.if_icmp .ge 20, 3) := by decide +kernel
theorem dX8_nodesOfPath_12 : decode cX8_nodesOfPath 12 = .ok (.iload_n 1, 1) := by decide +kernel
theorem dX8_nodesOfPath_13 : decode cX8_nodesOfPath 13 = .ok (.iconst 1, 1) := by decide +kernel
theorem dX8_nodesOfPath_14 : decode cX8_nodesOfPath 14 = .ok (.aload_n 0, 1) := by decide +kernel
theorem dX8_nodesOfPath_15 : decode cX8_nodesOfPath 15 = .ok (.getfield 50, 3) := by decide +kernel
theorem dX8_nodesOfPath_18 : decode cX8_nodesOfPath 18 = .ok (.iload_n 2, 1) := by decide +kernel
theorem dX8_nodesOfPath_19 : decode cX8_nodesOfPath 19 = .ok (.iaload, 1) := by decide +kernel
theorem dX8_nodesOfPath_20 : decode cX8_nodesOfPath 20 = .ok (.ishl, 1) := by decide +kernel
theorem dX8_nodesOfPath_21 : decode cX8_nodesOfPath 21 = .ok (.ior, 1) := by decide +kernel
theorem dX8_nodesOfPath_22 : decode cX8_nodesOfPath 22 = .ok (.istore_n 1, 1) := by decide +kernel
theorem dX8_nodesOfPath_23 : decode cX8_nodesOfPath 23 = .ok (.iinc 2 1, 3) := by decide +kernel
theorem dX8_nodesOfPath_26 : decode cX8_nodesOfPath 26 = .ok (.goto (-22), 3) := by decide +kernel
theorem dX8_nodesOfPath_29 : decode cX8_nodesOfPath 29 = .ok (.iload_n 1, 1) := by decide +kernel
theorem dX8_nodesOfPath_30 : decode cX8_nodesOfPath 30 = .ok (.ireturn, 1) := by decide +kernel
theorem dX8_adds_0 : decode cX8_adds 0 = .ok (.aload_n 0, 1) := by decide +kernel
theorem dX8_adds_1 : decode cX8_adds 1 = .ok (.getfield 41, 3) := by decide +kernel
theorem dX8_adds_4 : decode cX8_adds 4 = .ok (.bipush 10, 2) := by decide +kernel
theorem dX8_adds_6 : decode cX8_adds 6 = .ok (.iload_n 1, 1) := by decide +kernel
theorem dX8_adds_7 : decode cX8_adds 7 = .ok (.imul, 1) := by decide +kernel
theorem dX8_adds_8 : decode cX8_adds 8 = .ok (.aload_n 0, 1) := by decide +kernel
theorem dX8_adds_9 : decode cX8_adds 9 = .ok (.getfield 44, 3) := by decide +kernel
theorem dX8_adds_12 : decode cX8_adds 12 = .ok (.iload_n 1, 1) := by decide +kernel
theorem dX8_adds_13 : decode cX8_adds 13 = .ok (.iaload, 1) := by decide +kernel
theorem dX8_adds_14 : decode cX8_adds 14 = .ok (.iadd, 1) := by decide +kernel
theorem dX8_adds_15 : decode cX8_adds 15 = .ok (.iload_n 2, 1) := by decide +kernel
theorem dX8_adds_16 : decode cX8_adds 16 = .ok (.iastore, 1) := by decide +kernel
theorem dX8_adds_17 : decode cX8_adds 17 = .ok (.aload_n 0, 1) := by decide +kernel
theorem dX8_adds_18 : decode cX8_adds 18 = .ok (.getfield 44, 3) := by decide +kernel
theorem dX8_adds_21 : decode cX8_adds 21 = .ok (.iload_n 1, 1) := by decide +kernel
theorem dX8_adds_22 : decode cX8_adds 22 = .ok (.dup2, 1) := by decide +kernel
theorem dX8_adds_23 : decode cX8_adds 23 = .ok (.iaload, 1) := by decide +kernel
theorem dX8_adds_24 : decode cX8_adds 24 = .ok (.iconst 1, 1) := by decide +kernel
theorem dX8_adds_25 : decode cX8_adds 25 = .ok (.iadd, 1) := by decide +kernel
theorem dX8_adds_26 : decode cX8_adds 26 = .ok (.iastore, 1) := by decide +kernel
theorem dX8_adds_27 : decode cX8_adds 27 = .ok (.aload_n 0, 1) := by decide +kernel
theorem dX8_adds_28 : decode cX8_adds 28 = .ok (.getfield 47, 3) := by decide +kernel
theorem dX8_adds_31 : decode cX8_adds 31 = .ok (.iload_n 1, 1) := by decide +kernel
theorem dX8_adds_32 : decode cX8_adds 32 = .ok (.dup2, 1) := by decide +kernel
theorem dX8_adds_33 : decode cX8_adds 33 = .ok (.iaload, 1) := by decide +kernel
theorem dX8_adds_34 : decode cX8_adds 34 = .ok (.iconst 1, 1) := by decide +kernel
theorem dX8_adds_35 : decode cX8_adds 35 = .ok (.iload_n 2, 1) := by decide +kernel
theorem dX8_adds_36 : decode cX8_adds 36 = .ok (.ishl, 1) := by decide +kernel
theorem dX8_adds_37 : decode cX8_adds 37 = .ok (.ior, 1) := by decide +kernel
theorem dX8_adds_38 : decode cX8_adds 38 = .ok (.iastore, 1) := by decide +kernel
theorem dX8_adds_39 : decode cX8_adds 39 = .ok (.return_, 1) := by decide +kernel
theorem dX8_begins_0 : decode cX8_begins 0 = .ok (.aload_n 0, 1) := by decide +kernel
theorem dX8_begins_1 : decode cX8_begins 1 = .ok (.getfield 44, 3) := by decide +kernel
theorem dX8_begins_4 : decode cX8_begins 4 = .ok (.iload_n 1, 1) := by decide +kernel
theorem dX8_begins_5 : decode cX8_begins 5 = .ok (.iconst 0, 1) := by decide +kernel
theorem dX8_begins_6 : decode cX8_begins 6 = .ok (.iastore, 1) := by decide +kernel
theorem dX8_begins_7 : decode cX8_begins 7 = .ok (.aload_n 0, 1) := by decide +kernel
theorem dX8_begins_8 : decode cX8_begins 8 = .ok (.getfield 47, 3) := by decide +kernel
theorem dX8_begins_11 : decode cX8_begins 11 = .ok (.iload_n 1, 1) := by decide +kernel
theorem dX8_begins_12 : decode cX8_begins 12 = .ok (.iconst 0, 1) := by decide +kernel
theorem dX8_begins_13 : decode cX8_begins 13 = .ok (.iastore, 1) := by decide +kernel
theorem dX8_begins_14 : decode cX8_begins 14 = .ok (.return_, 1) := by decide +kernel
theorem dX8_splits_0 : decode cX8_splits 0 = .ok (.aload_n 0, 1) := by decide +kernel
theorem dX8_splits_1 : decode cX8_splits 1 = .ok (.getfield 44, 3) := by decide +kernel
theorem dX8_splits_4 : decode cX8_splits 4 = .ok (.iload_n 1, 1) := by decide +kernel
theorem dX8_splits_5 : decode cX8_splits 5 = .ok (.iaload, 1) := by decide +kernel
theorem dX8_splits_6 : decode cX8_splits 6 = .ok (.istore_n 2, 1) := by decide +kernel
theorem dX8_splits_7 : decode cX8_splits 7 = .ok (.iconst 0, 1) := by decide +kernel
theorem dX8_splits_8 : decode cX8_splits 8 = .ok (.istore_n 3, 1) := by decide +kernel
theorem dX8_splits_9 : decode cX8_splits 9 = .ok (.iload_n 3, 1) := by decide +kernel
theorem dX8_splits_10 : decode cX8_splits 10 = .ok (.iload_n 2, 1) := by decide +kernel
theorem dX8_splits_11 : decode cX8_splits 11 = .ok (.if_icmp .ge 26, 3) := by decide +kernel
theorem dX8_splits_14 : decode cX8_splits 14 = .ok (.aload_n 0, 1) := by decide +kernel
theorem dX8_splits_15 : decode cX8_splits 15 = .ok (.getfield 53, 3) := by decide +kernel
theorem dX8_splits_18 : decode cX8_splits 18 = .ok (.iload_n 3, 1) := by decide +kernel
theorem dX8_splits_19 : decode cX8_splits 19 = .ok (.aload_n 0, 1) := by decide +kernel
theorem dX8_splits_20 : decode cX8_splits 20 = .ok (.getfield 41, 3) := by decide +kernel
theorem dX8_splits_23 : decode cX8_splits 23 = .ok (.bipush 10, 2) := by decide +kernel
theorem dX8_splits_25 : decode cX8_splits 25 = .ok (.iload_n 1, 1) := by decide +kernel
theorem dX8_splits_26 : decode cX8_splits 26 = .ok (.imul, 1) := by decide +kernel
theorem dX8_splits_27 : decode cX8_splits 27 = .ok (.iload_n 3, 1) := by decide +kernel
theorem dX8_splits_28 : decode cX8_splits 28 = .ok (.iadd, 1) := by decide +kernel
theorem dX8_splits_29 : decode cX8_splits 29 = .ok (.iaload, 1) := by decide +kernel
theorem dX8_splits_30 : decode cX8_splits 30 = .ok (.iastore, 1) := by decide +kernel
theorem dX8_splits_31 : decode cX8_splits 31 = .ok (.iinc 3 1, 3) := by decide +kernel
theorem dX8_splits_34 : decode cX8_splits 34 = .ok (.goto (-25), 3) := by decide +kernel
theorem dX8_splits_37 : decode cX8_splits 37 = .ok (.iconst 0, 1) := by decide +kernel
theorem dX8_splits_38 : decode cX8_splits 38 = .ok (.istore_n 3, 1) := by decide +kernel
theorem dX8_splits_39 : decode cX8_splits 39 = .ok (.aload_n 0, 1) := by decide +kernel
theorem dX8_splits_40 : decode cX8_splits 40 = .ok (.getfield 53, 3) := by decide +kernel
theorem dX8_splits_43 : decode cX8_splits 43 = .ok (.iload_n 3, 1) := by decide +kernel
theorem dX8_splits_44 : decode cX8_splits 44 = .ok (.iaload, 1) := by decide +kernel
theorem dX8_splits_45 : decode cX8_splits 45 = .ok (.aload_n 0, 1) := by decide +kernel
theorem dX8_splits_46 : decode cX8_splits 46 = .ok (.getfield 50, 3) := by decide +kernel
theorem dX8_splits_49 : decode cX8_splits 49 = .ok (.iconst 0, 1) := by decide +kernel
theorem dX8_splits_50 : decode cX8_splits 50 = .ok (.iaload, 1) := by decide +kernel
theorem dX8_splits_51 : decode cX8_splits 51 = .ok (.if_icmp .eq 9, 3) := by decide +kernel
theorem dX8_splits_54 : decode cX8_splits 54 = .ok (.iinc 3 1, 3) := by decide +kernel
theorem dX8_splits_57 : decode cX8_splits 57 = .ok (.goto (-18), 3) := by decide +kernel
theorem dX8_splits_60 : decode cX8_splits 60 = .ok (.aload_n 0, 1) := by decide +kernel
theorem dX8_splits_61 : decode cX8_splits 61 = .ok (.iload_n 1, 1) := by decide +kernel
theorem dX8_splits_62 : decode cX8_splits 62 = .ok (.invokevirtual 179, 3) := by decide +kernel
theorem dX8_splits_65 : decode cX8_splits 65 = .ok (.aload_n 0, 1) := by decide +kernel
theorem dX8_splits_66 : decode cX8_splits 66 = .ok (.aload_n 0, 1) := by decide +kernel
theorem dX8_splits_67 : decode cX8_splits 67 = .ok (.getfield 182, 3) := by decide +kernel
theorem dX8_splits_70 : decode cX8_splits 70 = .ok (.invokevirtual 179, 3) := by decide +kernel
theorem dX8_splits_73 : decode cX8_splits 73 = .ok (.iload_n 3, 1) := by decide +kernel
theorem dX8_splits_74 : decode cX8_splits 74 = .ok (.istore 4, 2) := by decide +kernel
theorem dX8_splits_76 : decode cX8_splits 76 = .ok (.aload_n 0, 1) := by decide +kernel
theorem dX8_splits_77 : decode cX8_splits 77 = .ok (.iload_n 1, 1) := by decide +kernel
theorem dX8_splits_78 : decode cX8_splits 78 = .ok (.aload_n 0, 1) := by decide +kernel
theorem dX8_splits_79 : decode cX8_splits 79 = .ok (.getfield 53, 3) := by decide +kernel
theorem dX8_splits_82 : decode cX8_splits 82 = .ok (.iload 4, 2) := by decide +kernel
theorem dX8_splits_84 : decode cX8_splits 84 = .ok (.iaload, 1) := by decide +kernel
theorem dX8_splits_85 : decode cX8_splits 85 = .ok (.invokevirtual 185, 3) := by decide +kernel
theorem dX8_splits_88 : decode cX8_splits 88 = .ok (.aload_n 0, 1) := by decide +kernel
theorem dX8_splits_89 : decode cX8_splits 89 = .ok (.getfield 53, 3) := by decide +kernel
theorem dX8_splits_92 : decode cX8_splits 92 = .ok (.iload 4, 2) := by decide +kernel
theorem dX8_splits_94 : decode cX8_splits 94 = .ok (.iaload, 1) := by decide +kernel
theorem dX8_splits_95 : decode cX8_splits 95 = .ok (.aload_n 0, 1) := by decide +kernel
theorem dX8_splits_96 : decode cX8_splits 96 = .ok (.getfield 50, 3) := by decide +kernel
theorem dX8_splits_99 : decode cX8_splits 99 = .ok (.aload_n 0, 1) := by decide +kernel
theorem dX8_splits_100 : decode cX8_splits 100 = .ok (.getfield 176, 3) := by decide +kernel
theorem dX8_splits_103 : decode cX8_splits 103 = .ok (.iconst 1, 1) := by decide +kernel
theorem dX8_splits_104 : decode cX8_splits 104 = .ok (.isub, 1) := by decide +kernel
theorem dX8_splits_105 : decode cX8_splits 105 = .ok (.iaload, 1) := by decide +kernel
theorem dX8_splits_106 : decode cX8_splits 106 = .ok (.if_icmp .eq 26, 3) := by decide +kernel
theorem dX8_splits_109 : decode cX8_splits 109 = .ok (.iload 4, 2) := by decide +kernel
theorem dX8_splits_111 : decode cX8_splits 111 = .ok (.iconst 1, 1) := by decide +kernel
theorem dX8_splits_112 : decode cX8_splits 112 = .ok (.iadd, 1) := by decide +kernel
theorem dX8_splits_113 : decode cX8_splits 113 = .ok (.iload_n 2, 1) := by decide +kernel
theorem dX8_splits_114 : decode cX8_splits 114 = .ok (.irem, 1) := by decide +kernel
theorem dX8_splits_115 : decode cX8_splits 115 = .ok (.istore 4, 2) := by decide +kernel
theorem dX8_splits_117 : decode cX8_splits 117 = .ok (.aload_n 0, 1) := by decide +kernel
theorem dX8_splits_118 : decode cX8_splits 118 = .ok (.iload_n 1, 1) := by decide +kernel
theorem dX8_splits_119 : decode cX8_splits 119 = .ok (.aload_n 0, 1) := by decide +kernel
theorem dX8_splits_120 : decode cX8_splits 120 = .ok (.getfield 53, 3) := by decide +kernel
theorem dX8_splits_123 : decode cX8_splits 123 = .ok (.iload 4, 2) := by decide +kernel
theorem dX8_splits_125 : decode cX8_splits 125 = .ok (.iaload, 1) := by decide +kernel
theorem dX8_splits_126 : decode cX8_splits 126 = .ok (.invokevirtual 185, 3) := by decide +kernel
theorem dX8_splits_129 : decode cX8_splits 129 = .ok (.goto (-41), 3) := by decide +kernel
theorem dX8_splits_132 : decode cX8_splits 132 = .ok (.aload_n 0, 1) := by decide +kernel
theorem dX8_splits_133 : decode cX8_splits 133 = .ok (.aload_n 0, 1) := by decide +kernel
theorem dX8_splits_134 : decode cX8_splits 134 = .ok (.getfield 182, 3) := by decide +kernel
theorem dX8_splits_137 : decode cX8_splits 137 = .ok (.aload_n 0, 1) := by decide +kernel
theorem dX8_splits_138 : decode cX8_splits 138 = .ok (.getfield 53, 3) := by decide +kernel
theorem dX8_splits_141 : decode cX8_splits 141 = .ok (.iload 4, 2) := by decide +kernel
theorem dX8_splits_143 : decode cX8_splits 143 = .ok (.iaload, 1) := by decide +kernel
theorem dX8_splits_144 : decode cX8_splits 144 = .ok (.invokevirtual 185, 3) := by decide +kernel
theorem dX8_splits_147 : decode cX8_splits 147 = .ok (.iload 4, 2) := by decide +kernel
theorem dX8_splits_149 : decode cX8_splits 149 = .ok (.iload_n 3, 1) := by decide +kernel
theorem dX8_splits_150 : decode cX8_splits 150 = .ok (.if_icmp .eq 29, 3) := by decide +kernel
theorem dX8_splits_153 : decode cX8_splits 153 = .ok (.iload 4, 2) := by decide +kernel
theorem dX8_splits_155 : decode cX8_splits 155 = .ok (.iconst 1, 1) := by decide +kernel
theorem dX8_splits_156 : decode cX8_splits 156 = .ok (.iadd, 1) := by decide +kernel
theorem dX8_splits_157 : decode cX8_splits 157 = .ok (.iload_n 2, 1) := by decide +kernel
theorem dX8_splits_158 : decode cX8_splits 158 = .ok (.irem, 1) := by decide +kernel
theorem dX8_splits_159 : decode cX8_splits 159 = .ok (.istore 4, 2) := by decide +kernel
theorem dX8_splits_161 : decode cX8_splits 161 = .ok (.aload_n 0, 1) := by decide +kernel
theorem dX8_splits_162 : decode cX8_splits 162 = .ok (.aload_n 0, 1) := by decide +kernel
theorem dX8_splits_163 : decode cX8_splits 163 = .ok (.getfield 182, 3) := by decide +kernel
theorem dX8_splits_166 : decode cX8_splits 166 = .ok (.aload_n 0, 1) := by decide +kernel
theorem dX8_splits_167 : decode cX8_splits 167 = .ok (.getfield 53, 3) := by decide +kernel
theorem dX8_splits_170 : decode cX8_splits 170 = .ok (.iload 4, 2) := by decide +kernel
theorem dX8_splits_172 : decode cX8_splits 172 = .ok (.iaload, 1) := by decide +kernel
theorem dX8_splits_173 : decode cX8_splits 173 = .ok (.invokevirtual 185, 3) := by decide +kernel
theorem dX8_splits_176 : decode cX8_splits 176 = .ok (.goto (-29), 3) := by decide +kernel
theorem dX8_splits_179 : decode cX8_splits 179 = .ok (.aload_n 0, 1) := by decide +kernel
theorem dX8_splits_180 : decode cX8_splits 180 = .ok (.getfield 176, 3) := by decide +kernel
theorem dX8_splits_183 : decode cX8_splits 183 = .ok (.iconst 2, 1) := by decide +kernel
theorem dX8_splits_184 : decode cX8_splits 184 = .ok (.isub, 1) := by decide +kernel
theorem dX8_splits_185 : decode cX8_splits 185 = .ok (.istore 5, 2) := by decide +kernel
theorem dX8_splits_187 : decode cX8_splits 187 = .ok (.iload 5, 2) := by decide +kernel
theorem dX8_splits_189 : decode cX8_splits 189 = .ok (.ifCond .le 21, 3) := by decide +kernel
theorem dX8_splits_192 : decode cX8_splits 192 = .ok (.aload_n 0, 1) := by decide +kernel
theorem dX8_splits_193 : decode cX8_splits 193 = .ok (.iload_n 1, 1) := by decide +kernel
theorem dX8_splits_194 : decode cX8_splits 194 = .ok (.aload_n 0, 1) := by decide +kernel
theorem dX8_splits_195 : decode cX8_splits 195 = .ok (.getfield 50, 3) := by decide +kernel
theorem dX8_splits_198 : decode cX8_splits 198 = .ok (.iload 5, 2) := by decide +kernel
theorem dX8_splits_200 : decode cX8_splits 200 = .ok (.iaload, 1) := by decide +kernel
theorem dX8_splits_201 : decode cX8_splits 201 = .ok (.invokevirtual 185, 3) := by decide +kernel
theorem dX8_splits_204 : decode cX8_splits 204 = .ok (.iinc 5 (-1), 3) := by decide +kernel
theorem dX8_splits_207 : decode cX8_splits 207 = .ok (.goto (-20), 3) := by decide +kernel
theorem dX8_splits_210 : decode cX8_splits 210 = .ok (.iconst 1, 1) := by decide +kernel
theorem dX8_splits_211 : decode cX8_splits 211 = .ok (.istore 5, 2) := by decide +kernel
theorem dX8_splits_213 : decode cX8_splits 213 = .ok (.iload 5, 2) := by decide +kernel
theorem dX8_splits_215 : decode cX8_splits 215 = .ok (.aload_n 0, 1) := by decide +kernel
theorem dX8_splits_216 : decode cX8_splits 216 = .ok (.getfield 176, 3) := by decide +kernel
theorem dX8_splits_219 : decode cX8_splits 219 = .ok (.iconst 1, 1) := by decide +kernel
theorem dX8_splits_220 : decode cX8_splits 220 = .ok (.isub, 1) := by decide +kernel
theorem dX8_splits_221 : decode cX8_splits 221 = .ok (.if_icmp .ge 24, 3) := by decide +kernel
theorem dX8_splits_224 : decode cX8_splits 224 = .ok (.aload_n 0, 1) := by decide +kernel
theorem dX8_splits_225 : decode cX8_splits 225 = .ok (.aload_n 0, 1) := by decide +kernel
theorem dX8_splits_226 : decode cX8_splits 226 = .ok (.getfield 182, 3) := by decide +kernel
theorem dX8_splits_229 : decode cX8_splits 229 = .ok (.aload_n 0, 1) := by decide +kernel
theorem dX8_splits_230 : decode cX8_splits 230 = .ok (.getfield 50, 3) := by decide +kernel
theorem dX8_splits_233 : decode cX8_splits 233 = .ok (.iload 5, 2) := by decide +kernel
theorem dX8_splits_235 : decode cX8_splits 235 = .ok (.iaload, 1) := by decide +kernel
theorem dX8_splits_236 : decode cX8_splits 236 = .ok (.invokevirtual 185, 3) := by decide +kernel
theorem dX8_splits_239 : decode cX8_splits 239 = .ok (.iinc 5 1, 3) := by decide +kernel
theorem dX8_splits_242 : decode cX8_splits 242 = .ok (.goto (-29), 3) := by decide +kernel
theorem dX8_splits_245 : decode cX8_splits 245 = .ok (.aload_n 0, 1) := by decide +kernel
theorem dX8_splits_246 : decode cX8_splits 246 = .ok (.dup, 1) := by decide +kernel
theorem dX8_splits_247 : decode cX8_splits 247 = .ok (.getfield 182, 3) := by decide +kernel
theorem dX8_splits_250 : decode cX8_splits 250 = .ok (.iconst 1, 1) := by decide +kernel
theorem dX8_splits_251 : decode cX8_splits 251 = .ok (.iadd, 1) := by decide +kernel
theorem dX8_splits_252 : decode cX8_splits 252 = .ok (.putfield 182, 3) := by decide +kernel
theorem dX8_splits_255 : decode cX8_splits 255 = .ok (.return_, 1) := by decide +kernel
theorem dX8_fitting_0 : decode cX8_fitting 0 = .ok (.iconst 0, 1) := by decide +kernel
theorem dX8_fitting_1 : decode cX8_fitting 1 = .ok (.istore_n 2, 1) := by decide +kernel
theorem dX8_fitting_2 : decode cX8_fitting 2 = .ok (.iconst 0, 1) := by decide +kernel
theorem dX8_fitting_3 : decode cX8_fitting 3 = .ok (.istore_n 3, 1) := by decide +kernel
theorem dX8_fitting_4 : decode cX8_fitting 4 = .ok (.iload_n 3, 1) := by decide +kernel
theorem dX8_fitting_5 : decode cX8_fitting 5 = .ok (.aload_n 0, 1) := by decide +kernel
theorem dX8_fitting_6 : decode cX8_fitting 6 = .ok (.getfield 182, 3) := by decide +kernel
theorem dX8_fitting_9 : decode cX8_fitting 9 = .ok (.if_icmp .ge 59, 3) := by decide +kernel
theorem dX8_fitting_12 : decode cX8_fitting 12 = .ok (.iload_n 1, 1) := by decide +kernel
theorem dX8_fitting_13 : decode cX8_fitting 13 = .ok (.aload_n 0, 1) := by decide +kernel
theorem dX8_fitting_14 : decode cX8_fitting 14 = .ok (.getfield 47, 3) := by decide +kernel
theorem dX8_fitting_17 : decode cX8_fitting 17 = .ok (.iload_n 3, 1) := by decide +kernel
theorem dX8_fitting_18 : decode cX8_fitting 18 = .ok (.iaload, 1) := by decide +kernel
theorem dX8_fitting_19 : decode cX8_fitting 19 = .ok (.iconst (-1), 1) := by decide +kernel
theorem dX8_fitting_20 : decode cX8_fitting 20 = .ok (.ixor, 1) := by decide +kernel
theorem dX8_fitting_21 : decode cX8_fitting 21 = .ok (.iand, 1) := by decide +kernel
theorem dX8_fitting_22 : decode cX8_fitting 22 = .ok (.ifCond .ne 7, 3) := by decide +kernel
theorem dX8_fitting_25 : decode cX8_fitting 25 = .ok (.iconst 1, 1) := by decide +kernel
theorem dX8_fitting_26 : decode cX8_fitting 26 = .ok (.goto 4, 3) := by decide +kernel
theorem dX8_fitting_29 : decode cX8_fitting 29 = .ok (.iconst 0, 1) := by decide +kernel
theorem dX8_fitting_30 : decode cX8_fitting 30 = .ok (.istore 4, 2) := by decide +kernel
theorem dX8_fitting_32 : decode cX8_fitting 32 = .ok (.iload_n 2, 1) := by decide +kernel
theorem dX8_fitting_33 : decode cX8_fitting 33 = .ok (.iload 4, 2) := by decide +kernel
theorem dX8_fitting_35 : decode cX8_fitting 35 = .ok (.ifCond .eq 7, 3) := by decide +kernel
theorem dX8_fitting_38 : decode cX8_fitting 38 = .ok (.iconst 1, 1) := by decide +kernel
theorem dX8_fitting_39 : decode cX8_fitting 39 = .ok (.goto 4, 3) := by decide +kernel
theorem dX8_fitting_42 : decode cX8_fitting 42 = .ok (.iconst 0, 1) := by decide +kernel
theorem dX8_fitting_43 : decode cX8_fitting 43 = .ok (.iadd, 1) := by decide +kernel
theorem dX8_fitting_44 : decode cX8_fitting 44 = .ok (.istore_n 2, 1) := by decide +kernel
theorem dX8_fitting_45 : decode cX8_fitting 45 = .ok (.aload_n 0, 1) := by decide +kernel
theorem dX8_fitting_46 : decode cX8_fitting 46 = .ok (.iload 4, 2) := by decide +kernel
theorem dX8_fitting_48 : decode cX8_fitting 48 = .ok (.ifCond .eq 7, 3) := by decide +kernel
theorem dX8_fitting_51 : decode cX8_fitting 51 = .ok (.iload_n 3, 1) := by decide +kernel
theorem dX8_fitting_52 : decode cX8_fitting 52 = .ok (.goto 7, 3) := by decide +kernel
theorem dX8_fitting_55 : decode cX8_fitting 55 = .ok (.aload_n 0, 1) := by decide +kernel
theorem dX8_fitting_56 : decode cX8_fitting 56 = .ok (.getfield 189, 3) := by decide +kernel
theorem dX8_fitting_59 : decode cX8_fitting 59 = .ok (.putfield 189, 3) := by decide +kernel
theorem dX8_fitting_62 : decode cX8_fitting 62 = .ok (.iinc 3 1, 3) := by decide +kernel
theorem dX8_fitting_65 : decode cX8_fitting 65 = .ok (.goto (-61), 3) := by decide +kernel
theorem dX8_fitting_68 : decode cX8_fitting 68 = .ok (.iload_n 2, 1) := by decide +kernel
theorem dX8_fitting_69 : decode cX8_fitting 69 = .ok (.ireturn, 1) := by decide +kernel
theorem dX8_offers_0 : decode cX8_offers 0 = .ok (.aload_n 0, 1) := by decide +kernel
theorem dX8_offers_1 : decode cX8_offers 1 = .ok (.iload_n 1, 1) := by decide +kernel
theorem dX8_offers_2 : decode cX8_offers 2 = .ok (.invokevirtual 192, 3) := by decide +kernel
theorem dX8_offers_5 : decode cX8_offers 5 = .ok (.istore_n 3, 1) := by decide +kernel
theorem dX8_offers_6 : decode cX8_offers 6 = .ok (.iload_n 3, 1) := by decide +kernel
theorem dX8_offers_7 : decode cX8_offers 7 = .ok (.aload_n 0, 1) := by decide +kernel
theorem dX8_offers_8 : decode cX8_offers 8 = .ok (.getfield 195, 3) := by decide +kernel
theorem dX8_offers_11 : decode cX8_offers 11 = .ok (.if_icmp .ge 7, 3) := by decide +kernel
theorem dX8_offers_14 : decode cX8_offers 14 = .ok (.iconst 1, 1) := by decide +kernel
theorem dX8_offers_15 : decode cX8_offers 15 = .ok (.goto 4, 3) := by decide +kernel
theorem dX8_offers_18 : decode cX8_offers 18 = .ok (.iconst 0, 1) := by decide +kernel
theorem dX8_offers_19 : decode cX8_offers 19 = .ok (.istore 4, 2) := by decide +kernel
theorem dX8_offers_21 : decode cX8_offers 21 = .ok (.aload_n 0, 1) := by decide +kernel
theorem dX8_offers_22 : decode cX8_offers 22 = .ok (.iload 4, 2) := by decide +kernel
theorem dX8_offers_24 : decode cX8_offers 24 = .ok (.ifCond .eq 7, 3) := by decide +kernel
theorem dX8_offers_27 : decode cX8_offers 27 = .ok (.iload_n 3, 1) := by decide +kernel
theorem dX8_offers_28 : decode cX8_offers 28 = .ok (.goto 7, 3) := by decide +kernel
theorem dX8_offers_31 : decode cX8_offers 31 = .ok (.aload_n 0, 1) := by decide +kernel
theorem dX8_offers_32 : decode cX8_offers 32 = .ok (.getfield 195, 3) := by decide +kernel
theorem dX8_offers_35 : decode cX8_offers 35 = .ok (.putfield 195, 3) := by decide +kernel
theorem dX8_offers_38 : decode cX8_offers 38 = .ok (.aload_n 0, 1) := by decide +kernel
theorem dX8_offers_39 : decode cX8_offers 39 = .ok (.iload 4, 2) := by decide +kernel
theorem dX8_offers_41 : decode cX8_offers 41 = .ok (.ifCond .eq 7, 3) := by decide +kernel
theorem dX8_offers_44 : decode cX8_offers 44 = .ok (.iload_n 1, 1) := by decide +kernel
theorem dX8_offers_45 : decode cX8_offers 45 = .ok (.goto 7, 3) := by decide +kernel
theorem dX8_offers_48 : decode cX8_offers 48 = .ok (.aload_n 0, 1) := by decide +kernel
theorem dX8_offers_49 : decode cX8_offers 49 = .ok (.getfield 198, 3) := by decide +kernel
theorem dX8_offers_52 : decode cX8_offers 52 = .ok (.putfield 198, 3) := by decide +kernel
theorem dX8_offers_55 : decode cX8_offers 55 = .ok (.aload_n 0, 1) := by decide +kernel
theorem dX8_offers_56 : decode cX8_offers 56 = .ok (.iload 4, 2) := by decide +kernel
theorem dX8_offers_58 : decode cX8_offers 58 = .ok (.ifCond .eq 7, 3) := by decide +kernel
theorem dX8_offers_61 : decode cX8_offers 61 = .ok (.iload_n 2, 1) := by decide +kernel
theorem dX8_offers_62 : decode cX8_offers 62 = .ok (.goto 7, 3) := by decide +kernel
theorem dX8_offers_65 : decode cX8_offers 65 = .ok (.aload_n 0, 1) := by decide +kernel
theorem dX8_offers_66 : decode cX8_offers 66 = .ok (.getfield 201, 3) := by decide +kernel
theorem dX8_offers_69 : decode cX8_offers 69 = .ok (.putfield 201, 3) := by decide +kernel
theorem dX8_offers_72 : decode cX8_offers 72 = .ok (.return_, 1) := by decide +kernel
theorem dX8_nodesOfEdges_0 : decode cX8_nodesOfEdges 0 = .ok (.iconst 0, 1) := by decide +kernel
theorem dX8_nodesOfEdges_1 : decode cX8_nodesOfEdges 1 = .ok (.istore_n 2, 1) := by decide +kernel
theorem dX8_nodesOfEdges_2 : decode cX8_nodesOfEdges 2 = .ok (.iconst 0, 1) := by decide +kernel
theorem dX8_nodesOfEdges_3 : decode cX8_nodesOfEdges 3 = .ok (.istore_n 3, 1) := by decide +kernel
theorem dX8_nodesOfEdges_4 : decode cX8_nodesOfEdges 4 = .ok (.iload_n 3, 1) := by decide +kernel
theorem dX8_nodesOfEdges_5 : decode cX8_nodesOfEdges 5 = .ok (.bipush 21, 2) := by decide +kernel
theorem dX8_nodesOfEdges_7 : decode cX8_nodesOfEdges 7 = .ok (.if_icmp .ge 41, 3) := by decide +kernel
theorem dX8_nodesOfEdges_10 : decode cX8_nodesOfEdges 10 = .ok (.iload_n 2, 1) := by decide +kernel
theorem dX8_nodesOfEdges_11 : decode cX8_nodesOfEdges 11 = .ok (.iload_n 1, 1) := by decide +kernel
theorem dX8_nodesOfEdges_12 : decode cX8_nodesOfEdges 12 = .ok (.iload_n 3, 1) := by decide +kernel
theorem dX8_nodesOfEdges_13 : decode cX8_nodesOfEdges 13 = .ok (.invokestatic 166, 3) := by decide +kernel
theorem dX8_nodesOfEdges_16 : decode cX8_nodesOfEdges 16 = .ok (.ifCond .eq 23, 3) := by decide +kernel
theorem dX8_nodesOfEdges_19 : decode cX8_nodesOfEdges 19 = .ok (.iconst 1, 1) := by decide +kernel
theorem dX8_nodesOfEdges_20 : decode cX8_nodesOfEdges 20 = .ok (.aload_n 0, 1) := by decide +kernel
theorem dX8_nodesOfEdges_21 : decode cX8_nodesOfEdges 21 = .ok (.getfield 29, 3) := by decide +kernel
theorem dX8_nodesOfEdges_24 : decode cX8_nodesOfEdges 24 = .ok (.iload_n 3, 1) := by decide +kernel
theorem dX8_nodesOfEdges_25 : decode cX8_nodesOfEdges 25 = .ok (.iaload, 1) := by decide +kernel
theorem dX8_nodesOfEdges_26 : decode cX8_nodesOfEdges 26 = .ok (.ishl, 1) := by decide +kernel
theorem dX8_nodesOfEdges_27 : decode cX8_nodesOfEdges 27 = .ok (.iconst 1, 1) := by decide +kernel
theorem dX8_nodesOfEdges_28 : decode cX8_nodesOfEdges 28 = .ok (.aload_n 0, 1) := by decide +kernel
theorem dX8_nodesOfEdges_29 : decode cX8_nodesOfEdges 29 = .ok (.getfield 32, 3) := by decide +kernel
theorem dX8_nodesOfEdges_32 : decode cX8_nodesOfEdges 32 = .ok (.iload_n 3, 1) := by decide +kernel
theorem dX8_nodesOfEdges_33 : decode cX8_nodesOfEdges 33 = .ok (.iaload, 1) := by decide +kernel
theorem dX8_nodesOfEdges_34 : decode cX8_nodesOfEdges 34 = .ok (.ishl, 1) := by decide +kernel
theorem dX8_nodesOfEdges_35 : decode cX8_nodesOfEdges 35 = .ok (.ior, 1) := by decide +kernel
theorem dX8_nodesOfEdges_36 : decode cX8_nodesOfEdges 36 = .ok (.goto 4, 3) := by decide +kernel
theorem dX8_nodesOfEdges_39 : decode cX8_nodesOfEdges 39 = .ok (.iconst 0, 1) := by decide +kernel
theorem dX8_nodesOfEdges_40 : decode cX8_nodesOfEdges 40 = .ok (.ior, 1) := by decide +kernel
theorem dX8_nodesOfEdges_41 : decode cX8_nodesOfEdges 41 = .ok (.istore_n 2, 1) := by decide +kernel
theorem dX8_nodesOfEdges_42 : decode cX8_nodesOfEdges 42 = .ok (.iinc 3 1, 3) := by decide +kernel
theorem dX8_nodesOfEdges_45 : decode cX8_nodesOfEdges 45 = .ok (.goto (-41), 3) := by decide +kernel
theorem dX8_nodesOfEdges_48 : decode cX8_nodesOfEdges 48 = .ok (.iload_n 2, 1) := by decide +kernel
theorem dX8_nodesOfEdges_49 : decode cX8_nodesOfEdges 49 = .ok (.ireturn, 1) := by decide +kernel
theorem dX8_picks_0 : decode cX8_picks 0 = .ok (.aload_n 0, 1) := by decide +kernel
theorem dX8_picks_1 : decode cX8_picks 1 = .ok (.sipush 1000, 3) := by decide +kernel
theorem dX8_picks_4 : decode cX8_picks 4 = .ok (.putfield 195, 3) := by decide +kernel
theorem dX8_picks_7 : decode cX8_picks 7 = .ok (.iload_n 1, 1) := by decide +kernel
theorem dX8_picks_8 : decode cX8_picks 8 = .ok (.iload_n 2, 1) := by decide +kernel
theorem dX8_picks_9 : decode cX8_picks 9 = .ok (.iconst (-1), 1) := by decide +kernel
theorem dX8_picks_10 : decode cX8_picks 10 = .ok (.ixor, 1) := by decide +kernel
theorem dX8_picks_11 : decode cX8_picks 11 = .ok (.iand, 1) := by decide +kernel
theorem dX8_picks_12 : decode cX8_picks 12 = .ok (.istore 4, 2) := by decide +kernel
theorem dX8_picks_14 : decode cX8_picks 14 = .ok (.iconst 0, 1) := by decide +kernel
theorem dX8_picks_15 : decode cX8_picks 15 = .ok (.istore 5, 2) := by decide +kernel
theorem dX8_picks_17 : decode cX8_picks 17 = .ok (.iload 5, 2) := by decide +kernel
theorem dX8_picks_19 : decode cX8_picks 19 = .ok (.bipush 21, 2) := by decide +kernel
theorem dX8_picks_21 : decode cX8_picks 21 = .ok (.if_icmp .ge 65, 3) := by decide +kernel
theorem dX8_picks_24 : decode cX8_picks 24 = .ok (.iload 4, 2) := by decide +kernel
theorem dX8_picks_26 : decode cX8_picks 26 = .ok (.iload 5, 2) := by decide +kernel
theorem dX8_picks_28 : decode cX8_picks 28 = .ok (.invokestatic 166, 3) := by decide +kernel
theorem dX8_picks_31 : decode cX8_picks 31 = .ok (.ifCond .eq 25, 3) := by decide +kernel
theorem dX8_picks_34 : decode cX8_picks 34 = .ok (.iconst 1, 1) := by decide +kernel
theorem dX8_picks_35 : decode cX8_picks 35 = .ok (.aload_n 0, 1) := by decide +kernel
theorem dX8_picks_36 : decode cX8_picks 36 = .ok (.getfield 29, 3) := by decide +kernel
theorem dX8_picks_39 : decode cX8_picks 39 = .ok (.iload 5, 2) := by decide +kernel
theorem dX8_picks_41 : decode cX8_picks 41 = .ok (.iaload, 1) := by decide +kernel
theorem dX8_picks_42 : decode cX8_picks 42 = .ok (.ishl, 1) := by decide +kernel
theorem dX8_picks_43 : decode cX8_picks 43 = .ok (.iconst 1, 1) := by decide +kernel
theorem dX8_picks_44 : decode cX8_picks 44 = .ok (.aload_n 0, 1) := by decide +kernel
theorem dX8_picks_45 : decode cX8_picks 45 = .ok (.getfield 32, 3) := by decide +kernel
theorem dX8_picks_48 : decode cX8_picks 48 = .ok (.iload 5, 2) := by decide +kernel
theorem dX8_picks_50 : decode cX8_picks 50 = .ok (.iaload, 1) := by decide +kernel
theorem dX8_picks_51 : decode cX8_picks 51 = .ok (.ishl, 1) := by decide +kernel
theorem dX8_picks_52 : decode cX8_picks 52 = .ok (.ior, 1) := by decide +kernel
theorem dX8_picks_53 : decode cX8_picks 53 = .ok (.goto 4, 3) := by decide +kernel
theorem dX8_picks_56 : decode cX8_picks 56 = .ok (.iconst 0, 1) := by decide +kernel
theorem dX8_picks_57 : decode cX8_picks 57 = .ok (.istore 6, 2) := by decide +kernel
theorem dX8_picks_59 : decode cX8_picks 59 = .ok (.iload 6, 2) := by decide +kernel
theorem dX8_picks_61 : decode cX8_picks 61 = .ok (.ifCond .eq 19, 3) := by decide +kernel
theorem dX8_picks_64 : decode cX8_picks 64 = .ok (.iload 6, 2) := by decide +kernel
theorem dX8_picks_66 : decode cX8_picks 66 = .ok (.iload_n 3, 1) := by decide +kernel
theorem dX8_picks_67 : decode cX8_picks 67 = .ok (.iconst (-1), 1) := by decide +kernel
theorem dX8_picks_68 : decode cX8_picks 68 = .ok (.ixor, 1) := by decide +kernel
theorem dX8_picks_69 : decode cX8_picks 69 = .ok (.iand, 1) := by decide +kernel
theorem dX8_picks_70 : decode cX8_picks 70 = .ok (.ifCond .ne 10, 3) := by decide +kernel
theorem dX8_picks_73 : decode cX8_picks 73 = .ok (.aload_n 0, 1) := by decide +kernel
theorem dX8_picks_74 : decode cX8_picks 74 = .ok (.iload 6, 2) := by decide +kernel
theorem dX8_picks_76 : decode cX8_picks 76 = .ok (.iconst 0, 1) := by decide +kernel
theorem dX8_picks_77 : decode cX8_picks 77 = .ok (.invokevirtual 204, 3) := by decide +kernel
theorem dX8_picks_80 : decode cX8_picks 80 = .ok (.iinc 5 1, 3) := by decide +kernel
theorem dX8_picks_83 : decode cX8_picks 83 = .ok (.goto (-66), 3) := by decide +kernel
theorem dX8_picks_86 : decode cX8_picks 86 = .ok (.aload_n 0, 1) := by decide +kernel
theorem dX8_picks_87 : decode cX8_picks 87 = .ok (.iload_n 1, 1) := by decide +kernel
theorem dX8_picks_88 : decode cX8_picks 88 = .ok (.invokevirtual 207, 3) := by decide +kernel
theorem dX8_picks_91 : decode cX8_picks 91 = .ok (.iload_n 3, 1) := by decide +kernel
theorem dX8_picks_92 : decode cX8_picks 92 = .ok (.iconst (-1), 1) := by decide +kernel
theorem dX8_picks_93 : decode cX8_picks 93 = .ok (.ixor, 1) := by decide +kernel
theorem dX8_picks_94 : decode cX8_picks 94 = .ok (.iand, 1) := by decide +kernel
theorem dX8_picks_95 : decode cX8_picks 95 = .ok (.istore 5, 2) := by decide +kernel
theorem dX8_picks_97 : decode cX8_picks 97 = .ok (.iconst 0, 1) := by decide +kernel
theorem dX8_picks_98 : decode cX8_picks 98 = .ok (.istore 6, 2) := by decide +kernel
theorem dX8_picks_100 : decode cX8_picks 100 = .ok (.iload 6, 2) := by decide +kernel
theorem dX8_picks_102 : decode cX8_picks 102 = .ok (.bipush 9, 2) := by decide +kernel
theorem dX8_picks_104 : decode cX8_picks 104 = .ok (.if_icmp .ge 113, 3) := by decide +kernel
theorem dX8_picks_107 : decode cX8_picks 107 = .ok (.iload 5, 2) := by decide +kernel
theorem dX8_picks_109 : decode cX8_picks 109 = .ok (.iload 6, 2) := by decide +kernel
theorem dX8_picks_111 : decode cX8_picks 111 = .ok (.invokestatic 166, 3) := by decide +kernel
theorem dX8_picks_114 : decode cX8_picks 114 = .ok (.ifCond .eq 97, 3) := by decide +kernel
theorem dX8_picks_117 : decode cX8_picks 117 = .ok (.aload_n 0, 1) := by decide +kernel
theorem dX8_picks_118 : decode cX8_picks 118 = .ok (.iconst 1, 1) := by decide +kernel
theorem dX8_picks_119 : decode cX8_picks 119 = .ok (.iload 6, 2) := by decide +kernel
theorem dX8_picks_121 : decode cX8_picks 121 = .ok (.ishl, 1) := by decide +kernel
theorem dX8_picks_122 : decode cX8_picks 122 = .ok (.iload_n 1, 1) := by decide +kernel
theorem dX8_picks_123 : decode cX8_picks 123 = .ok (.iload_n 3, 1) := by decide +kernel
theorem dX8_picks_124 : decode cX8_picks 124 = .ok (.invokevirtual 172, 3) := by decide +kernel
theorem dX8_picks_127 : decode cX8_picks 127 = .ok (.istore 7, 2) := by decide +kernel
theorem dX8_picks_129 : decode cX8_picks 129 = .ok (.iconst 0, 1) := by decide +kernel
theorem dX8_picks_130 : decode cX8_picks 130 = .ok (.istore 8, 2) := by decide +kernel
theorem dX8_picks_132 : decode cX8_picks 132 = .ok (.iconst 0, 1) := by decide +kernel
theorem dX8_picks_133 : decode cX8_picks 133 = .ok (.istore 9, 2) := by decide +kernel
theorem dX8_picks_135 : decode cX8_picks 135 = .ok (.iload 9, 2) := by decide +kernel
theorem dX8_picks_137 : decode cX8_picks 137 = .ok (.bipush 21, 2) := by decide +kernel
theorem dX8_picks_139 : decode cX8_picks 139 = .ok (.if_icmp .ge 64, 3) := by decide +kernel
theorem dX8_picks_142 : decode cX8_picks 142 = .ok (.iload_n 1, 1) := by decide +kernel
theorem dX8_picks_143 : decode cX8_picks 143 = .ok (.iload 9, 2) := by decide +kernel
theorem dX8_picks_145 : decode cX8_picks 145 = .ok (.invokestatic 166, 3) := by decide +kernel
theorem dX8_picks_148 : decode cX8_picks 148 = .ok (.ifCond .eq 25, 3) := by decide +kernel
theorem dX8_picks_151 : decode cX8_picks 151 = .ok (.iconst 1, 1) := by decide +kernel
theorem dX8_picks_152 : decode cX8_picks 152 = .ok (.aload_n 0, 1) := by decide +kernel
theorem dX8_picks_153 : decode cX8_picks 153 = .ok (.getfield 29, 3) := by decide +kernel
theorem dX8_picks_156 : decode cX8_picks 156 = .ok (.iload 9, 2) := by decide +kernel
theorem dX8_picks_158 : decode cX8_picks 158 = .ok (.iaload, 1) := by decide +kernel
theorem dX8_picks_159 : decode cX8_picks 159 = .ok (.ishl, 1) := by decide +kernel
theorem dX8_picks_160 : decode cX8_picks 160 = .ok (.iconst 1, 1) := by decide +kernel
theorem dX8_picks_161 : decode cX8_picks 161 = .ok (.aload_n 0, 1) := by decide +kernel
theorem dX8_picks_162 : decode cX8_picks 162 = .ok (.getfield 32, 3) := by decide +kernel
theorem dX8_picks_165 : decode cX8_picks 165 = .ok (.iload 9, 2) := by decide +kernel
theorem dX8_picks_167 : decode cX8_picks 167 = .ok (.iaload, 1) := by decide +kernel
theorem dX8_picks_168 : decode cX8_picks 168 = .ok (.ishl, 1) := by decide +kernel
theorem dX8_picks_169 : decode cX8_picks 169 = .ok (.ior, 1) := by decide +kernel
theorem dX8_picks_170 : decode cX8_picks 170 = .ok (.goto 4, 3) := by decide +kernel
theorem dX8_picks_173 : decode cX8_picks 173 = .ok (.iconst 0, 1) := by decide +kernel
theorem dX8_picks_174 : decode cX8_picks 174 = .ok (.istore 10, 2) := by decide +kernel
theorem dX8_picks_176 : decode cX8_picks 176 = .ok (.iload 8, 2) := by decide +kernel
theorem dX8_picks_178 : decode cX8_picks 178 = .ok (.iload 10, 2) := by decide +kernel
theorem dX8_picks_180 : decode cX8_picks 180 = .ok (.iload 7, 2) := by decide +kernel
theorem dX8_picks_182 : decode cX8_picks 182 = .ok (.iand, 1) := by decide +kernel
theorem dX8_picks_183 : decode cX8_picks 183 = .ok (.ifCond .eq 10, 3) := by decide +kernel
theorem dX8_picks_186 : decode cX8_picks 186 = .ok (.iload 10, 2) := by decide +kernel
theorem dX8_picks_188 : decode cX8_picks 188 = .ok (.iload_n 3, 1) := by decide +kernel
theorem dX8_picks_189 : decode cX8_picks 189 = .ok (.iand, 1) := by decide +kernel
theorem dX8_picks_190 : decode cX8_picks 190 = .ok (.goto 4, 3) := by decide +kernel
theorem dX8_picks_193 : decode cX8_picks 193 = .ok (.iconst 0, 1) := by decide +kernel
theorem dX8_picks_194 : decode cX8_picks 194 = .ok (.ior, 1) := by decide +kernel
theorem dX8_picks_195 : decode cX8_picks 195 = .ok (.istore 8, 2) := by decide +kernel
theorem dX8_picks_197 : decode cX8_picks 197 = .ok (.iinc 9 1, 3) := by decide +kernel
theorem dX8_picks_200 : decode cX8_picks 200 = .ok (.goto (-65), 3) := by decide +kernel
theorem dX8_picks_203 : decode cX8_picks 203 = .ok (.aload_n 0, 1) := by decide +kernel
theorem dX8_picks_204 : decode cX8_picks 204 = .ok (.iload 8, 2) := by decide +kernel
theorem dX8_picks_206 : decode cX8_picks 206 = .ok (.iload 7, 2) := by decide +kernel
theorem dX8_picks_208 : decode cX8_picks 208 = .ok (.invokevirtual 204, 3) := by decide +kernel
theorem dX8_picks_211 : decode cX8_picks 211 = .ok (.iinc 6 1, 3) := by decide +kernel
theorem dX8_picks_214 : decode cX8_picks 214 = .ok (.goto (-114), 3) := by decide +kernel
theorem dX8_picks_217 : decode cX8_picks 217 = .ok (.return_, 1) := by decide +kernel
theorem dX8_ownEdges_0 : decode cX8_ownEdges 0 = .ok (.iconst 0, 1) := by decide +kernel
theorem dX8_ownEdges_1 : decode cX8_ownEdges 1 = .ok (.istore_n 2, 1) := by decide +kernel
theorem dX8_ownEdges_2 : decode cX8_ownEdges 2 = .ok (.iconst 0, 1) := by decide +kernel
theorem dX8_ownEdges_3 : decode cX8_ownEdges 3 = .ok (.istore_n 3, 1) := by decide +kernel
theorem dX8_ownEdges_4 : decode cX8_ownEdges 4 = .ok (.iload_n 3, 1) := by decide +kernel
theorem dX8_ownEdges_5 : decode cX8_ownEdges 5 = .ok (.bipush 21, 2) := by decide +kernel
theorem dX8_ownEdges_7 : decode cX8_ownEdges 7 = .ok (.if_icmp .ge 101, 3) := by decide +kernel
theorem dX8_ownEdges_10 : decode cX8_ownEdges 10 = .ok (.iload_n 1, 1) := by decide +kernel
theorem dX8_ownEdges_11 : decode cX8_ownEdges 11 = .ok (.iload_n 3, 1) := by decide +kernel
theorem dX8_ownEdges_12 : decode cX8_ownEdges 12 = .ok (.invokestatic 166, 3) := by decide +kernel
theorem dX8_ownEdges_15 : decode cX8_ownEdges 15 = .ok (.ifCond .eq 23, 3) := by decide +kernel
theorem dX8_ownEdges_18 : decode cX8_ownEdges 18 = .ok (.iconst 1, 1) := by decide +kernel
theorem dX8_ownEdges_19 : decode cX8_ownEdges 19 = .ok (.aload_n 0, 1) := by decide +kernel
theorem dX8_ownEdges_20 : decode cX8_ownEdges 20 = .ok (.getfield 29, 3) := by decide +kernel
theorem dX8_ownEdges_23 : decode cX8_ownEdges 23 = .ok (.iload_n 3, 1) := by decide +kernel
theorem dX8_ownEdges_24 : decode cX8_ownEdges 24 = .ok (.iaload, 1) := by decide +kernel
theorem dX8_ownEdges_25 : decode cX8_ownEdges 25 = .ok (.ishl, 1) := by decide +kernel
theorem dX8_ownEdges_26 : decode cX8_ownEdges 26 = .ok (.iconst 1, 1) := by decide +kernel
theorem dX8_ownEdges_27 : decode cX8_ownEdges 27 = .ok (.aload_n 0, 1) := by decide +kernel
theorem dX8_ownEdges_28 : decode cX8_ownEdges 28 = .ok (.getfield 32, 3) := by decide +kernel
theorem dX8_ownEdges_31 : decode cX8_ownEdges 31 = .ok (.iload_n 3, 1) := by decide +kernel
theorem dX8_ownEdges_32 : decode cX8_ownEdges 32 = .ok (.iaload, 1) := by decide +kernel
theorem dX8_ownEdges_33 : decode cX8_ownEdges 33 = .ok (.ishl, 1) := by decide +kernel
theorem dX8_ownEdges_34 : decode cX8_ownEdges 34 = .ok (.ior, 1) := by decide +kernel
theorem dX8_ownEdges_35 : decode cX8_ownEdges 35 = .ok (.goto 4, 3) := by decide +kernel
theorem dX8_ownEdges_38 : decode cX8_ownEdges 38 = .ok (.iconst 0, 1) := by decide +kernel
theorem dX8_ownEdges_39 : decode cX8_ownEdges 39 = .ok (.istore 4, 2) := by decide +kernel
theorem dX8_ownEdges_41 : decode cX8_ownEdges 41 = .ok (.aload_n 0, 1) := by decide +kernel
theorem dX8_ownEdges_42 : decode cX8_ownEdges 42 = .ok (.getfield 201, 3) := by decide +kernel
theorem dX8_ownEdges_45 : decode cX8_ownEdges 45 = .ok (.ifCond .ne 20, 3) := by decide +kernel
theorem dX8_ownEdges_48 : decode cX8_ownEdges 48 = .ok (.iload 4, 2) := by decide +kernel
theorem dX8_ownEdges_50 : decode cX8_ownEdges 50 = .ok (.aload_n 0, 1) := by decide +kernel
theorem dX8_ownEdges_51 : decode cX8_ownEdges 51 = .ok (.getfield 198, 3) := by decide +kernel
theorem dX8_ownEdges_54 : decode cX8_ownEdges 54 = .ok (.if_icmp .ne 7, 3) := by decide +kernel
theorem dX8_ownEdges_57 : decode cX8_ownEdges 57 = .ok (.iconst 1, 1) := by decide +kernel
theorem dX8_ownEdges_58 : decode cX8_ownEdges 58 = .ok (.goto 22, 3) := by decide +kernel
theorem dX8_ownEdges_61 : decode cX8_ownEdges 61 = .ok (.iconst 0, 1) := by decide +kernel
theorem dX8_ownEdges_62 : decode cX8_ownEdges 62 = .ok (.goto 18, 3) := by decide +kernel
theorem dX8_ownEdges_65 : decode cX8_ownEdges 65 = .ok (.iload 4, 2) := by decide +kernel
theorem dX8_ownEdges_67 : decode cX8_ownEdges 67 = .ok (.aload_n 0, 1) := by decide +kernel
theorem dX8_ownEdges_68 : decode cX8_ownEdges 68 = .ok (.getfield 201, 3) := by decide +kernel
theorem dX8_ownEdges_71 : decode cX8_ownEdges 71 = .ok (.iand, 1) := by decide +kernel
theorem dX8_ownEdges_72 : decode cX8_ownEdges 72 = .ok (.ifCond .eq 7, 3) := by decide +kernel
theorem dX8_ownEdges_75 : decode cX8_ownEdges 75 = .ok (.iconst 1, 1) := by decide +kernel
theorem dX8_ownEdges_76 : decode cX8_ownEdges 76 = .ok (.goto 4, 3) := by decide +kernel
theorem dX8_ownEdges_79 : decode cX8_ownEdges 79 = .ok (.iconst 0, 1) := by decide +kernel
theorem dX8_ownEdges_80 : decode cX8_ownEdges 80 = .ok (.istore 5, 2) := by decide +kernel
theorem dX8_ownEdges_82 : decode cX8_ownEdges 82 = .ok (.iload_n 2, 1) := by decide +kernel
theorem dX8_ownEdges_83 : decode cX8_ownEdges 83 = .ok (.iload 4, 2) := by decide +kernel
theorem dX8_ownEdges_85 : decode cX8_ownEdges 85 = .ok (.ifCond .eq 14, 3) := by decide +kernel
theorem dX8_ownEdges_88 : decode cX8_ownEdges 88 = .ok (.iload 5, 2) := by decide +kernel
theorem dX8_ownEdges_90 : decode cX8_ownEdges 90 = .ok (.ifCond .eq 9, 3) := by decide +kernel
theorem dX8_ownEdges_93 : decode cX8_ownEdges 93 = .ok (.iconst 1, 1) := by decide +kernel
theorem dX8_ownEdges_94 : decode cX8_ownEdges 94 = .ok (.iload_n 3, 1) := by decide +kernel
theorem dX8_ownEdges_95 : decode cX8_ownEdges 95 = .ok (.ishl, 1) := by decide +kernel
theorem dX8_ownEdges_96 : decode cX8_ownEdges 96 = .ok (.goto 4, 3) := by decide +kernel
theorem dX8_ownEdges_99 : decode cX8_ownEdges 99 = .ok (.iconst 0, 1) := by decide +kernel
theorem dX8_ownEdges_100 : decode cX8_ownEdges 100 = .ok (.ior, 1) := by decide +kernel
theorem dX8_ownEdges_101 : decode cX8_ownEdges 101 = .ok (.istore_n 2, 1) := by decide +kernel
theorem dX8_ownEdges_102 : decode cX8_ownEdges 102 = .ok (.iinc 3 1, 3) := by decide +kernel
theorem dX8_ownEdges_105 : decode cX8_ownEdges 105 = .ok (.goto (-101), 3) := by decide +kernel
theorem dX8_ownEdges_108 : decode cX8_ownEdges 108 = .ok (.iload_n 2, 1) := by decide +kernel
theorem dX8_ownEdges_109 : decode cX8_ownEdges 109 = .ok (.ireturn, 1) := by decide +kernel
theorem dX8_lowest_0 : decode cX8_lowest 0 = .ok (.iconst 0, 1) := by decide +kernel
theorem dX8_lowest_1 : decode cX8_lowest 1 = .ok (.istore_n 1, 1) := by decide +kernel
theorem dX8_lowest_2 : decode cX8_lowest 2 = .ok (.iload_n 0, 1) := by decide +kernel
theorem dX8_lowest_3 : decode cX8_lowest 3 = .ok (.iload_n 1, 1) := by decide +kernel
theorem dX8_lowest_4 : decode cX8_lowest 4 = .ok (.invokestatic 166, 3) := by decide +kernel
theorem dX8_lowest_7 : decode cX8_lowest 7 = .ok (.ifCond .ne 9, 3) := by decide +kernel
theorem dX8_lowest_10 : decode cX8_lowest 10 = .ok (.iinc 1 1, 3) := by decide +kernel
theorem dX8_lowest_13 : decode cX8_lowest 13 = .ok (.goto (-11), 3) := by decide +kernel
theorem dX8_lowest_16 : decode cX8_lowest 16 = .ok (.iload_n 1, 1) := by decide +kernel
theorem dX8_lowest_17 : decode cX8_lowest 17 = .ok (.ireturn, 1) := by decide +kernel
theorem dX8_canDraw_0 : decode cX8_canDraw 0 = .ok (.iload_n 1, 1) := by decide +kernel
theorem dX8_canDraw_1 : decode cX8_canDraw 1 = .ok (.invokestatic 210, 3) := by decide +kernel
theorem dX8_canDraw_4 : decode cX8_canDraw 4 = .ok (.istore_n 2, 1) := by decide +kernel
theorem dX8_canDraw_5 : decode cX8_canDraw 5 = .ok (.aload_n 0, 1) := by decide +kernel
theorem dX8_canDraw_6 : decode cX8_canDraw 6 = .ok (.aload_n 0, 1) := by decide +kernel
theorem dX8_canDraw_7 : decode cX8_canDraw 7 = .ok (.getfield 29, 3) := by decide +kernel
theorem dX8_canDraw_10 : decode cX8_canDraw 10 = .ok (.iload_n 2, 1) := by decide +kernel
theorem dX8_canDraw_11 : decode cX8_canDraw 11 = .ok (.iaload, 1) := by decide +kernel
theorem dX8_canDraw_12 : decode cX8_canDraw 12 = .ok (.iload_n 1, 1) := by decide +kernel
theorem dX8_canDraw_13 : decode cX8_canDraw 13 = .ok (.iconst 1, 1) := by decide +kernel
theorem dX8_canDraw_14 : decode cX8_canDraw 14 = .ok (.iload_n 2, 1) := by decide +kernel
theorem dX8_canDraw_15 : decode cX8_canDraw 15 = .ok (.ishl, 1) := by decide +kernel
theorem dX8_canDraw_16 : decode cX8_canDraw 16 = .ok (.iconst (-1), 1) := by decide +kernel
theorem dX8_canDraw_17 : decode cX8_canDraw 17 = .ok (.ixor, 1) := by decide +kernel
theorem dX8_canDraw_18 : decode cX8_canDraw 18 = .ok (.iand, 1) := by decide +kernel
theorem dX8_canDraw_19 : decode cX8_canDraw 19 = .ok (.sipush 511, 3) := by decide +kernel
theorem dX8_canDraw_22 : decode cX8_canDraw 22 = .ok (.iconst 1, 1) := by decide +kernel
theorem dX8_canDraw_23 : decode cX8_canDraw 23 = .ok (.aload_n 0, 1) := by decide +kernel
theorem dX8_canDraw_24 : decode cX8_canDraw 24 = .ok (.getfield 32, 3) := by decide +kernel
theorem dX8_canDraw_27 : decode cX8_canDraw 27 = .ok (.iload_n 2, 1) := by decide +kernel
theorem dX8_canDraw_28 : decode cX8_canDraw 28 = .ok (.iaload, 1) := by decide +kernel
theorem dX8_canDraw_29 : decode cX8_canDraw 29 = .ok (.ishl, 1) := by decide +kernel
theorem dX8_canDraw_30 : decode cX8_canDraw 30 = .ok (.invokevirtual 213, 3) := by decide +kernel
theorem dX8_canDraw_33 : decode cX8_canDraw 33 = .ok (.istore_n 3, 1) := by decide +kernel
theorem dX8_canDraw_34 : decode cX8_canDraw 34 = .ok (.iload_n 3, 1) := by decide +kernel
theorem dX8_canDraw_35 : decode cX8_canDraw 35 = .ok (.bipush (-9), 2) := by decide +kernel
theorem dX8_canDraw_37 : decode cX8_canDraw 37 = .ok (.if_icmp .ne 5, 3) := by decide +kernel
theorem dX8_canDraw_40 : decode cX8_canDraw 40 = .ok (.iconst 1, 1) := by decide +kernel
theorem dX8_canDraw_41 : decode cX8_canDraw 41 = .ok (.ireturn, 1) := by decide +kernel
theorem dX8_canDraw_42 : decode cX8_canDraw 42 = .ok (.aload_n 0, 1) := by decide +kernel
theorem dX8_canDraw_43 : decode cX8_canDraw 43 = .ok (.iload_n 3, 1) := by decide +kernel
theorem dX8_canDraw_44 : decode cX8_canDraw 44 = .ok (.aload_n 0, 1) := by decide +kernel
theorem dX8_canDraw_45 : decode cX8_canDraw 45 = .ok (.getfield 29, 3) := by decide +kernel
theorem dX8_canDraw_48 : decode cX8_canDraw 48 = .ok (.iload_n 2, 1) := by decide +kernel
theorem dX8_canDraw_49 : decode cX8_canDraw 49 = .ok (.iaload, 1) := by decide +kernel
theorem dX8_canDraw_50 : decode cX8_canDraw 50 = .ok (.invokevirtual 216, 3) := by decide +kernel
theorem dX8_canDraw_53 : decode cX8_canDraw 53 = .ok (.aload_n 0, 1) := by decide +kernel
theorem dX8_canDraw_54 : decode cX8_canDraw 54 = .ok (.iload_n 1, 1) := by decide +kernel
theorem dX8_canDraw_55 : decode cX8_canDraw 55 = .ok (.invokevirtual 219, 3) := by decide +kernel
theorem dX8_canDraw_58 : decode cX8_canDraw 58 = .ok (.iconst 1, 1) := by decide +kernel
theorem dX8_canDraw_59 : decode cX8_canDraw 59 = .ok (.iload_n 2, 1) := by decide +kernel
theorem dX8_canDraw_60 : decode cX8_canDraw 60 = .ok (.ishl, 1) := by decide +kernel
theorem dX8_canDraw_61 : decode cX8_canDraw 61 = .ok (.ior, 1) := by decide +kernel
theorem dX8_canDraw_62 : decode cX8_canDraw 62 = .ok (.istore 4, 2) := by decide +kernel
theorem dX8_canDraw_64 : decode cX8_canDraw 64 = .ok (.aload_n 0, 1) := by decide +kernel
theorem dX8_canDraw_65 : decode cX8_canDraw 65 = .ok (.invokevirtual 222, 3) := by decide +kernel
theorem dX8_canDraw_68 : decode cX8_canDraw 68 = .ok (.istore 5, 2) := by decide +kernel
theorem dX8_canDraw_70 : decode cX8_canDraw 70 = .ok (.aload_n 0, 1) := by decide +kernel
theorem dX8_canDraw_71 : decode cX8_canDraw 71 = .ok (.iconst 2, 1) := by decide +kernel
theorem dX8_canDraw_72 : decode cX8_canDraw 72 = .ok (.putfield 182, 3) := by decide +kernel
theorem dX8_canDraw_75 : decode cX8_canDraw 75 = .ok (.iconst 0, 1) := by decide +kernel
theorem dX8_canDraw_76 : decode cX8_canDraw 76 = .ok (.istore 6, 2) := by decide +kernel
theorem dX8_canDraw_78 : decode cX8_canDraw 78 = .ok (.iload 6, 2) := by decide +kernel
theorem dX8_canDraw_80 : decode cX8_canDraw 80 = .ok (.iconst 2, 1) := by decide +kernel
theorem dX8_canDraw_81 : decode cX8_canDraw 81 = .ok (.if_icmp .ge 46, 3) := by decide +kernel
theorem dX8_canDraw_84 : decode cX8_canDraw 84 = .ok (.aload_n 0, 1) := by decide +kernel
theorem dX8_canDraw_85 : decode cX8_canDraw 85 = .ok (.iload 6, 2) := by decide +kernel
theorem dX8_canDraw_87 : decode cX8_canDraw 87 = .ok (.invokevirtual 179, 3) := by decide +kernel
theorem dX8_canDraw_90 : decode cX8_canDraw 90 = .ok (.iconst 0, 1) := by decide +kernel
theorem dX8_canDraw_91 : decode cX8_canDraw 91 = .ok (.istore 7, 2) := by decide +kernel
theorem dX8_canDraw_93 : decode cX8_canDraw 93 = .ok (.iload 7, 2) := by decide +kernel
theorem dX8_canDraw_95 : decode cX8_canDraw 95 = .ok (.aload_n 0, 1) := by decide +kernel
theorem dX8_canDraw_96 : decode cX8_canDraw 96 = .ok (.getfield 176, 3) := by decide +kernel
theorem dX8_canDraw_99 : decode cX8_canDraw 99 = .ok (.if_icmp .ge 22, 3) := by decide +kernel
theorem dX8_canDraw_102 : decode cX8_canDraw 102 = .ok (.aload_n 0, 1) := by decide +kernel
theorem dX8_canDraw_103 : decode cX8_canDraw 103 = .ok (.iload 6, 2) := by decide +kernel
theorem dX8_canDraw_105 : decode cX8_canDraw 105 = .ok (.aload_n 0, 1) := by decide +kernel
theorem dX8_canDraw_106 : decode cX8_canDraw 106 = .ok (.getfield 50, 3) := by decide +kernel
theorem dX8_canDraw_109 : decode cX8_canDraw 109 = .ok (.iload 7, 2) := by decide +kernel
theorem dX8_canDraw_111 : decode cX8_canDraw 111 = .ok (.iaload, 1) := by decide +kernel
theorem dX8_canDraw_112 : decode cX8_canDraw 112 = .ok (.invokevirtual 185, 3) := by decide +kernel
theorem dX8_canDraw_115 : decode cX8_canDraw 115 = .ok (.iinc 7 1, 3) := by decide +kernel
theorem dX8_canDraw_118 : decode cX8_canDraw 118 = .ok (.goto (-25), 3) := by decide +kernel
theorem dX8_canDraw_121 : decode cX8_canDraw 121 = .ok (.iinc 6 1, 3) := by decide +kernel
theorem dX8_canDraw_124 : decode cX8_canDraw 124 = .ok (.goto (-46), 3) := by decide +kernel
theorem dX8_canDraw_127 : decode cX8_canDraw 127 = .ok (.iload 4, 2) := by decide +kernel
theorem dX8_canDraw_129 : decode cX8_canDraw 129 = .ok (.iload_n 1, 1) := by decide +kernel
theorem dX8_canDraw_130 : decode cX8_canDraw 130 = .ok (.if_icmp .eq 125, 3) := by decide +kernel
theorem dX8_canDraw_133 : decode cX8_canDraw 133 = .ok (.aload_n 0, 1) := by decide +kernel
theorem dX8_canDraw_134 : decode cX8_canDraw 134 = .ok (.iload_n 1, 1) := by decide +kernel
theorem dX8_canDraw_135 : decode cX8_canDraw 135 = .ok (.iload 4, 2) := by decide +kernel
theorem dX8_canDraw_137 : decode cX8_canDraw 137 = .ok (.iload 5, 2) := by decide +kernel
theorem dX8_canDraw_139 : decode cX8_canDraw 139 = .ok (.invokevirtual 225, 3) := by decide +kernel
theorem dX8_canDraw_142 : decode cX8_canDraw 142 = .ok (.aload_n 0, 1) := by decide +kernel
theorem dX8_canDraw_143 : decode cX8_canDraw 143 = .ok (.getfield 195, 3) := by decide +kernel
theorem dX8_canDraw_146 : decode cX8_canDraw 146 = .ok (.ifCond .ne 5, 3) := by decide +kernel
theorem dX8_canDraw_149 : decode cX8_canDraw 149 = .ok (.iconst 0, 1) := by decide +kernel
theorem dX8_canDraw_150 : decode cX8_canDraw 150 = .ok (.ireturn, 1) := by decide +kernel
theorem dX8_canDraw_151 : decode cX8_canDraw 151 = .ok (.aload_n 0, 1) := by decide +kernel
theorem dX8_canDraw_152 : decode cX8_canDraw 152 = .ok (.getfield 198, 3) := by decide +kernel
theorem dX8_canDraw_155 : decode cX8_canDraw 155 = .ok (.invokestatic 210, 3) := by decide +kernel
theorem dX8_canDraw_158 : decode cX8_canDraw 158 = .ok (.istore 6, 2) := by decide +kernel
theorem dX8_canDraw_160 : decode cX8_canDraw 160 = .ok (.aload_n 0, 1) := by decide +kernel
theorem dX8_canDraw_161 : decode cX8_canDraw 161 = .ok (.iload_n 1, 1) := by decide +kernel
theorem dX8_canDraw_162 : decode cX8_canDraw 162 = .ok (.iload 4, 2) := by decide +kernel
theorem dX8_canDraw_164 : decode cX8_canDraw 164 = .ok (.iconst (-1), 1) := by decide +kernel
theorem dX8_canDraw_165 : decode cX8_canDraw 165 = .ok (.ixor, 1) := by decide +kernel
theorem dX8_canDraw_166 : decode cX8_canDraw 166 = .ok (.iand, 1) := by decide +kernel
theorem dX8_canDraw_167 : decode cX8_canDraw 167 = .ok (.invokevirtual 228, 3) := by decide +kernel
theorem dX8_canDraw_170 : decode cX8_canDraw 170 = .ok (.istore 7, 2) := by decide +kernel
theorem dX8_canDraw_172 : decode cX8_canDraw 172 = .ok (.aload_n 0, 1) := by decide +kernel
theorem dX8_canDraw_173 : decode cX8_canDraw 173 = .ok (.iload 6, 2) := by decide +kernel
theorem dX8_canDraw_175 : decode cX8_canDraw 175 = .ok (.iload 7, 2) := by decide +kernel
theorem dX8_canDraw_177 : decode cX8_canDraw 177 = .ok (.aload_n 0, 1) := by decide +kernel
theorem dX8_canDraw_178 : decode cX8_canDraw 178 = .ok (.getfield 201, 3) := by decide +kernel
theorem dX8_canDraw_181 : decode cX8_canDraw 181 = .ok (.aload_n 0, 1) := by decide +kernel
theorem dX8_canDraw_182 : decode cX8_canDraw 182 = .ok (.getfield 198, 3) := by decide +kernel
theorem dX8_canDraw_185 : decode cX8_canDraw 185 = .ok (.iconst 1, 1) := by decide +kernel
theorem dX8_canDraw_186 : decode cX8_canDraw 186 = .ok (.iload 6, 2) := by decide +kernel
theorem dX8_canDraw_188 : decode cX8_canDraw 188 = .ok (.ishl, 1) := by decide +kernel
theorem dX8_canDraw_189 : decode cX8_canDraw 189 = .ok (.iconst (-1), 1) := by decide +kernel
theorem dX8_canDraw_190 : decode cX8_canDraw 190 = .ok (.ixor, 1) := by decide +kernel
theorem dX8_canDraw_191 : decode cX8_canDraw 191 = .ok (.iand, 1) := by decide +kernel
theorem dX8_canDraw_192 : decode cX8_canDraw 192 = .ok (.invokevirtual 213, 3) := by decide +kernel
theorem dX8_canDraw_195 : decode cX8_canDraw 195 = .ok (.istore 8, 2) := by decide +kernel
theorem dX8_canDraw_197 : decode cX8_canDraw 197 = .ok (.aload_n 0, 1) := by decide +kernel
theorem dX8_canDraw_198 : decode cX8_canDraw 198 = .ok (.iload 8, 2) := by decide +kernel
theorem dX8_canDraw_200 : decode cX8_canDraw 200 = .ok (.iload 6, 2) := by decide +kernel
theorem dX8_canDraw_202 : decode cX8_canDraw 202 = .ok (.invokevirtual 216, 3) := by decide +kernel
theorem dX8_canDraw_205 : decode cX8_canDraw 205 = .ok (.aload_n 0, 1) := by decide +kernel
theorem dX8_canDraw_206 : decode cX8_canDraw 206 = .ok (.aload_n 0, 1) := by decide +kernel
theorem dX8_canDraw_207 : decode cX8_canDraw 207 = .ok (.getfield 198, 3) := by decide +kernel
theorem dX8_canDraw_210 : decode cX8_canDraw 210 = .ok (.invokevirtual 192, 3) := by decide +kernel
theorem dX8_canDraw_213 : decode cX8_canDraw 213 = .ok (.istore 9, 2) := by decide +kernel
theorem dX8_canDraw_215 : decode cX8_canDraw 215 = .ok (.iload 4, 2) := by decide +kernel
theorem dX8_canDraw_217 : decode cX8_canDraw 217 = .ok (.aload_n 0, 1) := by decide +kernel
theorem dX8_canDraw_218 : decode cX8_canDraw 218 = .ok (.iload 7, 2) := by decide +kernel
theorem dX8_canDraw_220 : decode cX8_canDraw 220 = .ok (.invokevirtual 219, 3) := by decide +kernel
theorem dX8_canDraw_223 : decode cX8_canDraw 223 = .ok (.ior, 1) := by decide +kernel
theorem dX8_canDraw_224 : decode cX8_canDraw 224 = .ok (.istore 4, 2) := by decide +kernel
theorem dX8_canDraw_226 : decode cX8_canDraw 226 = .ok (.iload 5, 2) := by decide +kernel
theorem dX8_canDraw_228 : decode cX8_canDraw 228 = .ok (.aload_n 0, 1) := by decide +kernel
theorem dX8_canDraw_229 : decode cX8_canDraw 229 = .ok (.invokevirtual 222, 3) := by decide +kernel
theorem dX8_canDraw_232 : decode cX8_canDraw 232 = .ok (.ior, 1) := by decide +kernel
theorem dX8_canDraw_233 : decode cX8_canDraw 233 = .ok (.istore 5, 2) := by decide +kernel
theorem dX8_canDraw_235 : decode cX8_canDraw 235 = .ok (.aload_n 0, 1) := by decide +kernel
theorem dX8_canDraw_236 : decode cX8_canDraw 236 = .ok (.iload 9, 2) := by decide +kernel
theorem dX8_canDraw_238 : decode cX8_canDraw 238 = .ok (.ifCond .le 10, 3) := by decide +kernel
theorem dX8_canDraw_241 : decode cX8_canDraw 241 = .ok (.aload_n 0, 1) := by decide +kernel
theorem dX8_canDraw_242 : decode cX8_canDraw 242 = .ok (.getfield 189, 3) := by decide +kernel
theorem dX8_canDraw_245 : decode cX8_canDraw 245 = .ok (.goto 4, 3) := by decide +kernel
theorem dX8_canDraw_248 : decode cX8_canDraw 248 = .ok (.iconst 0, 1) := by decide +kernel
theorem dX8_canDraw_249 : decode cX8_canDraw 249 = .ok (.invokevirtual 231, 3) := by decide +kernel
theorem dX8_canDraw_252 : decode cX8_canDraw 252 = .ok (.goto (-125), 3) := by decide +kernel
theorem dX8_canDraw_255 : decode cX8_canDraw 255 = .ok (.iconst 1, 1) := by decide +kernel
theorem dX8_canDraw_256 : decode cX8_canDraw 256 = .ok (.ireturn, 1) := by decide +kernel
theorem dX8_planar_0 : decode cX8_planar 0 = .ok (.iload_n 1, 1) := by decide +kernel
theorem dX8_planar_1 : decode cX8_planar 1 = .ok (.istore_n 2, 1) := by decide +kernel
theorem dX8_planar_2 : decode cX8_planar 2 = .ok (.iconst 1, 1) := by decide +kernel
theorem dX8_planar_3 : decode cX8_planar 3 = .ok (.istore_n 3, 1) := by decide +kernel
theorem dX8_planar_4 : decode cX8_planar 4 = .ok (.iload_n 2, 1) := by decide +kernel
theorem dX8_planar_5 : decode cX8_planar 5 = .ok (.ifCond .eq 35, 3) := by decide +kernel
theorem dX8_planar_8 : decode cX8_planar 8 = .ok (.iload_n 3, 1) := by decide +kernel
theorem dX8_planar_9 : decode cX8_planar 9 = .ok (.ifCond .eq 31, 3) := by decide +kernel
theorem dX8_planar_12 : decode cX8_planar 12 = .ok (.aload_n 0, 1) := by decide +kernel
theorem dX8_planar_13 : decode cX8_planar 13 = .ok (.iload_n 1, 1) := by decide +kernel
theorem dX8_planar_14 : decode cX8_planar 14 = .ok (.iload_n 2, 1) := by decide +kernel
theorem dX8_planar_15 : decode cX8_planar 15 = .ok (.invokestatic 210, 3) := by decide +kernel
theorem dX8_planar_18 : decode cX8_planar 18 = .ok (.invokevirtual 234, 3) := by decide +kernel
theorem dX8_planar_21 : decode cX8_planar 21 = .ok (.istore 4, 2) := by decide +kernel
theorem dX8_planar_23 : decode cX8_planar 23 = .ok (.aload_n 0, 1) := by decide +kernel
theorem dX8_planar_24 : decode cX8_planar 24 = .ok (.iload 4, 2) := by decide +kernel
theorem dX8_planar_26 : decode cX8_planar 26 = .ok (.invokevirtual 237, 3) := by decide +kernel
theorem dX8_planar_29 : decode cX8_planar 29 = .ok (.istore_n 3, 1) := by decide +kernel
theorem dX8_planar_30 : decode cX8_planar 30 = .ok (.iload_n 2, 1) := by decide +kernel
theorem dX8_planar_31 : decode cX8_planar 31 = .ok (.iload 4, 2) := by decide +kernel
theorem dX8_planar_33 : decode cX8_planar 33 = .ok (.iconst (-1), 1) := by decide +kernel
theorem dX8_planar_34 : decode cX8_planar 34 = .ok (.ixor, 1) := by decide +kernel
theorem dX8_planar_35 : decode cX8_planar 35 = .ok (.iand, 1) := by decide +kernel
theorem dX8_planar_36 : decode cX8_planar 36 = .ok (.istore_n 2, 1) := by decide +kernel
theorem dX8_planar_37 : decode cX8_planar 37 = .ok (.goto (-33), 3) := by decide +kernel
theorem dX8_planar_40 : decode cX8_planar 40 = .ok (.iload_n 3, 1) := by decide +kernel
theorem dX8_planar_41 : decode cX8_planar 41 = .ok (.ireturn, 1) := by decide +kernel
theorem dX8_allEdges_0 : decode cX8_allEdges 0 = .ok (.aload_n 0, 1) := by decide +kernel
theorem dX8_allEdges_1 : decode cX8_allEdges 1 = .ok (.iconst 0, 1) := by decide +kernel
theorem dX8_allEdges_2 : decode cX8_allEdges 2 = .ok (.iconst 0, 1) := by decide +kernel
theorem dX8_allEdges_3 : decode cX8_allEdges 3 = .ok (.invokevirtual 240, 3) := by decide +kernel
theorem dX8_allEdges_6 : decode cX8_allEdges 6 = .ok (.iconst 1, 1) := by decide +kernel
theorem dX8_allEdges_7 : decode cX8_allEdges 7 = .ok (.aload_n 0, 1) := by decide +kernel
theorem dX8_allEdges_8 : decode cX8_allEdges 8 = .ok (.getfield 7, 3) := by decide +kernel
theorem dX8_allEdges_11 : decode cX8_allEdges 11 = .ok (.iconst 1, 1) := by decide +kernel
theorem dX8_allEdges_12 : decode cX8_allEdges 12 = .ok (.iaload, 1) := by decide +kernel
theorem dX8_allEdges_13 : decode cX8_allEdges 13 = .ok (.ishl, 1) := by decide +kernel
theorem dX8_allEdges_14 : decode cX8_allEdges 14 = .ok (.iconst 1, 1) := by decide +kernel
theorem dX8_allEdges_15 : decode cX8_allEdges 15 = .ok (.isub, 1) := by decide +kernel
theorem dX8_allEdges_16 : decode cX8_allEdges 16 = .ok (.ireturn, 1) := by decide +kernel
theorem dX8_isPlanar_0 : decode cX8_isPlanar 0 = .ok (.aload_n 0, 1) := by decide +kernel
theorem dX8_isPlanar_1 : decode cX8_isPlanar 1 = .ok (.aload_n 0, 1) := by decide +kernel
theorem dX8_isPlanar_2 : decode cX8_isPlanar 2 = .ok (.invokevirtual 243, 3) := by decide +kernel
theorem dX8_isPlanar_5 : decode cX8_isPlanar 5 = .ok (.invokevirtual 246, 3) := by decide +kernel
theorem dX8_isPlanar_8 : decode cX8_isPlanar 8 = .ok (.ifCond .eq 7, 3) := by decide +kernel
theorem dX8_isPlanar_11 : decode cX8_isPlanar 11 = .ok (.iconst 1, 1) := by decide +kernel
theorem dX8_isPlanar_12 : decode cX8_isPlanar 12 = .ok (.goto 4, 3) := by decide +kernel
theorem dX8_isPlanar_15 : decode cX8_isPlanar 15 = .ok (.iconst 0, 1) := by decide +kernel
theorem dX8_isPlanar_16 : decode cX8_isPlanar 16 = .ok (.ireturn, 1) := by decide +kernel
theorem dX8_canAdd_0 : decode cX8_canAdd 0 = .ok (.aload_n 0, 1) := by decide +kernel
theorem dX8_canAdd_1 : decode cX8_canAdd 1 = .ok (.iload_n 1, 1) := by decide +kernel
theorem dX8_canAdd_2 : decode cX8_canAdd 2 = .ok (.iload_n 2, 1) := by decide +kernel
theorem dX8_canAdd_3 : decode cX8_canAdd 3 = .ok (.invokevirtual 100, 3) := by decide +kernel
theorem dX8_canAdd_6 : decode cX8_canAdd 6 = .ok (.ifCond .ne 5, 3) := by decide +kernel
theorem dX8_canAdd_9 : decode cX8_canAdd 9 = .ok (.iconst (-1), 1) := by decide +kernel
theorem dX8_canAdd_10 : decode cX8_canAdd 10 = .ok (.ireturn, 1) := by decide +kernel
theorem dX8_canAdd_11 : decode cX8_canAdd 11 = .ok (.aload_n 0, 1) := by decide +kernel
theorem dX8_canAdd_12 : decode cX8_canAdd 12 = .ok (.iload_n 1, 1) := by decide +kernel
theorem dX8_canAdd_13 : decode cX8_canAdd 13 = .ok (.iload_n 2, 1) := by decide +kernel
theorem dX8_canAdd_14 : decode cX8_canAdd 14 = .ok (.invokevirtual 103, 3) := by decide +kernel
theorem dX8_canAdd_17 : decode cX8_canAdd 17 = .ok (.bipush (-9), 2) := by decide +kernel
theorem dX8_canAdd_19 : decode cX8_canAdd 19 = .ok (.if_icmp .eq 6, 3) := by decide +kernel
theorem dX8_canAdd_22 : decode cX8_canAdd 22 = .ok (.bipush (-2), 2) := by decide +kernel
theorem dX8_canAdd_24 : decode cX8_canAdd 24 = .ok (.ireturn, 1) := by decide +kernel
theorem dX8_canAdd_25 : decode cX8_canAdd 25 = .ok (.aload_n 0, 1) := by decide +kernel
theorem dX8_canAdd_26 : decode cX8_canAdd 26 = .ok (.iload_n 1, 1) := by decide +kernel
theorem dX8_canAdd_27 : decode cX8_canAdd 27 = .ok (.iload_n 2, 1) := by decide +kernel
theorem dX8_canAdd_28 : decode cX8_canAdd 28 = .ok (.invokevirtual 240, 3) := by decide +kernel
theorem dX8_canAdd_31 : decode cX8_canAdd 31 = .ok (.aload_n 0, 1) := by decide +kernel
theorem dX8_canAdd_32 : decode cX8_canAdd 32 = .ok (.iconst 1, 1) := by decide +kernel
theorem dX8_canAdd_33 : decode cX8_canAdd 33 = .ok (.aload_n 0, 1) := by decide +kernel
theorem dX8_canAdd_34 : decode cX8_canAdd 34 = .ok (.getfield 7, 3) := by decide +kernel
theorem dX8_canAdd_37 : decode cX8_canAdd 37 = .ok (.iconst 1, 1) := by decide +kernel
theorem dX8_canAdd_38 : decode cX8_canAdd 38 = .ok (.iaload, 1) := by decide +kernel
theorem dX8_canAdd_39 : decode cX8_canAdd 39 = .ok (.iconst 1, 1) := by decide +kernel
theorem dX8_canAdd_40 : decode cX8_canAdd 40 = .ok (.iadd, 1) := by decide +kernel
theorem dX8_canAdd_41 : decode cX8_canAdd 41 = .ok (.ishl, 1) := by decide +kernel
theorem dX8_canAdd_42 : decode cX8_canAdd 42 = .ok (.iconst 1, 1) := by decide +kernel
theorem dX8_canAdd_43 : decode cX8_canAdd 43 = .ok (.isub, 1) := by decide +kernel
theorem dX8_canAdd_44 : decode cX8_canAdd 44 = .ok (.invokevirtual 246, 3) := by decide +kernel
theorem dX8_canAdd_47 : decode cX8_canAdd 47 = .ok (.ifCond .eq 7, 3) := by decide +kernel
theorem dX8_canAdd_50 : decode cX8_canAdd 50 = .ok (.iconst 1, 1) := by decide +kernel
theorem dX8_canAdd_51 : decode cX8_canAdd 51 = .ok (.goto 4, 3) := by decide +kernel
theorem dX8_canAdd_54 : decode cX8_canAdd 54 = .ok (.iconst 0, 1) := by decide +kernel
theorem dX8_canAdd_55 : decode cX8_canAdd 55 = .ok (.ireturn, 1) := by decide +kernel
theorem dX8_obstructed_0 : decode cX8_obstructed 0 = .ok (.aload_n 0, 1) := by decide +kernel
theorem dX8_obstructed_1 : decode cX8_obstructed 1 = .ok (.invokevirtual 243, 3) := by decide +kernel
theorem dX8_obstructed_4 : decode cX8_obstructed 4 = .ok (.istore_n 1, 1) := by decide +kernel
theorem dX8_obstructed_5 : decode cX8_obstructed 5 = .ok (.aload_n 0, 1) := by decide +kernel
theorem dX8_obstructed_6 : decode cX8_obstructed 6 = .ok (.iload_n 1, 1) := by decide +kernel
theorem dX8_obstructed_7 : decode cX8_obstructed 7 = .ok (.invokevirtual 246, 3) := by decide +kernel
theorem dX8_obstructed_10 : decode cX8_obstructed 10 = .ok (.ifCond .eq 5, 3) := by decide +kernel
theorem dX8_obstructed_13 : decode cX8_obstructed 13 = .ok (.iconst 0, 1) := by decide +kernel
theorem dX8_obstructed_14 : decode cX8_obstructed 14 = .ok (.ireturn, 1) := by decide +kernel
theorem dX8_obstructed_15 : decode cX8_obstructed 15 = .ok (.iconst 0, 1) := by decide +kernel
theorem dX8_obstructed_16 : decode cX8_obstructed 16 = .ok (.istore_n 2, 1) := by decide +kernel
theorem dX8_obstructed_17 : decode cX8_obstructed 17 = .ok (.iload_n 2, 1) := by decide +kernel
theorem dX8_obstructed_18 : decode cX8_obstructed 18 = .ok (.aload_n 0, 1) := by decide +kernel
theorem dX8_obstructed_19 : decode cX8_obstructed 19 = .ok (.getfield 7, 3) := by decide +kernel
theorem dX8_obstructed_22 : decode cX8_obstructed 22 = .ok (.iconst 1, 1) := by decide +kernel
theorem dX8_obstructed_23 : decode cX8_obstructed 23 = .ok (.iaload, 1) := by decide +kernel
theorem dX8_obstructed_24 : decode cX8_obstructed 24 = .ok (.if_icmp .ge 35, 3) := by decide +kernel
theorem dX8_obstructed_27 : decode cX8_obstructed 27 = .ok (.aload_n 0, 1) := by decide +kernel
theorem dX8_obstructed_28 : decode cX8_obstructed 28 = .ok (.iload_n 1, 1) := by decide +kernel
theorem dX8_obstructed_29 : decode cX8_obstructed 29 = .ok (.iconst 1, 1) := by decide +kernel
theorem dX8_obstructed_30 : decode cX8_obstructed 30 = .ok (.iload_n 2, 1) := by decide +kernel
theorem dX8_obstructed_31 : decode cX8_obstructed 31 = .ok (.ishl, 1) := by decide +kernel
theorem dX8_obstructed_32 : decode cX8_obstructed 32 = .ok (.iconst (-1), 1) := by decide +kernel
theorem dX8_obstructed_33 : decode cX8_obstructed 33 = .ok (.ixor, 1) := by decide +kernel
theorem dX8_obstructed_34 : decode cX8_obstructed 34 = .ok (.iand, 1) := by decide +kernel
theorem dX8_obstructed_35 : decode cX8_obstructed 35 = .ok (.invokevirtual 246, 3) := by decide +kernel
theorem dX8_obstructed_38 : decode cX8_obstructed 38 = .ok (.ifCond .eq 7, 3) := by decide +kernel
theorem dX8_obstructed_41 : decode cX8_obstructed 41 = .ok (.iload_n 1, 1) := by decide +kernel
theorem dX8_obstructed_42 : decode cX8_obstructed 42 = .ok (.goto 10, 3) := by decide +kernel
theorem dX8_obstructed_45 : decode cX8_obstructed 45 = .ok (.iload_n 1, 1) := by decide +kernel
theorem dX8_obstructed_46 : decode cX8_obstructed 46 = .ok (.iconst 1, 1) := by decide +kernel
theorem dX8_obstructed_47 : decode cX8_obstructed 47 = .ok (.iload_n 2, 1) := by decide +kernel
theorem dX8_obstructed_48 : decode cX8_obstructed 48 = .ok (.ishl, 1) := by decide +kernel
theorem dX8_obstructed_49 : decode cX8_obstructed 49 = .ok (.iconst (-1), 1) := by decide +kernel
theorem dX8_obstructed_50 : decode cX8_obstructed 50 = .ok (.ixor, 1) := by decide +kernel
theorem dX8_obstructed_51 : decode cX8_obstructed 51 = .ok (.iand, 1) := by decide +kernel
theorem dX8_obstructed_52 : decode cX8_obstructed 52 = .ok (.istore_n 1, 1) := by decide +kernel
theorem dX8_obstructed_53 : decode cX8_obstructed 53 = .ok (.iinc 2 1, 3) := by decide +kernel
theorem dX8_obstructed_56 : decode cX8_obstructed 56 = .ok (.goto (-39), 3) := by decide +kernel
theorem dX8_obstructed_59 : decode cX8_obstructed 59 = .ok (.iload_n 1, 1) := by decide +kernel
theorem dX8_obstructed_60 : decode cX8_obstructed 60 = .ok (.ireturn, 1) := by decide +kernel
theorem dX8_obstruction_0 : decode cX8_obstruction 0 = .ok (.aload_n 0, 1) := by decide +kernel
theorem dX8_obstruction_1 : decode cX8_obstruction 1 = .ok (.invokevirtual 249, 3) := by decide +kernel
theorem dX8_obstruction_4 : decode cX8_obstruction 4 = .ok (.ireturn, 1) := by decide +kernel
theorem dX8_branching_0 : decode cX8_branching 0 = .ok (.aload_n 0, 1) := by decide +kernel
theorem dX8_branching_1 : decode cX8_branching 1 = .ok (.invokevirtual 249, 3) := by decide +kernel
theorem dX8_branching_4 : decode cX8_branching 4 = .ok (.istore_n 1, 1) := by decide +kernel
theorem dX8_branching_5 : decode cX8_branching 5 = .ok (.iconst 0, 1) := by decide +kernel
theorem dX8_branching_6 : decode cX8_branching 6 = .ok (.istore_n 2, 1) := by decide +kernel
theorem dX8_branching_7 : decode cX8_branching 7 = .ok (.iconst 0, 1) := by decide +kernel
theorem dX8_branching_8 : decode cX8_branching 8 = .ok (.istore_n 3, 1) := by decide +kernel
theorem dX8_branching_9 : decode cX8_branching 9 = .ok (.iload_n 3, 1) := by decide +kernel
theorem dX8_branching_10 : decode cX8_branching 10 = .ok (.aload_n 0, 1) := by decide +kernel
theorem dX8_branching_11 : decode cX8_branching 11 = .ok (.getfield 7, 3) := by decide +kernel
theorem dX8_branching_14 : decode cX8_branching 14 = .ok (.iconst 0, 1) := by decide +kernel
theorem dX8_branching_15 : decode cX8_branching 15 = .ok (.iaload, 1) := by decide +kernel
theorem dX8_branching_16 : decode cX8_branching 16 = .ok (.if_icmp .ge 77, 3) := by decide +kernel
theorem dX8_branching_19 : decode cX8_branching 19 = .ok (.iconst 0, 1) := by decide +kernel
theorem dX8_branching_20 : decode cX8_branching 20 = .ok (.istore 4, 2) := by decide +kernel
theorem dX8_branching_22 : decode cX8_branching 22 = .ok (.iconst 0, 1) := by decide +kernel
theorem dX8_branching_23 : decode cX8_branching 23 = .ok (.istore 5, 2) := by decide +kernel
theorem dX8_branching_25 : decode cX8_branching 25 = .ok (.iload 5, 2) := by decide +kernel
theorem dX8_branching_27 : decode cX8_branching 27 = .ok (.aload_n 0, 1) := by decide +kernel
theorem dX8_branching_28 : decode cX8_branching 28 = .ok (.getfield 7, 3) := by decide +kernel
theorem dX8_branching_31 : decode cX8_branching 31 = .ok (.iconst 1, 1) := by decide +kernel
theorem dX8_branching_32 : decode cX8_branching 32 = .ok (.iaload, 1) := by decide +kernel
theorem dX8_branching_33 : decode cX8_branching 33 = .ok (.if_icmp .ge 38, 3) := by decide +kernel
theorem dX8_branching_36 : decode cX8_branching 36 = .ok (.iload 4, 2) := by decide +kernel
theorem dX8_branching_38 : decode cX8_branching 38 = .ok (.iload_n 1, 1) := by decide +kernel
theorem dX8_branching_39 : decode cX8_branching 39 = .ok (.iload 5, 2) := by decide +kernel
theorem dX8_branching_41 : decode cX8_branching 41 = .ok (.invokestatic 166, 3) := by decide +kernel
theorem dX8_branching_44 : decode cX8_branching 44 = .ok (.ifCond .eq 17, 3) := by decide +kernel
theorem dX8_branching_47 : decode cX8_branching 47 = .ok (.aload_n 0, 1) := by decide +kernel
theorem dX8_branching_48 : decode cX8_branching 48 = .ok (.iload 5, 2) := by decide +kernel
theorem dX8_branching_50 : decode cX8_branching 50 = .ok (.iload_n 3, 1) := by decide +kernel
theorem dX8_branching_51 : decode cX8_branching 51 = .ok (.invokevirtual 82, 3) := by decide +kernel
theorem dX8_branching_54 : decode cX8_branching 54 = .ok (.ifCond .eq 7, 3) := by decide +kernel
theorem dX8_branching_57 : decode cX8_branching 57 = .ok (.iconst 1, 1) := by decide +kernel
theorem dX8_branching_58 : decode cX8_branching 58 = .ok (.goto 4, 3) := by decide +kernel
theorem dX8_branching_61 : decode cX8_branching 61 = .ok (.iconst 0, 1) := by decide +kernel
theorem dX8_branching_62 : decode cX8_branching 62 = .ok (.iadd, 1) := by decide +kernel
theorem dX8_branching_63 : decode cX8_branching 63 = .ok (.istore 4, 2) := by decide +kernel
theorem dX8_branching_65 : decode cX8_branching 65 = .ok (.iinc 5 1, 3) := by decide +kernel
theorem dX8_branching_68 : decode cX8_branching 68 = .ok (.goto (-43), 3) := by decide +kernel
theorem dX8_branching_71 : decode cX8_branching 71 = .ok (.iload_n 2, 1) := by decide +kernel
theorem dX8_branching_72 : decode cX8_branching 72 = .ok (.iload 4, 2) := by decide +kernel
theorem dX8_branching_74 : decode cX8_branching 74 = .ok (.iconst 2, 1) := by decide +kernel
theorem dX8_branching_75 : decode cX8_branching 75 = .ok (.if_icmp .le 9, 3) := by decide +kernel
theorem dX8_branching_78 : decode cX8_branching 78 = .ok (.iconst 1, 1) := by decide +kernel
theorem dX8_branching_79 : decode cX8_branching 79 = .ok (.iload_n 3, 1) := by decide +kernel
theorem dX8_branching_80 : decode cX8_branching 80 = .ok (.ishl, 1) := by decide +kernel
theorem dX8_branching_81 : decode cX8_branching 81 = .ok (.goto 4, 3) := by decide +kernel
theorem dX8_branching_84 : decode cX8_branching 84 = .ok (.iconst 0, 1) := by decide +kernel
theorem dX8_branching_85 : decode cX8_branching 85 = .ok (.ior, 1) := by decide +kernel
theorem dX8_branching_86 : decode cX8_branching 86 = .ok (.istore_n 2, 1) := by decide +kernel
theorem dX8_branching_87 : decode cX8_branching 87 = .ok (.iinc 3 1, 3) := by decide +kernel
theorem dX8_branching_90 : decode cX8_branching 90 = .ok (.goto (-81), 3) := by decide +kernel
theorem dX8_branching_93 : decode cX8_branching 93 = .ok (.iload_n 2, 1) := by decide +kernel
theorem dX8_branching_94 : decode cX8_branching 94 = .ok (.ireturn, 1) := by decide +kernel
theorem dX8_guiltyEdges_0 : decode cX8_guiltyEdges 0 = .ok (.aload_n 0, 1) := by decide +kernel
theorem dX8_guiltyEdges_1 : decode cX8_guiltyEdges 1 = .ok (.invokevirtual 243, 3) := by decide +kernel
theorem dX8_guiltyEdges_4 : decode cX8_guiltyEdges 4 = .ok (.istore_n 1, 1) := by decide +kernel
theorem dX8_guiltyEdges_5 : decode cX8_guiltyEdges 5 = .ok (.aload_n 0, 1) := by decide +kernel
theorem dX8_guiltyEdges_6 : decode cX8_guiltyEdges 6 = .ok (.iload_n 1, 1) := by decide +kernel
theorem dX8_guiltyEdges_7 : decode cX8_guiltyEdges 7 = .ok (.invokevirtual 246, 3) := by decide +kernel
theorem dX8_guiltyEdges_10 : decode cX8_guiltyEdges 10 = .ok (.ifCond .eq 6, 3) := by decide +kernel
theorem dX8_guiltyEdges_13 : decode cX8_guiltyEdges 13 = .ok (.bipush (-9), 2) := by decide +kernel
theorem dX8_guiltyEdges_15 : decode cX8_guiltyEdges 15 = .ok (.ireturn, 1) := by decide +kernel
theorem dX8_guiltyEdges_16 : decode cX8_guiltyEdges 16 = .ok (.iconst 0, 1) := by decide +kernel
theorem dX8_guiltyEdges_17 : decode cX8_guiltyEdges 17 = .ok (.istore_n 2, 1) := by decide +kernel
theorem dX8_guiltyEdges_18 : decode cX8_guiltyEdges 18 = .ok (.iconst 0, 1) := by decide +kernel
theorem dX8_guiltyEdges_19 : decode cX8_guiltyEdges 19 = .ok (.istore_n 3, 1) := by decide +kernel
theorem dX8_guiltyEdges_20 : decode cX8_guiltyEdges 20 = .ok (.iload_n 3, 1) := by decide +kernel
theorem dX8_guiltyEdges_21 : decode cX8_guiltyEdges 21 = .ok (.aload_n 0, 1) := by decide +kernel
theorem dX8_guiltyEdges_22 : decode cX8_guiltyEdges 22 = .ok (.getfield 7, 3) := by decide +kernel
theorem dX8_guiltyEdges_25 : decode cX8_guiltyEdges 25 = .ok (.iconst 1, 1) := by decide +kernel
theorem dX8_guiltyEdges_26 : decode cX8_guiltyEdges 26 = .ok (.iaload, 1) := by decide +kernel
theorem dX8_guiltyEdges_27 : decode cX8_guiltyEdges 27 = .ok (.if_icmp .ge 31, 3) := by decide +kernel
theorem dX8_guiltyEdges_30 : decode cX8_guiltyEdges 30 = .ok (.iload_n 2, 1) := by decide +kernel
theorem dX8_guiltyEdges_31 : decode cX8_guiltyEdges 31 = .ok (.aload_n 0, 1) := by decide +kernel
theorem dX8_guiltyEdges_32 : decode cX8_guiltyEdges 32 = .ok (.iload_n 1, 1) := by decide +kernel
theorem dX8_guiltyEdges_33 : decode cX8_guiltyEdges 33 = .ok (.iconst 1, 1) := by decide +kernel
theorem dX8_guiltyEdges_34 : decode cX8_guiltyEdges 34 = .ok (.iload_n 3, 1) := by decide +kernel
theorem dX8_guiltyEdges_35 : decode cX8_guiltyEdges 35 = .ok (.ishl, 1) := by decide +kernel
theorem dX8_guiltyEdges_36 : decode cX8_guiltyEdges 36 = .ok (.iconst (-1), 1) := by decide +kernel
theorem dX8_guiltyEdges_37 : decode cX8_guiltyEdges 37 = .ok (.ixor, 1) := by decide +kernel
theorem dX8_guiltyEdges_38 : decode cX8_guiltyEdges 38 = .ok (.iand, 1) := by decide +kernel
theorem dX8_guiltyEdges_39 : decode cX8_guiltyEdges 39 = .ok (.invokevirtual 246, 3) := by decide +kernel
theorem dX8_guiltyEdges_42 : decode cX8_guiltyEdges 42 = .ok (.ifCond .eq 7, 3) := by decide +kernel
theorem dX8_guiltyEdges_45 : decode cX8_guiltyEdges 45 = .ok (.iconst 1, 1) := by decide +kernel
theorem dX8_guiltyEdges_46 : decode cX8_guiltyEdges 46 = .ok (.goto 4, 3) := by decide +kernel
theorem dX8_guiltyEdges_49 : decode cX8_guiltyEdges 49 = .ok (.iconst 0, 1) := by decide +kernel
theorem dX8_guiltyEdges_50 : decode cX8_guiltyEdges 50 = .ok (.iadd, 1) := by decide +kernel
theorem dX8_guiltyEdges_51 : decode cX8_guiltyEdges 51 = .ok (.istore_n 2, 1) := by decide +kernel
theorem dX8_guiltyEdges_52 : decode cX8_guiltyEdges 52 = .ok (.iinc 3 1, 3) := by decide +kernel
theorem dX8_guiltyEdges_55 : decode cX8_guiltyEdges 55 = .ok (.goto (-35), 3) := by decide +kernel
theorem dX8_guiltyEdges_58 : decode cX8_guiltyEdges 58 = .ok (.iload_n 2, 1) := by decide +kernel
theorem dX8_guiltyEdges_59 : decode cX8_guiltyEdges 59 = .ok (.ireturn, 1) := by decide +kernel
theorem dX8_looks_0 : decode cX8_looks 0 = .ok (.iconst 0, 1) := by decide +kernel
theorem dX8_looks_1 : decode cX8_looks 1 = .ok (.istore_n 2, 1) := by decide +kernel
theorem dX8_looks_2 : decode cX8_looks 2 = .ok (.iload_n 2, 1) := by decide +kernel
theorem dX8_looks_3 : decode cX8_looks 3 = .ok (.aload_n 0, 1) := by decide +kernel
theorem dX8_looks_4 : decode cX8_looks 4 = .ok (.getfield 120, 3) := by decide +kernel
theorem dX8_looks_7 : decode cX8_looks 7 = .ok (.if_icmp .ge 34, 3) := by decide +kernel
theorem dX8_looks_10 : decode cX8_looks 10 = .ok (.aload_n 0, 1) := by decide +kernel
theorem dX8_looks_11 : decode cX8_looks 11 = .ok (.getfield 56, 3) := by decide +kernel
theorem dX8_looks_14 : decode cX8_looks 14 = .ok (.iload_n 2, 1) := by decide +kernel
theorem dX8_looks_15 : decode cX8_looks 15 = .ok (.aload_n 0, 1) := by decide +kernel
theorem dX8_looks_16 : decode cX8_looks 16 = .ok (.iload_n 2, 1) := by decide +kernel
theorem dX8_looks_17 : decode cX8_looks 17 = .ok (.invokevirtual 140, 3) := by decide +kernel
theorem dX8_looks_20 : decode cX8_looks 20 = .ok (.iload_n 1, 1) := by decide +kernel
theorem dX8_looks_21 : decode cX8_looks 21 = .ok (.invokestatic 166, 3) := by decide +kernel
theorem dX8_looks_24 : decode cX8_looks 24 = .ok (.ifCond .eq 7, 3) := by decide +kernel
theorem dX8_looks_27 : decode cX8_looks 27 = .ok (.iconst 0, 1) := by decide +kernel
theorem dX8_looks_28 : decode cX8_looks 28 = .ok (.goto 6, 3) := by decide +kernel
theorem dX8_looks_31 : decode cX8_looks 31 = .ok (.sipush 1000, 3) := by decide +kernel
theorem dX8_looks_34 : decode cX8_looks 34 = .ok (.iastore, 1) := by decide +kernel
theorem dX8_looks_35 : decode cX8_looks 35 = .ok (.iinc 2 1, 3) := by decide +kernel
theorem dX8_looks_38 : decode cX8_looks 38 = .ok (.goto (-36), 3) := by decide +kernel
theorem dX8_looks_41 : decode cX8_looks 41 = .ok (.iconst 0, 1) := by decide +kernel
theorem dX8_looks_42 : decode cX8_looks 42 = .ok (.istore_n 2, 1) := by decide +kernel
theorem dX8_looks_43 : decode cX8_looks 43 = .ok (.iload_n 2, 1) := by decide +kernel
theorem dX8_looks_44 : decode cX8_looks 44 = .ok (.aload_n 0, 1) := by decide +kernel
theorem dX8_looks_45 : decode cX8_looks 45 = .ok (.getfield 120, 3) := by decide +kernel
theorem dX8_looks_48 : decode cX8_looks 48 = .ok (.if_icmp .ge 92, 3) := by decide +kernel
theorem dX8_looks_51 : decode cX8_looks 51 = .ok (.iconst 0, 1) := by decide +kernel
theorem dX8_looks_52 : decode cX8_looks 52 = .ok (.istore_n 3, 1) := by decide +kernel
theorem dX8_looks_53 : decode cX8_looks 53 = .ok (.iload_n 3, 1) := by decide +kernel
theorem dX8_looks_54 : decode cX8_looks 54 = .ok (.iconst 2, 1) := by decide +kernel
theorem dX8_looks_55 : decode cX8_looks 55 = .ok (.aload_n 0, 1) := by decide +kernel
theorem dX8_looks_56 : decode cX8_looks 56 = .ok (.getfield 7, 3) := by decide +kernel
theorem dX8_looks_59 : decode cX8_looks 59 = .ok (.iconst 1, 1) := by decide +kernel
theorem dX8_looks_60 : decode cX8_looks 60 = .ok (.iaload, 1) := by decide +kernel
theorem dX8_looks_61 : decode cX8_looks 61 = .ok (.imul, 1) := by decide +kernel
theorem dX8_looks_62 : decode cX8_looks 62 = .ok (.if_icmp .ge 72, 3) := by decide +kernel
theorem dX8_looks_65 : decode cX8_looks 65 = .ok (.aload_n 0, 1) := by decide +kernel
theorem dX8_looks_66 : decode cX8_looks 66 = .ok (.getfield 20, 3) := by decide +kernel
theorem dX8_looks_69 : decode cX8_looks 69 = .ok (.iload_n 3, 1) := by decide +kernel
theorem dX8_looks_70 : decode cX8_looks 70 = .ok (.iaload, 1) := by decide +kernel
theorem dX8_looks_71 : decode cX8_looks 71 = .ok (.istore 4, 2) := by decide +kernel
theorem dX8_looks_73 : decode cX8_looks 73 = .ok (.aload_n 0, 1) := by decide +kernel
theorem dX8_looks_74 : decode cX8_looks 74 = .ok (.getfield 20, 3) := by decide +kernel
theorem dX8_looks_77 : decode cX8_looks 77 = .ok (.iload_n 3, 1) := by decide +kernel
theorem dX8_looks_78 : decode cX8_looks 78 = .ok (.iconst 1, 1) := by decide +kernel
theorem dX8_looks_79 : decode cX8_looks 79 = .ok (.ixor, 1) := by decide +kernel
theorem dX8_looks_80 : decode cX8_looks 80 = .ok (.iaload, 1) := by decide +kernel
theorem dX8_looks_81 : decode cX8_looks 81 = .ok (.istore 5, 2) := by decide +kernel
theorem dX8_looks_83 : decode cX8_looks 83 = .ok (.aload_n 0, 1) := by decide +kernel
theorem dX8_looks_84 : decode cX8_looks 84 = .ok (.getfield 56, 3) := by decide +kernel
theorem dX8_looks_87 : decode cX8_looks 87 = .ok (.iload 4, 2) := by decide +kernel
theorem dX8_looks_89 : decode cX8_looks 89 = .ok (.aload_n 0, 1) := by decide +kernel
theorem dX8_looks_90 : decode cX8_looks 90 = .ok (.getfield 56, 3) := by decide +kernel
theorem dX8_looks_93 : decode cX8_looks 93 = .ok (.iload 5, 2) := by decide +kernel
theorem dX8_looks_95 : decode cX8_looks 95 = .ok (.iaload, 1) := by decide +kernel
theorem dX8_looks_96 : decode cX8_looks 96 = .ok (.iconst 1, 1) := by decide +kernel
theorem dX8_looks_97 : decode cX8_looks 97 = .ok (.iadd, 1) := by decide +kernel
theorem dX8_looks_98 : decode cX8_looks 98 = .ok (.aload_n 0, 1) := by decide +kernel
theorem dX8_looks_99 : decode cX8_looks 99 = .ok (.getfield 56, 3) := by decide +kernel
theorem dX8_looks_102 : decode cX8_looks 102 = .ok (.iload 4, 2) := by decide +kernel
theorem dX8_looks_104 : decode cX8_looks 104 = .ok (.iaload, 1) := by decide +kernel
theorem dX8_looks_105 : decode cX8_looks 105 = .ok (.if_icmp .ge 15, 3) := by decide +kernel
theorem dX8_looks_108 : decode cX8_looks 108 = .ok (.aload_n 0, 1) := by decide +kernel
theorem dX8_looks_109 : decode cX8_looks 109 = .ok (.getfield 56, 3) := by decide +kernel
theorem dX8_looks_112 : decode cX8_looks 112 = .ok (.iload 5, 2) := by decide +kernel
theorem dX8_looks_114 : decode cX8_looks 114 = .ok (.iaload, 1) := by decide +kernel
theorem dX8_looks_115 : decode cX8_looks 115 = .ok (.iconst 1, 1) := by decide +kernel
theorem dX8_looks_116 : decode cX8_looks 116 = .ok (.iadd, 1) := by decide +kernel
theorem dX8_looks_117 : decode cX8_looks 117 = .ok (.goto 10, 3) := by decide +kernel
theorem dX8_looks_120 : decode cX8_looks 120 = .ok (.aload_n 0, 1) := by decide +kernel
theorem dX8_looks_121 : decode cX8_looks 121 = .ok (.getfield 56, 3) := by decide +kernel
theorem dX8_looks_124 : decode cX8_looks 124 = .ok (.iload 4, 2) := by decide +kernel
theorem dX8_looks_126 : decode cX8_looks 126 = .ok (.iaload, 1) := by decide +kernel
theorem dX8_looks_127 : decode cX8_looks 127 = .ok (.iastore, 1) := by decide +kernel
theorem dX8_looks_128 : decode cX8_looks 128 = .ok (.iinc 3 1, 3) := by decide +kernel
theorem dX8_looks_131 : decode cX8_looks 131 = .ok (.goto (-78), 3) := by decide +kernel
theorem dX8_looks_134 : decode cX8_looks 134 = .ok (.iinc 2 1, 3) := by decide +kernel
theorem dX8_looks_137 : decode cX8_looks 137 = .ok (.goto (-94), 3) := by decide +kernel
theorem dX8_looks_140 : decode cX8_looks 140 = .ok (.return_, 1) := by decide +kernel
theorem dX8_isRefused_0 : decode cX8_isRefused 0 = .ok (.aload_n 0, 1) := by decide +kernel
theorem dX8_isRefused_1 : decode cX8_isRefused 1 = .ok (.invokevirtual 113, 3) := by decide +kernel
theorem dX8_isRefused_4 : decode cX8_isRefused 4 = .ok (.ifCond .ne 14, 3) := by decide +kernel
theorem dX8_isRefused_7 : decode cX8_isRefused 7 = .ok (.aload_n 0, 1) := by decide +kernel
theorem dX8_isRefused_8 : decode cX8_isRefused 8 = .ok (.iload_n 1, 1) := by decide +kernel
theorem dX8_isRefused_9 : decode cX8_isRefused 9 = .ok (.iload_n 2, 1) := by decide +kernel
theorem dX8_isRefused_10 : decode cX8_isRefused 10 = .ok (.invokevirtual 103, 3) := by decide +kernel
theorem dX8_isRefused_13 : decode cX8_isRefused 13 = .ok (.bipush (-9), 2) := by decide +kernel
theorem dX8_isRefused_15 : decode cX8_isRefused 15 = .ok (.if_icmp .eq 7, 3) := by decide +kernel
theorem dX8_isRefused_18 : decode cX8_isRefused 18 = .ok (.iconst 1, 1) := by decide +kernel
theorem dX8_isRefused_19 : decode cX8_isRefused 19 = .ok (.goto 4, 3) := by decide +kernel
theorem dX8_isRefused_22 : decode cX8_isRefused 22 = .ok (.iconst 0, 1) := by decide +kernel
theorem dX8_isRefused_23 : decode cX8_isRefused 23 = .ok (.ireturn, 1) := by decide +kernel
theorem dX8_costOf_0 : decode cX8_costOf 0 = .ok (.aload_n 0, 1) := by decide +kernel
theorem dX8_costOf_1 : decode cX8_costOf 1 = .ok (.iload_n 1, 1) := by decide +kernel
theorem dX8_costOf_2 : decode cX8_costOf 2 = .ok (.invokevirtual 133, 3) := by decide +kernel
theorem dX8_costOf_5 : decode cX8_costOf 5 = .ok (.iload_n 2, 1) := by decide +kernel
theorem dX8_costOf_6 : decode cX8_costOf 6 = .ok (.invokestatic 166, 3) := by decide +kernel
theorem dX8_costOf_9 : decode cX8_costOf 9 = .ok (.ifCond .ne 5, 3) := by decide +kernel
theorem dX8_costOf_12 : decode cX8_costOf 12 = .ok (.iconst 0, 1) := by decide +kernel
theorem dX8_costOf_13 : decode cX8_costOf 13 = .ok (.ireturn, 1) := by decide +kernel
theorem dX8_costOf_14 : decode cX8_costOf 14 = .ok (.aload_n 0, 1) := by decide +kernel
theorem dX8_costOf_15 : decode cX8_costOf 15 = .ok (.iload_n 2, 1) := by decide +kernel
theorem dX8_costOf_16 : decode cX8_costOf 16 = .ok (.invokevirtual 252, 3) := by decide +kernel
theorem dX8_costOf_19 : decode cX8_costOf 19 = .ok (.sipush 1000, 3) := by decide +kernel
theorem dX8_costOf_22 : decode cX8_costOf 22 = .ok (.istore_n 3, 1) := by decide +kernel
theorem dX8_costOf_23 : decode cX8_costOf 23 = .ok (.iconst 0, 1) := by decide +kernel
theorem dX8_costOf_24 : decode cX8_costOf 24 = .ok (.istore 4, 2) := by decide +kernel
theorem dX8_costOf_26 : decode cX8_costOf 26 = .ok (.iload 4, 2) := by decide +kernel
theorem dX8_costOf_28 : decode cX8_costOf 28 = .ok (.aload_n 0, 1) := by decide +kernel
theorem dX8_costOf_29 : decode cX8_costOf 29 = .ok (.getfield 120, 3) := by decide +kernel
theorem dX8_costOf_32 : decode cX8_costOf 32 = .ok (.if_icmp .ge 45, 3) := by decide +kernel
theorem dX8_costOf_35 : decode cX8_costOf 35 = .ok (.aload_n 0, 1) := by decide +kernel
theorem dX8_costOf_36 : decode cX8_costOf 36 = .ok (.iload 4, 2) := by decide +kernel
theorem dX8_costOf_38 : decode cX8_costOf 38 = .ok (.invokevirtual 140, 3) := by decide +kernel
theorem dX8_costOf_41 : decode cX8_costOf 41 = .ok (.iload_n 1, 1) := by decide +kernel
theorem dX8_costOf_42 : decode cX8_costOf 42 = .ok (.invokestatic 166, 3) := by decide +kernel
theorem dX8_costOf_45 : decode cX8_costOf 45 = .ok (.ifCond .eq 24, 3) := by decide +kernel
theorem dX8_costOf_48 : decode cX8_costOf 48 = .ok (.aload_n 0, 1) := by decide +kernel
theorem dX8_costOf_49 : decode cX8_costOf 49 = .ok (.getfield 56, 3) := by decide +kernel
theorem dX8_costOf_52 : decode cX8_costOf 52 = .ok (.iload 4, 2) := by decide +kernel
theorem dX8_costOf_54 : decode cX8_costOf 54 = .ok (.iaload, 1) := by decide +kernel
theorem dX8_costOf_55 : decode cX8_costOf 55 = .ok (.iload_n 3, 1) := by decide +kernel
theorem dX8_costOf_56 : decode cX8_costOf 56 = .ok (.if_icmp .ge 13, 3) := by decide +kernel
theorem dX8_costOf_59 : decode cX8_costOf 59 = .ok (.aload_n 0, 1) := by decide +kernel
theorem dX8_costOf_60 : decode cX8_costOf 60 = .ok (.getfield 56, 3) := by decide +kernel
theorem dX8_costOf_63 : decode cX8_costOf 63 = .ok (.iload 4, 2) := by decide +kernel
theorem dX8_costOf_65 : decode cX8_costOf 65 = .ok (.iaload, 1) := by decide +kernel
theorem dX8_costOf_66 : decode cX8_costOf 66 = .ok (.goto 4, 3) := by decide +kernel
theorem dX8_costOf_69 : decode cX8_costOf 69 = .ok (.iload_n 3, 1) := by decide +kernel
theorem dX8_costOf_70 : decode cX8_costOf 70 = .ok (.istore_n 3, 1) := by decide +kernel
theorem dX8_costOf_71 : decode cX8_costOf 71 = .ok (.iinc 4 1, 3) := by decide +kernel
theorem dX8_costOf_74 : decode cX8_costOf 74 = .ok (.goto (-48), 3) := by decide +kernel
theorem dX8_costOf_77 : decode cX8_costOf 77 = .ok (.iload_n 3, 1) := by decide +kernel
theorem dX8_costOf_78 : decode cX8_costOf 78 = .ok (.ireturn, 1) := by decide +kernel
theorem dX8_insertionCost_0 : decode cX8_insertionCost 0 = .ok (.aload_n 0, 1) := by decide +kernel
theorem dX8_insertionCost_1 : decode cX8_insertionCost 1 = .ok (.iload_n 1, 1) := by decide +kernel
theorem dX8_insertionCost_2 : decode cX8_insertionCost 2 = .ok (.iload_n 2, 1) := by decide +kernel
theorem dX8_insertionCost_3 : decode cX8_insertionCost 3 = .ok (.invokevirtual 100, 3) := by decide +kernel
theorem dX8_insertionCost_6 : decode cX8_insertionCost 6 = .ok (.ifCond .ne 5, 3) := by decide +kernel
theorem dX8_insertionCost_9 : decode cX8_insertionCost 9 = .ok (.iconst (-1), 1) := by decide +kernel
theorem dX8_insertionCost_10 : decode cX8_insertionCost 10 = .ok (.ireturn, 1) := by decide +kernel
theorem dX8_insertionCost_11 : decode cX8_insertionCost 11 = .ok (.aload_n 0, 1) := by decide +kernel
theorem dX8_insertionCost_12 : decode cX8_insertionCost 12 = .ok (.iload_n 1, 1) := by decide +kernel
theorem dX8_insertionCost_13 : decode cX8_insertionCost 13 = .ok (.iload_n 2, 1) := by decide +kernel
theorem dX8_insertionCost_14 : decode cX8_insertionCost 14 = .ok (.invokevirtual 255, 3) := by decide +kernel
theorem dX8_insertionCost_17 : decode cX8_insertionCost 17 = .ok (.ifCond .eq 8, 3) := by decide +kernel
theorem dX8_insertionCost_20 : decode cX8_insertionCost 20 = .ok (.bipush (-2), 2) := by decide +kernel
theorem dX8_insertionCost_22 : decode cX8_insertionCost 22 = .ok (.goto 9, 3) := by decide +kernel
theorem dX8_insertionCost_25 : decode cX8_insertionCost 25 = .ok (.aload_n 0, 1) := by decide +kernel
theorem dX8_insertionCost_26 : decode cX8_insertionCost 26 = .ok (.iload_n 1, 1) := by decide +kernel
theorem dX8_insertionCost_27 : decode cX8_insertionCost 27 = .ok (.iload_n 2, 1) := by decide +kernel
theorem dX8_insertionCost_28 : decode cX8_insertionCost 28 = .ok (.invokevirtual 258, 3) := by decide +kernel
theorem dX8_insertionCost_31 : decode cX8_insertionCost 31 = .ok (.ireturn, 1) := by decide +kernel
theorem dX8_crossed_0 : decode cX8_crossed 0 = .ok (.aload_n 0, 1) := by decide +kernel
theorem dX8_crossed_1 : decode cX8_crossed 1 = .ok (.iload_n 1, 1) := by decide +kernel
theorem dX8_crossed_2 : decode cX8_crossed 2 = .ok (.iload_n 2, 1) := by decide +kernel
theorem dX8_crossed_3 : decode cX8_crossed 3 = .ok (.invokevirtual 100, 3) := by decide +kernel
theorem dX8_crossed_6 : decode cX8_crossed 6 = .ok (.ifCond .eq 7, 3) := by decide +kernel
theorem dX8_crossed_9 : decode cX8_crossed 9 = .ok (.iload_n 3, 1) := by decide +kernel
theorem dX8_crossed_10 : decode cX8_crossed 10 = .ok (.ifCond .ge 5, 3) := by decide +kernel
theorem dX8_crossed_13 : decode cX8_crossed 13 = .ok (.iconst (-1), 1) := by decide +kernel
theorem dX8_crossed_14 : decode cX8_crossed 14 = .ok (.ireturn, 1) := by decide +kernel
theorem dX8_crossed_15 : decode cX8_crossed 15 = .ok (.aload_n 0, 1) := by decide +kernel
theorem dX8_crossed_16 : decode cX8_crossed 16 = .ok (.iload_n 1, 1) := by decide +kernel
theorem dX8_crossed_17 : decode cX8_crossed 17 = .ok (.iload_n 2, 1) := by decide +kernel
theorem dX8_crossed_18 : decode cX8_crossed 18 = .ok (.invokevirtual 255, 3) := by decide +kernel
theorem dX8_crossed_21 : decode cX8_crossed 21 = .ok (.ifCond .eq 6, 3) := by decide +kernel
theorem dX8_crossed_24 : decode cX8_crossed 24 = .ok (.bipush (-2), 2) := by decide +kernel
theorem dX8_crossed_26 : decode cX8_crossed 26 = .ok (.ireturn, 1) := by decide +kernel
theorem dX8_crossed_27 : decode cX8_crossed 27 = .ok (.aload_n 0, 1) := by decide +kernel
theorem dX8_crossed_28 : decode cX8_crossed 28 = .ok (.iload_n 1, 1) := by decide +kernel
theorem dX8_crossed_29 : decode cX8_crossed 29 = .ok (.iload_n 2, 1) := by decide +kernel
theorem dX8_crossed_30 : decode cX8_crossed 30 = .ok (.invokevirtual 258, 3) := by decide +kernel
theorem dX8_crossed_33 : decode cX8_crossed 33 = .ok (.istore 4, 2) := by decide +kernel
theorem dX8_crossed_35 : decode cX8_crossed 35 = .ok (.iload_n 3, 1) := by decide +kernel
theorem dX8_crossed_36 : decode cX8_crossed 36 = .ok (.iload 4, 2) := by decide +kernel
theorem dX8_crossed_38 : decode cX8_crossed 38 = .ok (.if_icmp .lt 6, 3) := by decide +kernel
theorem dX8_crossed_41 : decode cX8_crossed 41 = .ok (.bipush (-9), 2) := by decide +kernel
theorem dX8_crossed_43 : decode cX8_crossed 43 = .ok (.ireturn, 1) := by decide +kernel
theorem dX8_crossed_44 : decode cX8_crossed 44 = .ok (.lconst 0, 1) := by decide +kernel
theorem dX8_crossed_45 : decode cX8_crossed 45 = .ok (.lstore 5, 2) := by decide +kernel
theorem dX8_crossed_47 : decode cX8_crossed 47 = .ok (.iconst 0, 1) := by decide +kernel
theorem dX8_crossed_48 : decode cX8_crossed 48 = .ok (.istore 7, 2) := by decide +kernel
theorem dX8_crossed_50 : decode cX8_crossed 50 = .ok (.iload 7, 2) := by decide +kernel
theorem dX8_crossed_52 : decode cX8_crossed 52 = .ok (.aload_n 0, 1) := by decide +kernel
theorem dX8_crossed_53 : decode cX8_crossed 53 = .ok (.getfield 120, 3) := by decide +kernel
theorem dX8_crossed_56 : decode cX8_crossed 56 = .ok (.if_icmp .ge 47, 3) := by decide +kernel
theorem dX8_crossed_59 : decode cX8_crossed 59 = .ok (.lload 5, 2) := by decide +kernel
theorem dX8_crossed_61 : decode cX8_crossed 61 = .ok (.aload_n 0, 1) := by decide +kernel
theorem dX8_crossed_62 : decode cX8_crossed 62 = .ok (.iload 7, 2) := by decide +kernel
theorem dX8_crossed_64 : decode cX8_crossed 64 = .ok (.invokevirtual 140, 3) := by decide +kernel
theorem dX8_crossed_67 : decode cX8_crossed 67 = .ok (.iload_n 1, 1) := by decide +kernel
theorem dX8_crossed_68 : decode cX8_crossed 68 = .ok (.invokestatic 166, 3) := by decide +kernel
theorem dX8_crossed_71 : decode cX8_crossed 71 = .ok (.ifCond .eq 22, 3) := by decide +kernel
theorem dX8_crossed_74 : decode cX8_crossed 74 = .ok (.aload_n 0, 1) := by decide +kernel
theorem dX8_crossed_75 : decode cX8_crossed 75 = .ok (.getfield 56, 3) := by decide +kernel
theorem dX8_crossed_78 : decode cX8_crossed 78 = .ok (.iload 7, 2) := by decide +kernel
theorem dX8_crossed_80 : decode cX8_crossed 80 = .ok (.iaload, 1) := by decide +kernel
theorem dX8_crossed_81 : decode cX8_crossed 81 = .ok (.iload 4, 2) := by decide +kernel
theorem dX8_crossed_83 : decode cX8_crossed 83 = .ok (.if_icmp .ne 10, 3) := by decide +kernel
theorem dX8_crossed_86 : decode cX8_crossed 86 = .ok (.lconst 1, 1) := by decide +kernel
theorem dX8_crossed_87 : decode cX8_crossed 87 = .ok (.iload 7, 2) := by decide +kernel
theorem dX8_crossed_89 : decode cX8_crossed 89 = .ok (.lshl, 1) := by decide +kernel
theorem dX8_crossed_90 : decode cX8_crossed 90 = .ok (.goto 4, 3) := by decide +kernel
theorem dX8_crossed_93 : decode cX8_crossed 93 = .ok (.lconst 0, 1) := by decide +kernel
theorem dX8_crossed_94 : decode cX8_crossed 94 = .ok (.lor, 1) := by decide +kernel
theorem dX8_crossed_95 : decode cX8_crossed 95 = .ok (.lstore 5, 2) := by decide +kernel
theorem dX8_crossed_97 : decode cX8_crossed 97 = .ok (.iinc 7 1, 3) := by decide +kernel
theorem dX8_crossed_100 : decode cX8_crossed 100 = .ok (.goto (-50), 3) := by decide +kernel
theorem dX8_crossed_103 : decode cX8_crossed 103 = .ok (.bipush (-9), 2) := by decide +kernel
theorem dX8_crossed_105 : decode cX8_crossed 105 = .ok (.istore 7, 2) := by decide +kernel
theorem dX8_crossed_107 : decode cX8_crossed 107 = .ok (.iconst 0, 1) := by decide +kernel
theorem dX8_crossed_108 : decode cX8_crossed 108 = .ok (.istore 8, 2) := by decide +kernel
theorem dX8_crossed_110 : decode cX8_crossed 110 = .ok (.iload 8, 2) := by decide +kernel
theorem dX8_crossed_112 : decode cX8_crossed 112 = .ok (.iload_n 3, 1) := by decide +kernel
theorem dX8_crossed_113 : decode cX8_crossed 113 = .ok (.if_icmp .gt 164, 3) := by decide +kernel
theorem dX8_crossed_116 : decode cX8_crossed 116 = .ok (.iinc 4 (-1), 3) := by decide +kernel
theorem dX8_crossed_119 : decode cX8_crossed 119 = .ok (.lconst 0, 1) := by decide +kernel
theorem dX8_crossed_120 : decode cX8_crossed 120 = .ok (.lstore 9, 2) := by decide +kernel
theorem dX8_crossed_122 : decode cX8_crossed 122 = .ok (.bipush (-9), 2) := by decide +kernel
theorem dX8_crossed_124 : decode cX8_crossed 124 = .ok (.istore 7, 2) := by decide +kernel
theorem dX8_crossed_126 : decode cX8_crossed 126 = .ok (.iconst 0, 1) := by decide +kernel
theorem dX8_crossed_127 : decode cX8_crossed 127 = .ok (.istore 11, 2) := by decide +kernel
theorem dX8_crossed_129 : decode cX8_crossed 129 = .ok (.iload 11, 2) := by decide +kernel
theorem dX8_crossed_131 : decode cX8_crossed 131 = .ok (.aload_n 0, 1) := by decide +kernel
theorem dX8_crossed_132 : decode cX8_crossed 132 = .ok (.getfield 7, 3) := by decide +kernel
theorem dX8_crossed_135 : decode cX8_crossed 135 = .ok (.iconst 1, 1) := by decide +kernel
theorem dX8_crossed_136 : decode cX8_crossed 136 = .ok (.iaload, 1) := by decide +kernel
theorem dX8_crossed_137 : decode cX8_crossed 137 = .ok (.if_icmp .ge 130, 3) := by decide +kernel
theorem dX8_crossed_140 : decode cX8_crossed 140 = .ok (.iload 7, 2) := by decide +kernel
theorem dX8_crossed_142 : decode cX8_crossed 142 = .ok (.bipush (-9), 2) := by decide +kernel
theorem dX8_crossed_144 : decode cX8_crossed 144 = .ok (.if_icmp .ne 123, 3) := by decide +kernel
theorem dX8_crossed_147 : decode cX8_crossed 147 = .ok (.aload_n 0, 1) := by decide +kernel
theorem dX8_crossed_148 : decode cX8_crossed 148 = .ok (.getfield 20, 3) := by decide +kernel
theorem dX8_crossed_151 : decode cX8_crossed 151 = .ok (.iconst 2, 1) := by decide +kernel
theorem dX8_crossed_152 : decode cX8_crossed 152 = .ok (.iload 11, 2) := by decide +kernel
theorem dX8_crossed_154 : decode cX8_crossed 154 = .ok (.imul, 1) := by decide +kernel
theorem dX8_crossed_155 : decode cX8_crossed 155 = .ok (.iaload, 1) := by decide +kernel
theorem dX8_crossed_156 : decode cX8_crossed 156 = .ok (.istore 12, 2) := by decide +kernel
theorem dX8_crossed_158 : decode cX8_crossed 158 = .ok (.aload_n 0, 1) := by decide +kernel
theorem dX8_crossed_159 : decode cX8_crossed 159 = .ok (.getfield 20, 3) := by decide +kernel
theorem dX8_crossed_162 : decode cX8_crossed 162 = .ok (.iconst 2, 1) := by decide +kernel
theorem dX8_crossed_163 : decode cX8_crossed 163 = .ok (.iload 11, 2) := by decide +kernel
theorem dX8_crossed_165 : decode cX8_crossed 165 = .ok (.imul, 1) := by decide +kernel
theorem dX8_crossed_166 : decode cX8_crossed 166 = .ok (.iconst 1, 1) := by decide +kernel
theorem dX8_crossed_167 : decode cX8_crossed 167 = .ok (.iadd, 1) := by decide +kernel
theorem dX8_crossed_168 : decode cX8_crossed 168 = .ok (.iaload, 1) := by decide +kernel
theorem dX8_crossed_169 : decode cX8_crossed 169 = .ok (.istore 13, 2) := by decide +kernel
theorem dX8_crossed_171 : decode cX8_crossed 171 = .ok (.lload 9, 2) := by decide +kernel
theorem dX8_crossed_173 : decode cX8_crossed 173 = .ok (.lload 5, 2) := by decide +kernel
theorem dX8_crossed_175 : decode cX8_crossed 175 = .ok (.iload 12, 2) := by decide +kernel
theorem dX8_crossed_177 : decode cX8_crossed 177 = .ok (.lshr, 1) := by decide +kernel
theorem dX8_crossed_178 : decode cX8_crossed 178 = .ok (.lconst 1, 1) := by decide +kernel
theorem dX8_crossed_179 : decode cX8_crossed 179 = .ok (.land, 1) := by decide +kernel
theorem dX8_crossed_180 : decode cX8_crossed 180 = .ok (.lconst 1, 1) := by decide +kernel
theorem dX8_crossed_181 : decode cX8_crossed 181 = .ok (.lcmp, 1) := by decide +kernel
theorem dX8_crossed_182 : decode cX8_crossed 182 = .ok (.ifCond .ne 22, 3) := by decide +kernel
theorem dX8_crossed_185 : decode cX8_crossed 185 = .ok (.aload_n 0, 1) := by decide +kernel
theorem dX8_crossed_186 : decode cX8_crossed 186 = .ok (.getfield 56, 3) := by decide +kernel
theorem dX8_crossed_189 : decode cX8_crossed 189 = .ok (.iload 13, 2) := by decide +kernel
theorem dX8_crossed_191 : decode cX8_crossed 191 = .ok (.iaload, 1) := by decide +kernel
theorem dX8_crossed_192 : decode cX8_crossed 192 = .ok (.iload 4, 2) := by decide +kernel
theorem dX8_crossed_194 : decode cX8_crossed 194 = .ok (.if_icmp .ne 10, 3) := by decide +kernel
theorem dX8_crossed_197 : decode cX8_crossed 197 = .ok (.lconst 1, 1) := by decide +kernel
theorem dX8_crossed_198 : decode cX8_crossed 198 = .ok (.iload 13, 2) := by decide +kernel
theorem dX8_crossed_200 : decode cX8_crossed 200 = .ok (.lshl, 1) := by decide +kernel
theorem dX8_crossed_201 : decode cX8_crossed 201 = .ok (.goto 4, 3) := by decide +kernel
theorem dX8_crossed_204 : decode cX8_crossed 204 = .ok (.lconst 0, 1) := by decide +kernel
theorem dX8_crossed_205 : decode cX8_crossed 205 = .ok (.lor, 1) := by decide +kernel
theorem dX8_crossed_206 : decode cX8_crossed 206 = .ok (.lstore 9, 2) := by decide +kernel
theorem dX8_crossed_208 : decode cX8_crossed 208 = .ok (.lload 9, 2) := by decide +kernel
theorem dX8_crossed_210 : decode cX8_crossed 210 = .ok (.lload 5, 2) := by decide +kernel
theorem dX8_crossed_212 : decode cX8_crossed 212 = .ok (.iload 13, 2) := by decide +kernel
theorem dX8_crossed_214 : decode cX8_crossed 214 = .ok (.lshr, 1) := by decide +kernel
theorem dX8_crossed_215 : decode cX8_crossed 215 = .ok (.lconst 1, 1) := by decide +kernel
theorem dX8_crossed_216 : decode cX8_crossed 216 = .ok (.land, 1) := by decide +kernel
theorem dX8_crossed_217 : decode cX8_crossed 217 = .ok (.lconst 1, 1) := by decide +kernel
theorem dX8_crossed_218 : decode cX8_crossed 218 = .ok (.lcmp, 1) := by decide +kernel
theorem dX8_crossed_219 : decode cX8_crossed 219 = .ok (.ifCond .ne 22, 3) := by decide +kernel
theorem dX8_crossed_222 : decode cX8_crossed 222 = .ok (.aload_n 0, 1) := by decide +kernel
theorem dX8_crossed_223 : decode cX8_crossed 223 = .ok (.getfield 56, 3) := by decide +kernel
theorem dX8_crossed_226 : decode cX8_crossed 226 = .ok (.iload 12, 2) := by decide +kernel
theorem dX8_crossed_228 : decode cX8_crossed 228 = .ok (.iaload, 1) := by decide +kernel
theorem dX8_crossed_229 : decode cX8_crossed 229 = .ok (.iload 4, 2) := by decide +kernel
theorem dX8_crossed_231 : decode cX8_crossed 231 = .ok (.if_icmp .ne 10, 3) := by decide +kernel
theorem dX8_crossed_234 : decode cX8_crossed 234 = .ok (.lconst 1, 1) := by decide +kernel
theorem dX8_crossed_235 : decode cX8_crossed 235 = .ok (.iload 12, 2) := by decide +kernel
theorem dX8_crossed_237 : decode cX8_crossed 237 = .ok (.lshl, 1) := by decide +kernel
theorem dX8_crossed_238 : decode cX8_crossed 238 = .ok (.goto 4, 3) := by decide +kernel
theorem dX8_crossed_241 : decode cX8_crossed 241 = .ok (.lconst 0, 1) := by decide +kernel
theorem dX8_crossed_242 : decode cX8_crossed 242 = .ok (.lor, 1) := by decide +kernel
theorem dX8_crossed_243 : decode cX8_crossed 243 = .ok (.lstore 9, 2) := by decide +kernel
theorem dX8_crossed_245 : decode cX8_crossed 245 = .ok (.lload 9, 2) := by decide +kernel
theorem dX8_crossed_247 : decode cX8_crossed 247 = .ok (.lconst 0, 1) := by decide +kernel
theorem dX8_crossed_248 : decode cX8_crossed 248 = .ok (.lcmp, 1) := by decide +kernel
theorem dX8_crossed_249 : decode cX8_crossed 249 = .ok (.ifCond .eq 8, 3) := by decide +kernel
theorem dX8_crossed_252 : decode cX8_crossed 252 = .ok (.iload 11, 2) := by decide +kernel
theorem dX8_crossed_254 : decode cX8_crossed 254 = .ok (.goto 5, 3) := by decide +kernel
theorem dX8_crossed_257 : decode cX8_crossed 257 = .ok (.bipush (-9), 2) := by decide +kernel
theorem dX8_crossed_259 : decode cX8_crossed 259 = .ok (.istore 7, 2) := by decide +kernel
theorem dX8_crossed_261 : decode cX8_crossed 261 = .ok (.iinc 11 1, 3) := by decide +kernel
theorem dX8_crossed_264 : decode cX8_crossed 264 = .ok (.goto (-135), 3) := by decide +kernel
theorem dX8_crossed_267 : decode cX8_crossed 267 = .ok (.lload 9, 2) := by decide +kernel
theorem dX8_crossed_269 : decode cX8_crossed 269 = .ok (.lstore 5, 2) := by decide +kernel
theorem dX8_crossed_271 : decode cX8_crossed 271 = .ok (.iinc 8 1, 3) := by decide +kernel
theorem dX8_crossed_274 : decode cX8_crossed 274 = .ok (.goto (-164), 3) := by decide +kernel
theorem dX8_crossed_277 : decode cX8_crossed 277 = .ok (.iload 7, 2) := by decide +kernel
theorem dX8_crossed_279 : decode cX8_crossed 279 = .ok (.ireturn, 1) := by decide +kernel
theorem dX8_setOuter_0 : decode cX8_setOuter 0 = .ok (.aload_n 0, 1) := by decide +kernel
theorem dX8_setOuter_1 : decode cX8_setOuter 1 = .ok (.invokevirtual 117, 3) := by decide +kernel
theorem dX8_setOuter_4 : decode cX8_setOuter 4 = .ok (.iload_n 1, 1) := by decide +kernel
theorem dX8_setOuter_5 : decode cX8_setOuter 5 = .ok (.iconst 0, 1) := by decide +kernel
theorem dX8_setOuter_6 : decode cX8_setOuter 6 = .ok (.aload_n 0, 1) := by decide +kernel
theorem dX8_setOuter_7 : decode cX8_setOuter 7 = .ok (.getfield 120, 3) := by decide +kernel
theorem dX8_setOuter_10 : decode cX8_setOuter 10 = .ok (.iconst 1, 1) := by decide +kernel
theorem dX8_setOuter_11 : decode cX8_setOuter 11 = .ok (.isub, 1) := by decide +kernel
theorem dX8_setOuter_12 : decode cX8_setOuter 12 = .ok (.invokestatic 70, 3) := by decide +kernel
theorem dX8_setOuter_15 : decode cX8_setOuter 15 = .ok (.ifCond .ne 5, 3) := by decide +kernel
theorem dX8_setOuter_18 : decode cX8_setOuter 18 = .ok (.iconst (-1), 1) := by decide +kernel
theorem dX8_setOuter_19 : decode cX8_setOuter 19 = .ok (.ireturn, 1) := by decide +kernel
theorem dX8_setOuter_20 : decode cX8_setOuter 20 = .ok (.aload_n 0, 1) := by decide +kernel
theorem dX8_setOuter_21 : decode cX8_setOuter 21 = .ok (.invokevirtual 90, 3) := by decide +kernel
theorem dX8_setOuter_24 : decode cX8_setOuter 24 = .ok (.aload_n 0, 1) := by decide +kernel
theorem dX8_setOuter_25 : decode cX8_setOuter 25 = .ok (.getfield 7, 3) := by decide +kernel
theorem dX8_setOuter_28 : decode cX8_setOuter 28 = .ok (.iconst 2, 1) := by decide +kernel
theorem dX8_setOuter_29 : decode cX8_setOuter 29 = .ok (.iaload, 1) := by decide +kernel
theorem dX8_setOuter_30 : decode cX8_setOuter 30 = .ok (.istore_n 2, 1) := by decide +kernel
theorem dX8_setOuter_31 : decode cX8_setOuter 31 = .ok (.aload_n 0, 1) := by decide +kernel
theorem dX8_setOuter_32 : decode cX8_setOuter 32 = .ok (.getfield 7, 3) := by decide +kernel
theorem dX8_setOuter_35 : decode cX8_setOuter 35 = .ok (.iconst 2, 1) := by decide +kernel
theorem dX8_setOuter_36 : decode cX8_setOuter 36 = .ok (.iload_n 1, 1) := by decide +kernel
theorem dX8_setOuter_37 : decode cX8_setOuter 37 = .ok (.iastore, 1) := by decide +kernel
theorem dX8_setOuter_38 : decode cX8_setOuter 38 = .ok (.iload_n 2, 1) := by decide +kernel
theorem dX8_setOuter_39 : decode cX8_setOuter 39 = .ok (.ireturn, 1) := by decide +kernel
theorem dX8_depth_0 : decode cX8_depth 0 = .ok (.aload_n 0, 1) := by decide +kernel
theorem dX8_depth_1 : decode cX8_depth 1 = .ok (.iload_n 1, 1) := by decide +kernel
theorem dX8_depth_2 : decode cX8_depth 2 = .ok (.invokevirtual 97, 3) := by decide +kernel
theorem dX8_depth_5 : decode cX8_depth 5 = .ok (.ifCond .ne 5, 3) := by decide +kernel
theorem dX8_depth_8 : decode cX8_depth 8 = .ok (.iconst (-1), 1) := by decide +kernel
theorem dX8_depth_9 : decode cX8_depth 9 = .ok (.ireturn, 1) := by decide +kernel
theorem dX8_depth_10 : decode cX8_depth 10 = .ok (.aload_n 0, 1) := by decide +kernel
theorem dX8_depth_11 : decode cX8_depth 11 = .ok (.invokevirtual 117, 3) := by decide +kernel
theorem dX8_depth_14 : decode cX8_depth 14 = .ok (.aload_n 0, 1) := by decide +kernel
theorem dX8_depth_15 : decode cX8_depth 15 = .ok (.getfield 120, 3) := by decide +kernel
theorem dX8_depth_18 : decode cX8_depth 18 = .ok (.ifCond .ne 7, 3) := by decide +kernel
theorem dX8_depth_21 : decode cX8_depth 21 = .ok (.iconst 0, 1) := by decide +kernel
theorem dX8_depth_22 : decode cX8_depth 22 = .ok (.goto 13, 3) := by decide +kernel
theorem dX8_depth_25 : decode cX8_depth 25 = .ok (.aload_n 0, 1) := by decide +kernel
theorem dX8_depth_26 : decode cX8_depth 26 = .ok (.aload_n 0, 1) := by decide +kernel
theorem dX8_depth_27 : decode cX8_depth 27 = .ok (.getfield 7, 3) := by decide +kernel
theorem dX8_depth_30 : decode cX8_depth 30 = .ok (.iconst 2, 1) := by decide +kernel
theorem dX8_depth_31 : decode cX8_depth 31 = .ok (.iaload, 1) := by decide +kernel
theorem dX8_depth_32 : decode cX8_depth 32 = .ok (.invokevirtual 140, 3) := by decide +kernel
theorem dX8_depth_35 : decode cX8_depth 35 = .ok (.istore_n 2, 1) := by decide +kernel
theorem dX8_depth_36 : decode cX8_depth 36 = .ok (.iconst 0, 1) := by decide +kernel
theorem dX8_depth_37 : decode cX8_depth 37 = .ok (.istore_n 3, 1) := by decide +kernel
theorem dX8_depth_38 : decode cX8_depth 38 = .ok (.iload_n 3, 1) := by decide +kernel
theorem dX8_depth_39 : decode cX8_depth 39 = .ok (.aload_n 0, 1) := by decide +kernel
theorem dX8_depth_40 : decode cX8_depth 40 = .ok (.getfield 7, 3) := by decide +kernel
theorem dX8_depth_43 : decode cX8_depth 43 = .ok (.iconst 0, 1) := by decide +kernel
theorem dX8_depth_44 : decode cX8_depth 44 = .ok (.iaload, 1) := by decide +kernel
theorem dX8_depth_45 : decode cX8_depth 45 = .ok (.if_icmp .ge 69, 3) := by decide +kernel
theorem dX8_depth_48 : decode cX8_depth 48 = .ok (.iload_n 2, 1) := by decide +kernel
theorem dX8_depth_49 : decode cX8_depth 49 = .ok (.iload_n 1, 1) := by decide +kernel
theorem dX8_depth_50 : decode cX8_depth 50 = .ok (.invokestatic 166, 3) := by decide +kernel
theorem dX8_depth_53 : decode cX8_depth 53 = .ok (.ifCond .eq 5, 3) := by decide +kernel
theorem dX8_depth_56 : decode cX8_depth 56 = .ok (.iload_n 3, 1) := by decide +kernel
theorem dX8_depth_57 : decode cX8_depth 57 = .ok (.ireturn, 1) := by decide +kernel
theorem dX8_depth_58 : decode cX8_depth 58 = .ok (.iload_n 2, 1) := by decide +kernel
theorem dX8_depth_59 : decode cX8_depth 59 = .ok (.istore 4, 2) := by decide +kernel
theorem dX8_depth_61 : decode cX8_depth 61 = .ok (.iconst 0, 1) := by decide +kernel
theorem dX8_depth_62 : decode cX8_depth 62 = .ok (.istore 5, 2) := by decide +kernel
theorem dX8_depth_64 : decode cX8_depth 64 = .ok (.iload 5, 2) := by decide +kernel
theorem dX8_depth_66 : decode cX8_depth 66 = .ok (.aload_n 0, 1) := by decide +kernel
theorem dX8_depth_67 : decode cX8_depth 67 = .ok (.getfield 120, 3) := by decide +kernel
theorem dX8_depth_70 : decode cX8_depth 70 = .ok (.if_icmp .ge 35, 3) := by decide +kernel
theorem dX8_depth_73 : decode cX8_depth 73 = .ok (.iload 4, 2) := by decide +kernel
theorem dX8_depth_75 : decode cX8_depth 75 = .ok (.aload_n 0, 1) := by decide +kernel
theorem dX8_depth_76 : decode cX8_depth 76 = .ok (.iload 5, 2) := by decide +kernel
theorem dX8_depth_78 : decode cX8_depth 78 = .ok (.invokevirtual 140, 3) := by decide +kernel
theorem dX8_depth_81 : decode cX8_depth 81 = .ok (.iload_n 2, 1) := by decide +kernel
theorem dX8_depth_82 : decode cX8_depth 82 = .ok (.iand, 1) := by decide +kernel
theorem dX8_depth_83 : decode cX8_depth 83 = .ok (.ifCond .eq 12, 3) := by decide +kernel
theorem dX8_depth_86 : decode cX8_depth 86 = .ok (.aload_n 0, 1) := by decide +kernel
theorem dX8_depth_87 : decode cX8_depth 87 = .ok (.iload 5, 2) := by decide +kernel
theorem dX8_depth_89 : decode cX8_depth 89 = .ok (.invokevirtual 140, 3) := by decide +kernel
theorem dX8_depth_92 : decode cX8_depth 92 = .ok (.goto 4, 3) := by decide +kernel
theorem dX8_depth_95 : decode cX8_depth 95 = .ok (.iconst 0, 1) := by decide +kernel
theorem dX8_depth_96 : decode cX8_depth 96 = .ok (.ior, 1) := by decide +kernel
theorem dX8_depth_97 : decode cX8_depth 97 = .ok (.istore 4, 2) := by decide +kernel
theorem dX8_depth_99 : decode cX8_depth 99 = .ok (.iinc 5 1, 3) := by decide +kernel
theorem dX8_depth_102 : decode cX8_depth 102 = .ok (.goto (-38), 3) := by decide +kernel
theorem dX8_depth_105 : decode cX8_depth 105 = .ok (.iload 4, 2) := by decide +kernel
theorem dX8_depth_107 : decode cX8_depth 107 = .ok (.istore_n 2, 1) := by decide +kernel
theorem dX8_depth_108 : decode cX8_depth 108 = .ok (.iinc 3 1, 3) := by decide +kernel
theorem dX8_depth_111 : decode cX8_depth 111 = .ok (.goto (-73), 3) := by decide +kernel
theorem dX8_depth_114 : decode cX8_depth 114 = .ok (.bipush (-9), 2) := by decide +kernel
theorem dX8_depth_116 : decode cX8_depth 116 = .ok (.ireturn, 1) := by decide +kernel
theorem dX8_relaxes_0 : decode cX8_relaxes 0 = .ok (.aload_n 0, 1) := by decide +kernel
theorem dX8_relaxes_1 : decode cX8_relaxes 1 = .ok (.invokevirtual 117, 3) := by decide +kernel
theorem dX8_relaxes_4 : decode cX8_relaxes 4 = .ok (.iconst 0, 1) := by decide +kernel
theorem dX8_relaxes_5 : decode cX8_relaxes 5 = .ok (.istore_n 2, 1) := by decide +kernel
theorem dX8_relaxes_6 : decode cX8_relaxes 6 = .ok (.iconst 0, 1) := by decide +kernel
theorem dX8_relaxes_7 : decode cX8_relaxes 7 = .ok (.istore_n 3, 1) := by decide +kernel
theorem dX8_relaxes_8 : decode cX8_relaxes 8 = .ok (.iconst 0, 1) := by decide +kernel
theorem dX8_relaxes_9 : decode cX8_relaxes 9 = .ok (.istore 4, 2) := by decide +kernel
theorem dX8_relaxes_11 : decode cX8_relaxes 11 = .ok (.iload 4, 2) := by decide +kernel
theorem dX8_relaxes_13 : decode cX8_relaxes 13 = .ok (.bipush 9, 2) := by decide +kernel
theorem dX8_relaxes_15 : decode cX8_relaxes 15 = .ok (.if_icmp .ge 25, 3) := by decide +kernel
theorem dX8_relaxes_18 : decode cX8_relaxes 18 = .ok (.aload_n 0, 1) := by decide +kernel
theorem dX8_relaxes_19 : decode cX8_relaxes 19 = .ok (.getfield 59, 3) := by decide +kernel
theorem dX8_relaxes_22 : decode cX8_relaxes 22 = .ok (.iload 4, 2) := by decide +kernel
theorem dX8_relaxes_24 : decode cX8_relaxes 24 = .ok (.fconst 0, 1) := by decide +kernel
theorem dX8_relaxes_25 : decode cX8_relaxes 25 = .ok (.fastore, 1) := by decide +kernel
theorem dX8_relaxes_26 : decode cX8_relaxes 26 = .ok (.aload_n 0, 1) := by decide +kernel
theorem dX8_relaxes_27 : decode cX8_relaxes 27 = .ok (.getfield 63, 3) := by decide +kernel
theorem dX8_relaxes_30 : decode cX8_relaxes 30 = .ok (.iload 4, 2) := by decide +kernel
theorem dX8_relaxes_32 : decode cX8_relaxes 32 = .ok (.fconst 0, 1) := by decide +kernel
theorem dX8_relaxes_33 : decode cX8_relaxes 33 = .ok (.fastore, 1) := by decide +kernel
theorem dX8_relaxes_34 : decode cX8_relaxes 34 = .ok (.iinc 4 1, 3) := by decide +kernel
theorem dX8_relaxes_37 : decode cX8_relaxes 37 = .ok (.goto (-26), 3) := by decide +kernel
theorem dX8_relaxes_40 : decode cX8_relaxes 40 = .ok (.aload_n 0, 1) := by decide +kernel
theorem dX8_relaxes_41 : decode cX8_relaxes 41 = .ok (.getfield 23, 3) := by decide +kernel
theorem dX8_relaxes_44 : decode cX8_relaxes 44 = .ok (.aload_n 0, 1) := by decide +kernel
theorem dX8_relaxes_45 : decode cX8_relaxes 45 = .ok (.getfield 7, 3) := by decide +kernel
theorem dX8_relaxes_48 : decode cX8_relaxes 48 = .ok (.iconst 2, 1) := by decide +kernel
theorem dX8_relaxes_49 : decode cX8_relaxes 49 = .ok (.iaload, 1) := by decide +kernel
theorem dX8_relaxes_50 : decode cX8_relaxes 50 = .ok (.iaload, 1) := by decide +kernel
theorem dX8_relaxes_51 : decode cX8_relaxes 51 = .ok (.istore 4, 2) := by decide +kernel
theorem dX8_relaxes_53 : decode cX8_relaxes 53 = .ok (.iconst 0, 1) := by decide +kernel
theorem dX8_relaxes_54 : decode cX8_relaxes 54 = .ok (.istore 5, 2) := by decide +kernel
theorem dX8_relaxes_56 : decode cX8_relaxes 56 = .ok (.iload 5, 2) := by decide +kernel
theorem dX8_relaxes_58 : decode cX8_relaxes 58 = .ok (.aload_n 0, 1) := by decide +kernel
theorem dX8_relaxes_59 : decode cX8_relaxes 59 = .ok (.aload_n 0, 1) := by decide +kernel
theorem dX8_relaxes_60 : decode cX8_relaxes 60 = .ok (.getfield 7, 3) := by decide +kernel
theorem dX8_relaxes_63 : decode cX8_relaxes 63 = .ok (.iconst 2, 1) := by decide +kernel
theorem dX8_relaxes_64 : decode cX8_relaxes 64 = .ok (.iaload, 1) := by decide +kernel
theorem dX8_relaxes_65 : decode cX8_relaxes 65 = .ok (.invokevirtual 154, 3) := by decide +kernel
theorem dX8_relaxes_68 : decode cX8_relaxes 68 = .ok (.if_icmp .ge 64, 3) := by decide +kernel
theorem dX8_relaxes_71 : decode cX8_relaxes 71 = .ok (.aload_n 0, 1) := by decide +kernel
theorem dX8_relaxes_72 : decode cX8_relaxes 72 = .ok (.iload 4, 2) := by decide +kernel
theorem dX8_relaxes_74 : decode cX8_relaxes 74 = .ok (.invokevirtual 123, 3) := by decide +kernel
theorem dX8_relaxes_77 : decode cX8_relaxes 77 = .ok (.istore 6, 2) := by decide +kernel
theorem dX8_relaxes_79 : decode cX8_relaxes 79 = .ok (.iload_n 2, 1) := by decide +kernel
theorem dX8_relaxes_80 : decode cX8_relaxes 80 = .ok (.iload 6, 2) := by decide +kernel
theorem dX8_relaxes_82 : decode cX8_relaxes 82 = .ok (.invokestatic 166, 3) := by decide +kernel
theorem dX8_relaxes_85 : decode cX8_relaxes 85 = .ok (.ifCond .ne 33, 3) := by decide +kernel
theorem dX8_relaxes_88 : decode cX8_relaxes 88 = .ok (.aload_n 0, 1) := by decide +kernel
theorem dX8_relaxes_89 : decode cX8_relaxes 89 = .ok (.getfield 59, 3) := by decide +kernel
theorem dX8_relaxes_92 : decode cX8_relaxes 92 = .ok (.iload 6, 2) := by decide +kernel
theorem dX8_relaxes_94 : decode cX8_relaxes 94 = .ok (.iload_n 3, 1) := by decide +kernel
theorem dX8_relaxes_95 : decode cX8_relaxes 95 = .ok (.i2f, 1) := by decide +kernel
theorem dX8_relaxes_96 : decode cX8_relaxes 96 = .ok (.fastore, 1) := by decide +kernel
theorem dX8_relaxes_97 : decode cX8_relaxes 97 = .ok (.aload_n 0, 1) := by decide +kernel
theorem dX8_relaxes_98 : decode cX8_relaxes 98 = .ok (.getfield 63, 3) := by decide +kernel
theorem dX8_relaxes_101 : decode cX8_relaxes 101 = .ok (.iload 6, 2) := by decide +kernel
theorem dX8_relaxes_103 : decode cX8_relaxes 103 = .ok (.iload_n 3, 1) := by decide +kernel
theorem dX8_relaxes_104 : decode cX8_relaxes 104 = .ok (.iload_n 3, 1) := by decide +kernel
theorem dX8_relaxes_105 : decode cX8_relaxes 105 = .ok (.imul, 1) := by decide +kernel
theorem dX8_relaxes_106 : decode cX8_relaxes 106 = .ok (.i2f, 1) := by decide +kernel
theorem dX8_relaxes_107 : decode cX8_relaxes 107 = .ok (.fastore, 1) := by decide +kernel
theorem dX8_relaxes_108 : decode cX8_relaxes 108 = .ok (.iload_n 2, 1) := by decide +kernel
theorem dX8_relaxes_109 : decode cX8_relaxes 109 = .ok (.iconst 1, 1) := by decide +kernel
theorem dX8_relaxes_110 : decode cX8_relaxes 110 = .ok (.iload 6, 2) := by decide +kernel
theorem dX8_relaxes_112 : decode cX8_relaxes 112 = .ok (.ishl, 1) := by decide +kernel
theorem dX8_relaxes_113 : decode cX8_relaxes 113 = .ok (.ior, 1) := by decide +kernel
theorem dX8_relaxes_114 : decode cX8_relaxes 114 = .ok (.istore_n 2, 1) := by decide +kernel
theorem dX8_relaxes_115 : decode cX8_relaxes 115 = .ok (.iinc 3 1, 3) := by decide +kernel
theorem dX8_relaxes_118 : decode cX8_relaxes 118 = .ok (.aload_n 0, 1) := by decide +kernel
theorem dX8_relaxes_119 : decode cX8_relaxes 119 = .ok (.iload 4, 2) := by decide +kernel
theorem dX8_relaxes_121 : decode cX8_relaxes 121 = .ok (.invokevirtual 130, 3) := by decide +kernel
theorem dX8_relaxes_124 : decode cX8_relaxes 124 = .ok (.istore 4, 2) := by decide +kernel
theorem dX8_relaxes_126 : decode cX8_relaxes 126 = .ok (.iinc 5 1, 3) := by decide +kernel
theorem dX8_relaxes_129 : decode cX8_relaxes 129 = .ok (.goto (-73), 3) := by decide +kernel
theorem dX8_relaxes_132 : decode cX8_relaxes 132 = .ok (.iconst 0, 1) := by decide +kernel
theorem dX8_relaxes_133 : decode cX8_relaxes 133 = .ok (.istore 5, 2) := by decide +kernel
theorem dX8_relaxes_135 : decode cX8_relaxes 135 = .ok (.iload 5, 2) := by decide +kernel
theorem dX8_relaxes_137 : decode cX8_relaxes 137 = .ok (.iload_n 1, 1) := by decide +kernel
theorem dX8_relaxes_138 : decode cX8_relaxes 138 = .ok (.if_icmp .ge 171, 3) := by decide +kernel
theorem dX8_relaxes_141 : decode cX8_relaxes 141 = .ok (.iconst 0, 1) := by decide +kernel
theorem dX8_relaxes_142 : decode cX8_relaxes 142 = .ok (.istore 6, 2) := by decide +kernel
theorem dX8_relaxes_144 : decode cX8_relaxes 144 = .ok (.iload 6, 2) := by decide +kernel
theorem dX8_relaxes_146 : decode cX8_relaxes 146 = .ok (.aload_n 0, 1) := by decide +kernel
theorem dX8_relaxes_147 : decode cX8_relaxes 147 = .ok (.getfield 7, 3) := by decide +kernel
theorem dX8_relaxes_150 : decode cX8_relaxes 150 = .ok (.iconst 0, 1) := by decide +kernel
theorem dX8_relaxes_151 : decode cX8_relaxes 151 = .ok (.iaload, 1) := by decide +kernel
theorem dX8_relaxes_152 : decode cX8_relaxes 152 = .ok (.if_icmp .ge 151, 3) := by decide +kernel
theorem dX8_relaxes_155 : decode cX8_relaxes 155 = .ok (.iload_n 2, 1) := by decide +kernel
theorem dX8_relaxes_156 : decode cX8_relaxes 156 = .ok (.iload 6, 2) := by decide +kernel
theorem dX8_relaxes_158 : decode cX8_relaxes 158 = .ok (.invokestatic 166, 3) := by decide +kernel
theorem dX8_relaxes_161 : decode cX8_relaxes 161 = .ok (.ifCond .ne 136, 3) := by decide +kernel
theorem dX8_relaxes_164 : decode cX8_relaxes 164 = .ok (.aload_n 0, 1) := by decide +kernel
theorem dX8_relaxes_165 : decode cX8_relaxes 165 = .ok (.getfield 7, 3) := by decide +kernel
theorem dX8_relaxes_168 : decode cX8_relaxes 168 = .ok (.bipush 43, 2) := by decide +kernel
theorem dX8_relaxes_170 : decode cX8_relaxes 170 = .ok (.iload 6, 2) := by decide +kernel
theorem dX8_relaxes_172 : decode cX8_relaxes 172 = .ok (.iadd, 1) := by decide +kernel
theorem dX8_relaxes_173 : decode cX8_relaxes 173 = .ok (.iaload, 1) := by decide +kernel
theorem dX8_relaxes_174 : decode cX8_relaxes 174 = .ok (.ifCond .le 123, 3) := by decide +kernel
theorem dX8_relaxes_177 : decode cX8_relaxes 177 = .ok (.fconst 0, 1) := by decide +kernel
theorem dX8_relaxes_178 : decode cX8_relaxes 178 = .ok (.fstore 7, 2) := by decide +kernel
theorem dX8_relaxes_180 : decode cX8_relaxes 180 = .ok (.fconst 0, 1) := by decide +kernel
theorem dX8_relaxes_181 : decode cX8_relaxes 181 = .ok (.fstore 8, 2) := by decide +kernel
theorem dX8_relaxes_183 : decode cX8_relaxes 183 = .ok (.iconst 0, 1) := by decide +kernel
theorem dX8_relaxes_184 : decode cX8_relaxes 184 = .ok (.istore 9, 2) := by decide +kernel
theorem dX8_relaxes_186 : decode cX8_relaxes 186 = .ok (.iload 9, 2) := by decide +kernel
theorem dX8_relaxes_188 : decode cX8_relaxes 188 = .ok (.aload_n 0, 1) := by decide +kernel
theorem dX8_relaxes_189 : decode cX8_relaxes 189 = .ok (.getfield 7, 3) := by decide +kernel
theorem dX8_relaxes_192 : decode cX8_relaxes 192 = .ok (.bipush 43, 2) := by decide +kernel
theorem dX8_relaxes_194 : decode cX8_relaxes 194 = .ok (.iload 6, 2) := by decide +kernel
theorem dX8_relaxes_196 : decode cX8_relaxes 196 = .ok (.iadd, 1) := by decide +kernel
theorem dX8_relaxes_197 : decode cX8_relaxes 197 = .ok (.iaload, 1) := by decide +kernel
theorem dX8_relaxes_198 : decode cX8_relaxes 198 = .ok (.if_icmp .ge 57, 3) := by decide +kernel
theorem dX8_relaxes_201 : decode cX8_relaxes 201 = .ok (.fload 7, 2) := by decide +kernel
theorem dX8_relaxes_203 : decode cX8_relaxes 203 = .ok (.aload_n 0, 1) := by decide +kernel
theorem dX8_relaxes_204 : decode cX8_relaxes 204 = .ok (.getfield 59, 3) := by decide +kernel
theorem dX8_relaxes_207 : decode cX8_relaxes 207 = .ok (.aload_n 0, 1) := by decide +kernel
theorem dX8_relaxes_208 : decode cX8_relaxes 208 = .ok (.aload_n 0, 1) := by decide +kernel
theorem dX8_relaxes_209 : decode cX8_relaxes 209 = .ok (.iload 6, 2) := by decide +kernel
theorem dX8_relaxes_211 : decode cX8_relaxes 211 = .ok (.iload 9, 2) := by decide +kernel
theorem dX8_relaxes_213 : decode cX8_relaxes 213 = .ok (.invokevirtual 78, 3) := by decide +kernel
theorem dX8_relaxes_216 : decode cX8_relaxes 216 = .ok (.iload 6, 2) := by decide +kernel
theorem dX8_relaxes_218 : decode cX8_relaxes 218 = .ok (.invokevirtual 127, 3) := by decide +kernel
theorem dX8_relaxes_221 : decode cX8_relaxes 221 = .ok (.faload, 1) := by decide +kernel
theorem dX8_relaxes_222 : decode cX8_relaxes 222 = .ok (.fadd, 1) := by decide +kernel
theorem dX8_relaxes_223 : decode cX8_relaxes 223 = .ok (.fstore 7, 2) := by decide +kernel
theorem dX8_relaxes_225 : decode cX8_relaxes 225 = .ok (.fload 8, 2) := by decide +kernel
theorem dX8_relaxes_227 : decode cX8_relaxes 227 = .ok (.aload_n 0, 1) := by decide +kernel
theorem dX8_relaxes_228 : decode cX8_relaxes 228 = .ok (.getfield 63, 3) := by decide +kernel
theorem dX8_relaxes_231 : decode cX8_relaxes 231 = .ok (.aload_n 0, 1) := by decide +kernel
theorem dX8_relaxes_232 : decode cX8_relaxes 232 = .ok (.aload_n 0, 1) := by decide +kernel
theorem dX8_relaxes_233 : decode cX8_relaxes 233 = .ok (.iload 6, 2) := by decide +kernel
theorem dX8_relaxes_235 : decode cX8_relaxes 235 = .ok (.iload 9, 2) := by decide +kernel
theorem dX8_relaxes_237 : decode cX8_relaxes 237 = .ok (.invokevirtual 78, 3) := by decide +kernel
theorem dX8_relaxes_240 : decode cX8_relaxes 240 = .ok (.iload 6, 2) := by decide +kernel
theorem dX8_relaxes_242 : decode cX8_relaxes 242 = .ok (.invokevirtual 127, 3) := by decide +kernel
theorem dX8_relaxes_245 : decode cX8_relaxes 245 = .ok (.faload, 1) := by decide +kernel
theorem dX8_relaxes_246 : decode cX8_relaxes 246 = .ok (.fadd, 1) := by decide +kernel
theorem dX8_relaxes_247 : decode cX8_relaxes 247 = .ok (.fstore 8, 2) := by decide +kernel
theorem dX8_relaxes_249 : decode cX8_relaxes 249 = .ok (.iinc 9 1, 3) := by decide +kernel
theorem dX8_relaxes_252 : decode cX8_relaxes 252 = .ok (.goto (-66), 3) := by decide +kernel
theorem dX8_relaxes_255 : decode cX8_relaxes 255 = .ok (.aload_n 0, 1) := by decide +kernel
theorem dX8_relaxes_256 : decode cX8_relaxes 256 = .ok (.getfield 59, 3) := by decide +kernel
theorem dX8_relaxes_259 : decode cX8_relaxes 259 = .ok (.iload 6, 2) := by decide +kernel
theorem dX8_relaxes_261 : decode cX8_relaxes 261 = .ok (.fload 7, 2) := by decide +kernel
theorem dX8_relaxes_263 : decode cX8_relaxes 263 = .ok (.aload_n 0, 1) := by decide +kernel
theorem dX8_relaxes_264 : decode cX8_relaxes 264 = .ok (.getfield 7, 3) := by decide +kernel
theorem dX8_relaxes_267 : decode cX8_relaxes 267 = .ok (.bipush 43, 2) := by decide +kernel
theorem dX8_relaxes_269 : decode cX8_relaxes 269 = .ok (.iload 6, 2) := by decide +kernel
theorem dX8_relaxes_271 : decode cX8_relaxes 271 = .ok (.iadd, 1) := by decide +kernel
theorem dX8_relaxes_272 : decode cX8_relaxes 272 = .ok (.iaload, 1) := by decide +kernel
theorem dX8_relaxes_273 : decode cX8_relaxes 273 = .ok (.i2f, 1) := by decide +kernel
theorem dX8_relaxes_274 : decode cX8_relaxes 274 = .ok (.fdiv, 1) := by decide +kernel
theorem dX8_relaxes_275 : decode cX8_relaxes 275 = .ok (.fastore, 1) := by decide +kernel
theorem dX8_relaxes_276 : decode cX8_relaxes 276 = .ok (.aload_n 0, 1) := by decide +kernel
theorem dX8_relaxes_277 : decode cX8_relaxes 277 = .ok (.getfield 63, 3) := by decide +kernel
theorem dX8_relaxes_280 : decode cX8_relaxes 280 = .ok (.iload 6, 2) := by decide +kernel
theorem dX8_relaxes_282 : decode cX8_relaxes 282 = .ok (.fload 8, 2) := by decide +kernel
theorem dX8_relaxes_284 : decode cX8_relaxes 284 = .ok (.aload_n 0, 1) := by decide +kernel
theorem dX8_relaxes_285 : decode cX8_relaxes 285 = .ok (.getfield 7, 3) := by decide +kernel
theorem dX8_relaxes_288 : decode cX8_relaxes 288 = .ok (.bipush 43, 2) := by decide +kernel
theorem dX8_relaxes_290 : decode cX8_relaxes 290 = .ok (.iload 6, 2) := by decide +kernel
theorem dX8_relaxes_292 : decode cX8_relaxes 292 = .ok (.iadd, 1) := by decide +kernel
theorem dX8_relaxes_293 : decode cX8_relaxes 293 = .ok (.iaload, 1) := by decide +kernel
theorem dX8_relaxes_294 : decode cX8_relaxes 294 = .ok (.i2f, 1) := by decide +kernel
theorem dX8_relaxes_295 : decode cX8_relaxes 295 = .ok (.fdiv, 1) := by decide +kernel
theorem dX8_relaxes_296 : decode cX8_relaxes 296 = .ok (.fastore, 1) := by decide +kernel
theorem dX8_relaxes_297 : decode cX8_relaxes 297 = .ok (.iinc 6 1, 3) := by decide +kernel
theorem dX8_relaxes_300 : decode cX8_relaxes 300 = .ok (.goto (-156), 3) := by decide +kernel
theorem dX8_relaxes_303 : decode cX8_relaxes 303 = .ok (.iinc 5 1, 3) := by decide +kernel
theorem dX8_relaxes_306 : decode cX8_relaxes 306 = .ok (.goto (-171), 3) := by decide +kernel
theorem dX8_relaxes_309 : decode cX8_relaxes 309 = .ok (.return_, 1) := by decide +kernel
theorem dX8_position_0 : decode cX8_position 0 = .ok (.aload_n 0, 1) := by decide +kernel
theorem dX8_position_1 : decode cX8_position 1 = .ok (.iload_n 1, 1) := by decide +kernel
theorem dX8_position_2 : decode cX8_position 2 = .ok (.invokevirtual 97, 3) := by decide +kernel
theorem dX8_position_5 : decode cX8_position 5 = .ok (.ifCond .eq 22, 3) := by decide +kernel
theorem dX8_position_8 : decode cX8_position 8 = .ok (.iload_n 2, 1) := by decide +kernel
theorem dX8_position_9 : decode cX8_position 9 = .ok (.iconst 0, 1) := by decide +kernel
theorem dX8_position_10 : decode cX8_position 10 = .ok (.iconst 1, 1) := by decide +kernel
theorem dX8_position_11 : decode cX8_position 11 = .ok (.invokestatic 70, 3) := by decide +kernel
theorem dX8_position_14 : decode cX8_position 14 = .ok (.ifCond .eq 13, 3) := by decide +kernel
theorem dX8_position_17 : decode cX8_position 17 = .ok (.iload_n 3, 1) := by decide +kernel
theorem dX8_position_18 : decode cX8_position 18 = .ok (.iconst 0, 1) := by decide +kernel
theorem dX8_position_19 : decode cX8_position 19 = .ok (.bipush 50, 2) := by decide +kernel
theorem dX8_position_21 : decode cX8_position 21 = .ok (.invokestatic 70, 3) := by decide +kernel
theorem dX8_position_24 : decode cX8_position 24 = .ok (.ifCond .ne 5, 3) := by decide +kernel
theorem dX8_position_27 : decode cX8_position 27 = .ok (.iconst (-1), 1) := by decide +kernel
theorem dX8_position_28 : decode cX8_position 28 = .ok (.ireturn, 1) := by decide +kernel
theorem dX8_position_29 : decode cX8_position 29 = .ok (.aload_n 0, 1) := by decide +kernel
theorem dX8_position_30 : decode cX8_position 30 = .ok (.getfield 7, 3) := by decide +kernel
theorem dX8_position_33 : decode cX8_position 33 = .ok (.iconst 1, 1) := by decide +kernel
theorem dX8_position_34 : decode cX8_position 34 = .ok (.iaload, 1) := by decide +kernel
theorem dX8_position_35 : decode cX8_position 35 = .ok (.ifCond .ne 6, 3) := by decide +kernel
theorem dX8_position_38 : decode cX8_position 38 = .ok (.bipush (-2), 2) := by decide +kernel
theorem dX8_position_40 : decode cX8_position 40 = .ok (.ireturn, 1) := by decide +kernel
theorem dX8_position_41 : decode cX8_position 41 = .ok (.aload_n 0, 1) := by decide +kernel
theorem dX8_position_42 : decode cX8_position 42 = .ok (.iload_n 3, 1) := by decide +kernel
theorem dX8_position_43 : decode cX8_position 43 = .ok (.invokevirtual 261, 3) := by decide +kernel
theorem dX8_position_46 : decode cX8_position 46 = .ok (.iload_n 2, 1) := by decide +kernel
theorem dX8_position_47 : decode cX8_position 47 = .ok (.ifCond .ne 12, 3) := by decide +kernel
theorem dX8_position_50 : decode cX8_position 50 = .ok (.aload_n 0, 1) := by decide +kernel
theorem dX8_position_51 : decode cX8_position 51 = .ok (.getfield 59, 3) := by decide +kernel
theorem dX8_position_54 : decode cX8_position 54 = .ok (.iload_n 1, 1) := by decide +kernel
theorem dX8_position_55 : decode cX8_position 55 = .ok (.faload, 1) := by decide +kernel
theorem dX8_position_56 : decode cX8_position 56 = .ok (.goto 9, 3) := by decide +kernel
theorem dX8_position_59 : decode cX8_position 59 = .ok (.aload_n 0, 1) := by decide +kernel
theorem dX8_position_60 : decode cX8_position 60 = .ok (.getfield 63, 3) := by decide +kernel
theorem dX8_position_63 : decode cX8_position 63 = .ok (.iload_n 1, 1) := by decide +kernel
theorem dX8_position_64 : decode cX8_position 64 = .ok (.faload, 1) := by decide +kernel
theorem dX8_position_65 : decode cX8_position 65 = .ok (.invokestatic 264, 3) := by decide +kernel
theorem dX8_position_68 : decode cX8_position 68 = .ok (.ireturn, 1) := by decide +kernel
theorem dX8_turnOf_0 : decode cX8_turnOf 0 = .ok (.aload_n 0, 1) := by decide +kernel
theorem dX8_turnOf_1 : decode cX8_turnOf 1 = .ok (.getfield 59, 3) := by decide +kernel
theorem dX8_turnOf_4 : decode cX8_turnOf 4 = .ok (.iload_n 2, 1) := by decide +kernel
theorem dX8_turnOf_5 : decode cX8_turnOf 5 = .ok (.faload, 1) := by decide +kernel
theorem dX8_turnOf_6 : decode cX8_turnOf 6 = .ok (.aload_n 0, 1) := by decide +kernel
theorem dX8_turnOf_7 : decode cX8_turnOf 7 = .ok (.getfield 59, 3) := by decide +kernel
theorem dX8_turnOf_10 : decode cX8_turnOf 10 = .ok (.iload_n 1, 1) := by decide +kernel
theorem dX8_turnOf_11 : decode cX8_turnOf 11 = .ok (.faload, 1) := by decide +kernel
theorem dX8_turnOf_12 : decode cX8_turnOf 12 = .ok (.fsub, 1) := by decide +kernel
theorem dX8_turnOf_13 : decode cX8_turnOf 13 = .ok (.aload_n 0, 1) := by decide +kernel
theorem dX8_turnOf_14 : decode cX8_turnOf 14 = .ok (.getfield 63, 3) := by decide +kernel
theorem dX8_turnOf_17 : decode cX8_turnOf 17 = .ok (.iload_n 3, 1) := by decide +kernel
theorem dX8_turnOf_18 : decode cX8_turnOf 18 = .ok (.faload, 1) := by decide +kernel
theorem dX8_turnOf_19 : decode cX8_turnOf 19 = .ok (.aload_n 0, 1) := by decide +kernel
theorem dX8_turnOf_20 : decode cX8_turnOf 20 = .ok (.getfield 63, 3) := by decide +kernel
theorem dX8_turnOf_23 : decode cX8_turnOf 23 = .ok (.iload_n 1, 1) := by decide +kernel
theorem dX8_turnOf_24 : decode cX8_turnOf 24 = .ok (.faload, 1) := by decide +kernel
theorem dX8_turnOf_25 : decode cX8_turnOf 25 = .ok (.fsub, 1) := by decide +kernel
theorem dX8_turnOf_26 : decode cX8_turnOf 26 = .ok (.fmul, 1) := by decide +kernel
theorem dX8_turnOf_27 : decode cX8_turnOf 27 = .ok (.aload_n 0, 1) := by decide +kernel
theorem dX8_turnOf_28 : decode cX8_turnOf 28 = .ok (.getfield 63, 3) := by decide +kernel
theorem dX8_turnOf_31 : decode cX8_turnOf 31 = .ok (.iload_n 2, 1) := by decide +kernel
theorem dX8_turnOf_32 : decode cX8_turnOf 32 = .ok (.faload, 1) := by decide +kernel
theorem dX8_turnOf_33 : decode cX8_turnOf 33 = .ok (.aload_n 0, 1) := by decide +kernel
theorem dX8_turnOf_34 : decode cX8_turnOf 34 = .ok (.getfield 63, 3) := by decide +kernel
theorem dX8_turnOf_37 : decode cX8_turnOf 37 = .ok (.iload_n 1, 1) := by decide +kernel
theorem dX8_turnOf_38 : decode cX8_turnOf 38 = .ok (.faload, 1) := by decide +kernel
theorem dX8_turnOf_39 : decode cX8_turnOf 39 = .ok (.fsub, 1) := by decide +kernel
theorem dX8_turnOf_40 : decode cX8_turnOf 40 = .ok (.aload_n 0, 1) := by decide +kernel
theorem dX8_turnOf_41 : decode cX8_turnOf 41 = .ok (.getfield 59, 3) := by decide +kernel
theorem dX8_turnOf_44 : decode cX8_turnOf 44 = .ok (.iload_n 3, 1) := by decide +kernel
theorem dX8_turnOf_45 : decode cX8_turnOf 45 = .ok (.faload, 1) := by decide +kernel
theorem dX8_turnOf_46 : decode cX8_turnOf 46 = .ok (.aload_n 0, 1) := by decide +kernel
theorem dX8_turnOf_47 : decode cX8_turnOf 47 = .ok (.getfield 59, 3) := by decide +kernel
theorem dX8_turnOf_50 : decode cX8_turnOf 50 = .ok (.iload_n 1, 1) := by decide +kernel
theorem dX8_turnOf_51 : decode cX8_turnOf 51 = .ok (.faload, 1) := by decide +kernel
theorem dX8_turnOf_52 : decode cX8_turnOf 52 = .ok (.fsub, 1) := by decide +kernel
theorem dX8_turnOf_53 : decode cX8_turnOf 53 = .ok (.fmul, 1) := by decide +kernel
theorem dX8_turnOf_54 : decode cX8_turnOf 54 = .ok (.fsub, 1) := by decide +kernel
theorem dX8_turnOf_55 : decode cX8_turnOf 55 = .ok (.freturn, 1) := by decide +kernel
theorem dX8_areApart_0 : decode cX8_areApart 0 = .ok (.aload_n 0, 1) := by decide +kernel
theorem dX8_areApart_1 : decode cX8_areApart 1 = .ok (.aload_n 0, 1) := by decide +kernel
theorem dX8_areApart_2 : decode cX8_areApart 2 = .ok (.getfield 7, 3) := by decide +kernel
theorem dX8_areApart_5 : decode cX8_areApart 5 = .ok (.iconst 3, 1) := by decide +kernel
theorem dX8_areApart_6 : decode cX8_areApart 6 = .ok (.iload_n 1, 1) := by decide +kernel
theorem dX8_areApart_7 : decode cX8_areApart 7 = .ok (.iadd, 1) := by decide +kernel
theorem dX8_areApart_8 : decode cX8_areApart 8 = .ok (.iaload, 1) := by decide +kernel
theorem dX8_areApart_9 : decode cX8_areApart 9 = .ok (.aload_n 0, 1) := by decide +kernel
theorem dX8_areApart_10 : decode cX8_areApart 10 = .ok (.getfield 7, 3) := by decide +kernel
theorem dX8_areApart_13 : decode cX8_areApart 13 = .ok (.bipush 23, 2) := by decide +kernel
theorem dX8_areApart_15 : decode cX8_areApart 15 = .ok (.iload_n 1, 1) := by decide +kernel
theorem dX8_areApart_16 : decode cX8_areApart 16 = .ok (.iadd, 1) := by decide +kernel
theorem dX8_areApart_17 : decode cX8_areApart 17 = .ok (.iaload, 1) := by decide +kernel
theorem dX8_areApart_18 : decode cX8_areApart 18 = .ok (.iload_n 2, 1) := by decide +kernel
theorem dX8_areApart_19 : decode cX8_areApart 19 = .ok (.invokevirtual 270, 3) := by decide +kernel
theorem dX8_areApart_22 : decode cX8_areApart 22 = .ok (.fstore 4, 2) := by decide +kernel
theorem dX8_areApart_24 : decode cX8_areApart 24 = .ok (.aload_n 0, 1) := by decide +kernel
theorem dX8_areApart_25 : decode cX8_areApart 25 = .ok (.aload_n 0, 1) := by decide +kernel
theorem dX8_areApart_26 : decode cX8_areApart 26 = .ok (.getfield 7, 3) := by decide +kernel
theorem dX8_areApart_29 : decode cX8_areApart 29 = .ok (.iconst 3, 1) := by decide +kernel
theorem dX8_areApart_30 : decode cX8_areApart 30 = .ok (.iload_n 1, 1) := by decide +kernel
theorem dX8_areApart_31 : decode cX8_areApart 31 = .ok (.iadd, 1) := by decide +kernel
theorem dX8_areApart_32 : decode cX8_areApart 32 = .ok (.iaload, 1) := by decide +kernel
theorem dX8_areApart_33 : decode cX8_areApart 33 = .ok (.aload_n 0, 1) := by decide +kernel
theorem dX8_areApart_34 : decode cX8_areApart 34 = .ok (.getfield 7, 3) := by decide +kernel
theorem dX8_areApart_37 : decode cX8_areApart 37 = .ok (.bipush 23, 2) := by decide +kernel
theorem dX8_areApart_39 : decode cX8_areApart 39 = .ok (.iload_n 1, 1) := by decide +kernel
theorem dX8_areApart_40 : decode cX8_areApart 40 = .ok (.iadd, 1) := by decide +kernel
theorem dX8_areApart_41 : decode cX8_areApart 41 = .ok (.iaload, 1) := by decide +kernel
theorem dX8_areApart_42 : decode cX8_areApart 42 = .ok (.iload_n 3, 1) := by decide +kernel
theorem dX8_areApart_43 : decode cX8_areApart 43 = .ok (.invokevirtual 270, 3) := by decide +kernel
theorem dX8_areApart_46 : decode cX8_areApart 46 = .ok (.fstore 5, 2) := by decide +kernel
theorem dX8_areApart_48 : decode cX8_areApart 48 = .ok (.fload 4, 2) := by decide +kernel
theorem dX8_areApart_50 : decode cX8_areApart 50 = .ok (.fconst 0, 1) := by decide +kernel
theorem dX8_areApart_51 : decode cX8_areApart 51 = .ok (.fcmp .l, 1) := by decide +kernel
theorem dX8_areApart_52 : decode cX8_areApart 52 = .ok (.ifCond .le 10, 3) := by decide +kernel
theorem dX8_areApart_55 : decode cX8_areApart 55 = .ok (.fload 5, 2) := by decide +kernel
theorem dX8_areApart_57 : decode cX8_areApart 57 = .ok (.fconst 0, 1) := by decide +kernel
theorem dX8_areApart_58 : decode cX8_areApart 58 = .ok (.fcmp .g, 1) := by decide +kernel
theorem dX8_areApart_59 : decode cX8_areApart 59 = .ok (.ifCond .lt 17, 3) := by decide +kernel
theorem dX8_areApart_62 : decode cX8_areApart 62 = .ok (.fload 4, 2) := by decide +kernel
theorem dX8_areApart_64 : decode cX8_areApart 64 = .ok (.fconst 0, 1) := by decide +kernel
theorem dX8_areApart_65 : decode cX8_areApart 65 = .ok (.fcmp .g, 1) := by decide +kernel
theorem dX8_areApart_66 : decode cX8_areApart 66 = .ok (.ifCond .ge 14, 3) := by decide +kernel
theorem dX8_areApart_69 : decode cX8_areApart 69 = .ok (.fload 5, 2) := by decide +kernel
theorem dX8_areApart_71 : decode cX8_areApart 71 = .ok (.fconst 0, 1) := by decide +kernel
theorem dX8_areApart_72 : decode cX8_areApart 72 = .ok (.fcmp .l, 1) := by decide +kernel
theorem dX8_areApart_73 : decode cX8_areApart 73 = .ok (.ifCond .le 7, 3) := by decide +kernel
theorem dX8_areApart_76 : decode cX8_areApart 76 = .ok (.iconst 1, 1) := by decide +kernel
theorem dX8_areApart_77 : decode cX8_areApart 77 = .ok (.goto 4, 3) := by decide +kernel
theorem dX8_areApart_80 : decode cX8_areApart 80 = .ok (.iconst 0, 1) := by decide +kernel
theorem dX8_areApart_81 : decode cX8_areApart 81 = .ok (.ireturn, 1) := by decide +kernel
theorem dX8_crossings_0 : decode cX8_crossings 0 = .ok (.iload_n 1, 1) := by decide +kernel
theorem dX8_crossings_1 : decode cX8_crossings 1 = .ok (.iconst 0, 1) := by decide +kernel
theorem dX8_crossings_2 : decode cX8_crossings 2 = .ok (.bipush 50, 2) := by decide +kernel
theorem dX8_crossings_4 : decode cX8_crossings 4 = .ok (.invokestatic 70, 3) := by decide +kernel
theorem dX8_crossings_7 : decode cX8_crossings 7 = .ok (.ifCond .ne 5, 3) := by decide +kernel
theorem dX8_crossings_10 : decode cX8_crossings 10 = .ok (.iconst (-1), 1) := by decide +kernel
theorem dX8_crossings_11 : decode cX8_crossings 11 = .ok (.ireturn, 1) := by decide +kernel
theorem dX8_crossings_12 : decode cX8_crossings 12 = .ok (.aload_n 0, 1) := by decide +kernel
theorem dX8_crossings_13 : decode cX8_crossings 13 = .ok (.getfield 7, 3) := by decide +kernel
theorem dX8_crossings_16 : decode cX8_crossings 16 = .ok (.iconst 1, 1) := by decide +kernel
theorem dX8_crossings_17 : decode cX8_crossings 17 = .ok (.iaload, 1) := by decide +kernel
theorem dX8_crossings_18 : decode cX8_crossings 18 = .ok (.ifCond .ne 6, 3) := by decide +kernel
theorem dX8_crossings_21 : decode cX8_crossings 21 = .ok (.bipush (-2), 2) := by decide +kernel
theorem dX8_crossings_23 : decode cX8_crossings 23 = .ok (.ireturn, 1) := by decide +kernel
theorem dX8_crossings_24 : decode cX8_crossings 24 = .ok (.aload_n 0, 1) := by decide +kernel
theorem dX8_crossings_25 : decode cX8_crossings 25 = .ok (.iload_n 1, 1) := by decide +kernel
theorem dX8_crossings_26 : decode cX8_crossings 26 = .ok (.invokevirtual 261, 3) := by decide +kernel
theorem dX8_crossings_29 : decode cX8_crossings 29 = .ok (.iconst 0, 1) := by decide +kernel
theorem dX8_crossings_30 : decode cX8_crossings 30 = .ok (.istore_n 2, 1) := by decide +kernel
theorem dX8_crossings_31 : decode cX8_crossings 31 = .ok (.iconst 0, 1) := by decide +kernel
theorem dX8_crossings_32 : decode cX8_crossings 32 = .ok (.istore_n 3, 1) := by decide +kernel
theorem dX8_crossings_33 : decode cX8_crossings 33 = .ok (.iload_n 3, 1) := by decide +kernel
theorem dX8_crossings_34 : decode cX8_crossings 34 = .ok (.aload_n 0, 1) := by decide +kernel
theorem dX8_crossings_35 : decode cX8_crossings 35 = .ok (.getfield 7, 3) := by decide +kernel
theorem dX8_crossings_38 : decode cX8_crossings 38 = .ok (.iconst 1, 1) := by decide +kernel
theorem dX8_crossings_39 : decode cX8_crossings 39 = .ok (.iaload, 1) := by decide +kernel
theorem dX8_crossings_40 : decode cX8_crossings 40 = .ok (.if_icmp .ge 132, 3) := by decide +kernel
theorem dX8_crossings_43 : decode cX8_crossings 43 = .ok (.iconst 0, 1) := by decide +kernel
theorem dX8_crossings_44 : decode cX8_crossings 44 = .ok (.istore 4, 2) := by decide +kernel
theorem dX8_crossings_46 : decode cX8_crossings 46 = .ok (.iload 4, 2) := by decide +kernel
theorem dX8_crossings_48 : decode cX8_crossings 48 = .ok (.iload_n 3, 1) := by decide +kernel
theorem dX8_crossings_49 : decode cX8_crossings 49 = .ok (.if_icmp .ge 117, 3) := by decide +kernel
theorem dX8_crossings_52 : decode cX8_crossings 52 = .ok (.aload_n 0, 1) := by decide +kernel
theorem dX8_crossings_53 : decode cX8_crossings 53 = .ok (.iload_n 3, 1) := by decide +kernel
theorem dX8_crossings_54 : decode cX8_crossings 54 = .ok (.aload_n 0, 1) := by decide +kernel
theorem dX8_crossings_55 : decode cX8_crossings 55 = .ok (.getfield 7, 3) := by decide +kernel
theorem dX8_crossings_58 : decode cX8_crossings 58 = .ok (.iconst 3, 1) := by decide +kernel
theorem dX8_crossings_59 : decode cX8_crossings 59 = .ok (.iload 4, 2) := by decide +kernel
theorem dX8_crossings_61 : decode cX8_crossings 61 = .ok (.iadd, 1) := by decide +kernel
theorem dX8_crossings_62 : decode cX8_crossings 62 = .ok (.iaload, 1) := by decide +kernel
theorem dX8_crossings_63 : decode cX8_crossings 63 = .ok (.invokevirtual 82, 3) := by decide +kernel
theorem dX8_crossings_66 : decode cX8_crossings 66 = .ok (.ifCond .ne 25, 3) := by decide +kernel
theorem dX8_crossings_69 : decode cX8_crossings 69 = .ok (.aload_n 0, 1) := by decide +kernel
theorem dX8_crossings_70 : decode cX8_crossings 70 = .ok (.iload_n 3, 1) := by decide +kernel
theorem dX8_crossings_71 : decode cX8_crossings 71 = .ok (.aload_n 0, 1) := by decide +kernel
theorem dX8_crossings_72 : decode cX8_crossings 72 = .ok (.getfield 7, 3) := by decide +kernel
theorem dX8_crossings_75 : decode cX8_crossings 75 = .ok (.bipush 23, 2) := by decide +kernel
theorem dX8_crossings_77 : decode cX8_crossings 77 = .ok (.iload 4, 2) := by decide +kernel
theorem dX8_crossings_79 : decode cX8_crossings 79 = .ok (.iadd, 1) := by decide +kernel
theorem dX8_crossings_80 : decode cX8_crossings 80 = .ok (.iaload, 1) := by decide +kernel
theorem dX8_crossings_81 : decode cX8_crossings 81 = .ok (.invokevirtual 82, 3) := by decide +kernel
theorem dX8_crossings_84 : decode cX8_crossings 84 = .ok (.ifCond .ne 7, 3) := by decide +kernel
theorem dX8_crossings_87 : decode cX8_crossings 87 = .ok (.iconst 1, 1) := by decide +kernel
theorem dX8_crossings_88 : decode cX8_crossings 88 = .ok (.goto 4, 3) := by decide +kernel
theorem dX8_crossings_91 : decode cX8_crossings 91 = .ok (.iconst 0, 1) := by decide +kernel
theorem dX8_crossings_92 : decode cX8_crossings 92 = .ok (.istore 5, 2) := by decide +kernel
theorem dX8_crossings_94 : decode cX8_crossings 94 = .ok (.iload_n 2, 1) := by decide +kernel
theorem dX8_crossings_95 : decode cX8_crossings 95 = .ok (.iload 5, 2) := by decide +kernel
theorem dX8_crossings_97 : decode cX8_crossings 97 = .ok (.ifCond .eq 60, 3) := by decide +kernel
theorem dX8_crossings_100 : decode cX8_crossings 100 = .ok (.aload_n 0, 1) := by decide +kernel
theorem dX8_crossings_101 : decode cX8_crossings 101 = .ok (.iload_n 3, 1) := by decide +kernel
theorem dX8_crossings_102 : decode cX8_crossings 102 = .ok (.aload_n 0, 1) := by decide +kernel
theorem dX8_crossings_103 : decode cX8_crossings 103 = .ok (.getfield 7, 3) := by decide +kernel
theorem dX8_crossings_106 : decode cX8_crossings 106 = .ok (.iconst 3, 1) := by decide +kernel
theorem dX8_crossings_107 : decode cX8_crossings 107 = .ok (.iload 4, 2) := by decide +kernel
theorem dX8_crossings_109 : decode cX8_crossings 109 = .ok (.iadd, 1) := by decide +kernel
theorem dX8_crossings_110 : decode cX8_crossings 110 = .ok (.iaload, 1) := by decide +kernel
theorem dX8_crossings_111 : decode cX8_crossings 111 = .ok (.aload_n 0, 1) := by decide +kernel
theorem dX8_crossings_112 : decode cX8_crossings 112 = .ok (.getfield 7, 3) := by decide +kernel
theorem dX8_crossings_115 : decode cX8_crossings 115 = .ok (.bipush 23, 2) := by decide +kernel
theorem dX8_crossings_117 : decode cX8_crossings 117 = .ok (.iload 4, 2) := by decide +kernel
theorem dX8_crossings_119 : decode cX8_crossings 119 = .ok (.iadd, 1) := by decide +kernel
theorem dX8_crossings_120 : decode cX8_crossings 120 = .ok (.iaload, 1) := by decide +kernel
theorem dX8_crossings_121 : decode cX8_crossings 121 = .ok (.invokevirtual 274, 3) := by decide +kernel
theorem dX8_crossings_124 : decode cX8_crossings 124 = .ok (.ifCond .eq 33, 3) := by decide +kernel
theorem dX8_crossings_127 : decode cX8_crossings 127 = .ok (.aload_n 0, 1) := by decide +kernel
theorem dX8_crossings_128 : decode cX8_crossings 128 = .ok (.iload 4, 2) := by decide +kernel
theorem dX8_crossings_130 : decode cX8_crossings 130 = .ok (.aload_n 0, 1) := by decide +kernel
theorem dX8_crossings_131 : decode cX8_crossings 131 = .ok (.getfield 7, 3) := by decide +kernel
theorem dX8_crossings_134 : decode cX8_crossings 134 = .ok (.iconst 3, 1) := by decide +kernel
theorem dX8_crossings_135 : decode cX8_crossings 135 = .ok (.iload_n 3, 1) := by decide +kernel
theorem dX8_crossings_136 : decode cX8_crossings 136 = .ok (.iadd, 1) := by decide +kernel
theorem dX8_crossings_137 : decode cX8_crossings 137 = .ok (.iaload, 1) := by decide +kernel
theorem dX8_crossings_138 : decode cX8_crossings 138 = .ok (.aload_n 0, 1) := by decide +kernel
theorem dX8_crossings_139 : decode cX8_crossings 139 = .ok (.getfield 7, 3) := by decide +kernel
theorem dX8_crossings_142 : decode cX8_crossings 142 = .ok (.bipush 23, 2) := by decide +kernel
theorem dX8_crossings_144 : decode cX8_crossings 144 = .ok (.iload_n 3, 1) := by decide +kernel
theorem dX8_crossings_145 : decode cX8_crossings 145 = .ok (.iadd, 1) := by decide +kernel
theorem dX8_crossings_146 : decode cX8_crossings 146 = .ok (.iaload, 1) := by decide +kernel
theorem dX8_crossings_147 : decode cX8_crossings 147 = .ok (.invokevirtual 274, 3) := by decide +kernel
theorem dX8_crossings_150 : decode cX8_crossings 150 = .ok (.ifCond .eq 7, 3) := by decide +kernel
theorem dX8_crossings_153 : decode cX8_crossings 153 = .ok (.iconst 1, 1) := by decide +kernel
theorem dX8_crossings_154 : decode cX8_crossings 154 = .ok (.goto 4, 3) := by decide +kernel
theorem dX8_crossings_157 : decode cX8_crossings 157 = .ok (.iconst 0, 1) := by decide +kernel
theorem dX8_crossings_158 : decode cX8_crossings 158 = .ok (.iadd, 1) := by decide +kernel
theorem dX8_crossings_159 : decode cX8_crossings 159 = .ok (.istore_n 2, 1) := by decide +kernel
theorem dX8_crossings_160 : decode cX8_crossings 160 = .ok (.iinc 4 1, 3) := by decide +kernel
theorem dX8_crossings_163 : decode cX8_crossings 163 = .ok (.goto (-117), 3) := by decide +kernel
theorem dX8_crossings_166 : decode cX8_crossings 166 = .ok (.iinc 3 1, 3) := by decide +kernel
theorem dX8_crossings_169 : decode cX8_crossings 169 = .ok (.goto (-136), 3) := by decide +kernel
theorem dX8_crossings_172 : decode cX8_crossings 172 = .ok (.iload_n 2, 1) := by decide +kernel
theorem dX8_crossings_173 : decode cX8_crossings 173 = .ok (.ireturn, 1) := by decide +kernel
theorem dX8_size_0 : decode cX8_size 0 = .ok (.fload_n 0, 1) := by decide +kernel
theorem dX8_size_1 : decode cX8_size 1 = .ok (.fconst 0, 1) := by decide +kernel
theorem dX8_size_2 : decode cX8_size 2 = .ok (.fcmp .g, 1) := by decide +kernel
theorem dX8_size_3 : decode cX8_size 3 = .ok (.ifCond .ge 9, 3) := by decide +kernel
theorem dX8_size_6 : decode cX8_size 6 = .ok (.fconst 0, 1) := by decide +kernel
theorem dX8_size_7 : decode cX8_size 7 = .ok (.fload_n 0, 1) := by decide +kernel
theorem dX8_size_8 : decode cX8_size 8 = .ok (.fsub, 1) := by decide +kernel
theorem dX8_size_9 : decode cX8_size 9 = .ok (.goto 4, 3) := by decide +kernel
theorem dX8_size_12 : decode cX8_size 12 = .ok (.fload_n 0, 1) := by decide +kernel
theorem dX8_size_13 : decode cX8_size 13 = .ok (.freturn, 1) := by decide +kernel
theorem dX8_extent_0 : decode cX8_extent 0 = .ok (.iload_n 1, 1) := by decide +kernel
theorem dX8_extent_1 : decode cX8_extent 1 = .ok (.iconst 0, 1) := by decide +kernel
theorem dX8_extent_2 : decode cX8_extent 2 = .ok (.bipush 50, 2) := by decide +kernel
theorem dX8_extent_4 : decode cX8_extent 4 = .ok (.invokestatic 70, 3) := by decide +kernel
theorem dX8_extent_7 : decode cX8_extent 7 = .ok (.ifCond .ne 5, 3) := by decide +kernel
theorem dX8_extent_10 : decode cX8_extent 10 = .ok (.iconst (-1), 1) := by decide +kernel
theorem dX8_extent_11 : decode cX8_extent 11 = .ok (.ireturn, 1) := by decide +kernel
theorem dX8_extent_12 : decode cX8_extent 12 = .ok (.aload_n 0, 1) := by decide +kernel
theorem dX8_extent_13 : decode cX8_extent 13 = .ok (.getfield 7, 3) := by decide +kernel
theorem dX8_extent_16 : decode cX8_extent 16 = .ok (.iconst 1, 1) := by decide +kernel
theorem dX8_extent_17 : decode cX8_extent 17 = .ok (.iaload, 1) := by decide +kernel
theorem dX8_extent_18 : decode cX8_extent 18 = .ok (.ifCond .ne 6, 3) := by decide +kernel
theorem dX8_extent_21 : decode cX8_extent 21 = .ok (.bipush (-2), 2) := by decide +kernel
theorem dX8_extent_23 : decode cX8_extent 23 = .ok (.ireturn, 1) := by decide +kernel
theorem dX8_extent_24 : decode cX8_extent 24 = .ok (.aload_n 0, 1) := by decide +kernel
theorem dX8_extent_25 : decode cX8_extent 25 = .ok (.iload_n 1, 1) := by decide +kernel
theorem dX8_extent_26 : decode cX8_extent 26 = .ok (.invokevirtual 261, 3) := by decide +kernel
theorem dX8_extent_29 : decode cX8_extent 29 = .ok (.fconst 0, 1) := by decide +kernel
theorem dX8_extent_30 : decode cX8_extent 30 = .ok (.fstore_n 2, 1) := by decide +kernel
theorem dX8_extent_31 : decode cX8_extent 31 = .ok (.iconst 0, 1) := by decide +kernel
theorem dX8_extent_32 : decode cX8_extent 32 = .ok (.istore_n 3, 1) := by decide +kernel
theorem dX8_extent_33 : decode cX8_extent 33 = .ok (.iload_n 3, 1) := by decide +kernel
theorem dX8_extent_34 : decode cX8_extent 34 = .ok (.aload_n 0, 1) := by decide +kernel
theorem dX8_extent_35 : decode cX8_extent 35 = .ok (.getfield 7, 3) := by decide +kernel
theorem dX8_extent_38 : decode cX8_extent 38 = .ok (.iconst 1, 1) := by decide +kernel
theorem dX8_extent_39 : decode cX8_extent 39 = .ok (.iaload, 1) := by decide +kernel
theorem dX8_extent_40 : decode cX8_extent 40 = .ok (.if_icmp .ge 93, 3) := by decide +kernel
theorem dX8_extent_43 : decode cX8_extent 43 = .ok (.aload_n 0, 1) := by decide +kernel
theorem dX8_extent_44 : decode cX8_extent 44 = .ok (.getfield 59, 3) := by decide +kernel
theorem dX8_extent_47 : decode cX8_extent 47 = .ok (.aload_n 0, 1) := by decide +kernel
theorem dX8_extent_48 : decode cX8_extent 48 = .ok (.getfield 7, 3) := by decide +kernel
theorem dX8_extent_51 : decode cX8_extent 51 = .ok (.iconst 3, 1) := by decide +kernel
theorem dX8_extent_52 : decode cX8_extent 52 = .ok (.iload_n 3, 1) := by decide +kernel
theorem dX8_extent_53 : decode cX8_extent 53 = .ok (.iadd, 1) := by decide +kernel
theorem dX8_extent_54 : decode cX8_extent 54 = .ok (.iaload, 1) := by decide +kernel
theorem dX8_extent_55 : decode cX8_extent 55 = .ok (.faload, 1) := by decide +kernel
theorem dX8_extent_56 : decode cX8_extent 56 = .ok (.aload_n 0, 1) := by decide +kernel
theorem dX8_extent_57 : decode cX8_extent 57 = .ok (.getfield 59, 3) := by decide +kernel
theorem dX8_extent_60 : decode cX8_extent 60 = .ok (.aload_n 0, 1) := by decide +kernel
theorem dX8_extent_61 : decode cX8_extent 61 = .ok (.getfield 7, 3) := by decide +kernel
theorem dX8_extent_64 : decode cX8_extent 64 = .ok (.bipush 23, 2) := by decide +kernel
theorem dX8_extent_66 : decode cX8_extent 66 = .ok (.iload_n 3, 1) := by decide +kernel
theorem dX8_extent_67 : decode cX8_extent 67 = .ok (.iadd, 1) := by decide +kernel
theorem dX8_extent_68 : decode cX8_extent 68 = .ok (.iaload, 1) := by decide +kernel
theorem dX8_extent_69 : decode cX8_extent 69 = .ok (.faload, 1) := by decide +kernel
theorem dX8_extent_70 : decode cX8_extent 70 = .ok (.fsub, 1) := by decide +kernel
theorem dX8_extent_71 : decode cX8_extent 71 = .ok (.invokestatic 277, 3) := by decide +kernel
theorem dX8_extent_74 : decode cX8_extent 74 = .ok (.fstore 4, 2) := by decide +kernel
theorem dX8_extent_76 : decode cX8_extent 76 = .ok (.aload_n 0, 1) := by decide +kernel
theorem dX8_extent_77 : decode cX8_extent 77 = .ok (.getfield 63, 3) := by decide +kernel
theorem dX8_extent_80 : decode cX8_extent 80 = .ok (.aload_n 0, 1) := by decide +kernel
theorem dX8_extent_81 : decode cX8_extent 81 = .ok (.getfield 7, 3) := by decide +kernel
theorem dX8_extent_84 : decode cX8_extent 84 = .ok (.iconst 3, 1) := by decide +kernel
theorem dX8_extent_85 : decode cX8_extent 85 = .ok (.iload_n 3, 1) := by decide +kernel
theorem dX8_extent_86 : decode cX8_extent 86 = .ok (.iadd, 1) := by decide +kernel
theorem dX8_extent_87 : decode cX8_extent 87 = .ok (.iaload, 1) := by decide +kernel
theorem dX8_extent_88 : decode cX8_extent 88 = .ok (.faload, 1) := by decide +kernel
theorem dX8_extent_89 : decode cX8_extent 89 = .ok (.aload_n 0, 1) := by decide +kernel
theorem dX8_extent_90 : decode cX8_extent 90 = .ok (.getfield 63, 3) := by decide +kernel
theorem dX8_extent_93 : decode cX8_extent 93 = .ok (.aload_n 0, 1) := by decide +kernel
theorem dX8_extent_94 : decode cX8_extent 94 = .ok (.getfield 7, 3) := by decide +kernel
theorem dX8_extent_97 : decode cX8_extent 97 = .ok (.bipush 23, 2) := by decide +kernel
theorem dX8_extent_99 : decode cX8_extent 99 = .ok (.iload_n 3, 1) := by decide +kernel
theorem dX8_extent_100 : decode cX8_extent 100 = .ok (.iadd, 1) := by decide +kernel
theorem dX8_extent_101 : decode cX8_extent 101 = .ok (.iaload, 1) := by decide +kernel
theorem dX8_extent_102 : decode cX8_extent 102 = .ok (.faload, 1) := by decide +kernel
theorem dX8_extent_103 : decode cX8_extent 103 = .ok (.fsub, 1) := by decide +kernel
theorem dX8_extent_104 : decode cX8_extent 104 = .ok (.invokestatic 277, 3) := by decide +kernel
theorem dX8_extent_107 : decode cX8_extent 107 = .ok (.fstore 5, 2) := by decide +kernel
theorem dX8_extent_109 : decode cX8_extent 109 = .ok (.fload_n 2, 1) := by decide +kernel
theorem dX8_extent_110 : decode cX8_extent 110 = .ok (.fload 4, 2) := by decide +kernel
theorem dX8_extent_112 : decode cX8_extent 112 = .ok (.fload 5, 2) := by decide +kernel
theorem dX8_extent_114 : decode cX8_extent 114 = .ok (.fcmp .l, 1) := by decide +kernel
theorem dX8_extent_115 : decode cX8_extent 115 = .ok (.ifCond .le 8, 3) := by decide +kernel
theorem dX8_extent_118 : decode cX8_extent 118 = .ok (.fload 4, 2) := by decide +kernel
theorem dX8_extent_120 : decode cX8_extent 120 = .ok (.goto 5, 3) := by decide +kernel
theorem dX8_extent_123 : decode cX8_extent 123 = .ok (.fload 5, 2) := by decide +kernel
theorem dX8_extent_125 : decode cX8_extent 125 = .ok (.fadd, 1) := by decide +kernel
theorem dX8_extent_126 : decode cX8_extent 126 = .ok (.fstore_n 2, 1) := by decide +kernel
theorem dX8_extent_127 : decode cX8_extent 127 = .ok (.iinc 3 1, 3) := by decide +kernel
theorem dX8_extent_130 : decode cX8_extent 130 = .ok (.goto (-97), 3) := by decide +kernel
theorem dX8_extent_133 : decode cX8_extent 133 = .ok (.fload_n 2, 1) := by decide +kernel
theorem dX8_extent_134 : decode cX8_extent 134 = .ok (.invokestatic 264, 3) := by decide +kernel
theorem dX8_extent_137 : decode cX8_extent 137 = .ok (.ireturn, 1) := by decide +kernel

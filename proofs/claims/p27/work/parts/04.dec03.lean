theorem dL_part_6 : decode cL_part 6 = .ok (.ireturn, 1) := by decide +kernel
theorem dL_part_7 : decode cL_part 7 = .ok (.astore_n 3, 1) := by decide +kernel
theorem dL_part_8 : decode cL_part 8 = .ok (.ldc 52, 2) := by decide +kernel
theorem dL_part_10 : decode cL_part 10 = .ok (.ireturn, 1) := by decide +kernel
theorem dL_moveTo_0 : decode cL_moveTo 0 = .ok (.aload_n 0, 1) := by decide +kernel
theorem dL_moveTo_1 : decode cL_moveTo 1 = .ok (.iload_n 1, 1) := by decide +kernel
theorem dL_moveTo_2 : decode cL_moveTo 2 = .ok (.iload_n 2, 1) := by decide +kernel
theorem dL_moveTo_3 : decode cL_moveTo 3 = .ok (.invokevirtual 83, 3) := by decide +kernel
theorem dL_moveTo_6 : decode cL_moveTo 6 = .ok (.ireturn, 1) := by decide +kernel
theorem dL_moveTo_7 : decode cL_moveTo 7 = .ok (.astore_n 3, 1) := by decide +kernel
theorem dL_moveTo_8 : decode cL_moveTo 8 = .ok (.ldc 52, 2) := by decide +kernel
theorem dL_moveTo_10 : decode cL_moveTo 10 = .ok (.ireturn, 1) := by decide +kernel
theorem dL_use_0 : decode cL_use 0 = .ok (.aload_n 0, 1) := by decide +kernel
theorem dL_use_1 : decode cL_use 1 = .ok (.iload_n 1, 1) := by decide +kernel
theorem dL_use_2 : decode cL_use 2 = .ok (.iload_n 2, 1) := by decide +kernel
theorem dL_use_3 : decode cL_use 3 = .ok (.invokevirtual 86, 3) := by decide +kernel
theorem dL_use_6 : decode cL_use 6 = .ok (.ireturn, 1) := by decide +kernel
theorem dL_use_7 : decode cL_use 7 = .ok (.astore_n 3, 1) := by decide +kernel
theorem dL_use_8 : decode cL_use 8 = .ok (.ldc 52, 2) := by decide +kernel
theorem dL_use_10 : decode cL_use 10 = .ok (.ireturn, 1) := by decide +kernel
theorem dL_hide_0 : decode cL_hide 0 = .ok (.aload_n 0, 1) := by decide +kernel
theorem dL_hide_1 : decode cL_hide 1 = .ok (.iload_n 1, 1) := by decide +kernel
theorem dL_hide_2 : decode cL_hide 2 = .ok (.invokevirtual 90, 3) := by decide +kernel
theorem dL_hide_5 : decode cL_hide 5 = .ok (.ireturn, 1) := by decide +kernel
theorem dL_hide_6 : decode cL_hide 6 = .ok (.astore_n 2, 1) := by decide +kernel
theorem dL_hide_7 : decode cL_hide 7 = .ok (.ldc 42, 2) := by decide +kernel
theorem dL_hide_9 : decode cL_hide 9 = .ok (.ireturn, 1) := by decide +kernel
theorem dL_turn_0 : decode cL_turn 0 = .ok (.aload_n 0, 1) := by decide +kernel
theorem dL_turn_1 : decode cL_turn 1 = .ok (.iload_n 1, 1) := by decide +kernel
theorem dL_turn_2 : decode cL_turn 2 = .ok (.iload_n 2, 1) := by decide +kernel
theorem dL_turn_3 : decode cL_turn 3 = .ok (.invokevirtual 93, 3) := by decide +kernel
theorem dL_turn_6 : decode cL_turn 6 = .ok (.ireturn, 1) := by decide +kernel
theorem dL_turn_7 : decode cL_turn 7 = .ok (.astore_n 3, 1) := by decide +kernel
theorem dL_turn_8 : decode cL_turn 8 = .ok (.ldc 52, 2) := by decide +kernel
theorem dL_turn_10 : decode cL_turn 10 = .ok (.ireturn, 1) := by decide +kernel
theorem dL_turn_11 : decode cL_turn 11 = .ok (.astore_n 3, 1) := by decide +kernel
theorem dL_turn_12 : decode cL_turn 12 = .ok (.ldc 42, 2) := by decide +kernel
theorem dL_turn_14 : decode cL_turn 14 = .ok (.ireturn, 1) := by decide +kernel
theorem dL_with_0 : decode cL_with 0 = .ok (.aload_n 0, 1) := by decide +kernel
theorem dL_with_1 : decode cL_with 1 = .ok (.arraylength, 1) := by decide +kernel
theorem dL_with_2 : decode cL_with 2 = .ok (.iconst 1, 1) := by decide +kernel
theorem dL_with_3 : decode cL_with 3 = .ok (.iadd, 1) := by decide +kernel
theorem dL_with_4 : decode cL_with 4 = .ok (.newarray .int, 2) := by decide +kernel
theorem dL_with_6 : decode cL_with 6 = .ok (.astore_n 2, 1) := by decide +kernel
theorem dL_with_7 : decode cL_with 7 = .ok (.iconst 0, 1) := by decide +kernel
theorem dL_with_8 : decode cL_with 8 = .ok (.istore_n 3, 1) := by decide +kernel
theorem dL_with_9 : decode cL_with 9 = .ok (.iload_n 3, 1) := by decide +kernel
theorem dL_with_10 : decode cL_with 10 = .ok (.aload_n 0, 1) := by decide +kernel
theorem dL_with_11 : decode cL_with 11 = .ok (.arraylength, 1) := by decide +kernel
theorem dL_with_12 : decode cL_with 12 = .ok (.if_icmp .ge 15, 3) := by decide +kernel
theorem dL_with_15 : decode cL_with 15 = .ok (.aload_n 2, 1) := by decide +kernel
theorem dL_with_16 : decode cL_with 16 = .ok (.iload_n 3, 1) := by decide +kernel
theorem dL_with_17 : decode cL_with 17 = .ok (.aload_n 0, 1) := by decide +kernel
theorem dL_with_18 : decode cL_with 18 = .ok (.iload_n 3, 1) := by decide +kernel
theorem dL_with_19 : decode cL_with 19 = .ok (.iaload, 1) := by decide +kernel
theorem dL_with_20 : decode cL_with 20 = .ok (.iastore, 1) := by decide +kernel
theorem dL_with_21 : decode cL_with 21 = .ok (.iinc 3 1, 3) := by decide +kernel
theorem dL_with_24 : decode cL_with 24 = .ok (.goto (-15), 3) := by decide +kernel
theorem dL_with_27 : decode cL_with 27 = .ok (.aload_n 2, 1) := by decide +kernel
theorem dL_with_28 : decode cL_with 28 = .ok (.aload_n 0, 1) := by decide +kernel
theorem dL_with_29 : decode cL_with 29 = .ok (.arraylength, 1) := by decide +kernel
theorem dL_with_30 : decode cL_with 30 = .ok (.iload_n 1, 1) := by decide +kernel
theorem dL_with_31 : decode cL_with 31 = .ok (.iastore, 1) := by decide +kernel
theorem dL_with_32 : decode cL_with 32 = .ok (.aload_n 2, 1) := by decide +kernel
theorem dL_with_33 : decode cL_with 33 = .ok (.areturn, 1) := by decide +kernel
theorem dL_writeAll_0 : decode cL_writeAll 0 = .ok (.aload_n 0, 1) := by decide +kernel
theorem dL_writeAll_1 : decode cL_writeAll 1 = .ok (.aload_n 1, 1) := by decide +kernel
theorem dL_writeAll_2 : decode cL_writeAll 2 = .ok (.aload_n 2, 1) := by decide +kernel
theorem dL_writeAll_3 : decode cL_writeAll 3 = .ok (.invokestatic 96, 3) := by decide +kernel
theorem dL_writeAll_6 : decode cL_writeAll 6 = .ok (.aload_n 3, 1) := by decide +kernel
theorem dL_writeAll_7 : decode cL_writeAll 7 = .ok (.astore 4, 2) := by decide +kernel
theorem dL_writeAll_9 : decode cL_writeAll 9 = .ok (.aload 4, 2) := by decide +kernel
theorem dL_writeAll_11 : decode cL_writeAll 11 = .ok (.arraylength, 1) := by decide +kernel
theorem dL_writeAll_12 : decode cL_writeAll 12 = .ok (.istore 5, 2) := by decide +kernel
theorem dL_writeAll_14 : decode cL_writeAll 14 = .ok (.iconst 0, 1) := by decide +kernel
theorem dL_writeAll_15 : decode cL_writeAll 15 = .ok (.istore 6, 2) := by decide +kernel
theorem dL_writeAll_17 : decode cL_writeAll 17 = .ok (.iload 6, 2) := by decide +kernel
theorem dL_writeAll_19 : decode cL_writeAll 19 = .ok (.iload 5, 2) := by decide +kernel
theorem dL_writeAll_21 : decode cL_writeAll 21 = .ok (.if_icmp .ge 30, 3) := by decide +kernel
theorem dL_writeAll_24 : decode cL_writeAll 24 = .ok (.aload 4, 2) := by decide +kernel
theorem dL_writeAll_26 : decode cL_writeAll 26 = .ok (.iload 6, 2) := by decide +kernel
theorem dL_writeAll_28 : decode cL_writeAll 28 = .ok (.iaload, 1) := by decide +kernel
theorem dL_writeAll_29 : decode cL_writeAll 29 = .ok (.istore 7, 2) := by decide +kernel
theorem dL_writeAll_31 : decode cL_writeAll 31 = .ok (.aload_n 0, 1) := by decide +kernel
theorem dL_writeAll_32 : decode cL_writeAll 32 = .ok (.aload_n 1, 1) := by decide +kernel
theorem dL_writeAll_33 : decode cL_writeAll 33 = .ok (.ldc 100, 2) := by decide +kernel
theorem dL_writeAll_35 : decode cL_writeAll 35 = .ok (.invokestatic 96, 3) := by decide +kernel
theorem dL_writeAll_38 : decode cL_writeAll 38 = .ok (.aload_n 0, 1) := by decide +kernel
theorem dL_writeAll_39 : decode cL_writeAll 39 = .ok (.aload_n 1, 1) := by decide +kernel
theorem dL_writeAll_40 : decode cL_writeAll 40 = .ok (.iload 7, 2) := by decide +kernel
theorem dL_writeAll_42 : decode cL_writeAll 42 = .ok (.invokestatic 102, 3) := by decide +kernel
theorem dL_writeAll_45 : decode cL_writeAll 45 = .ok (.iinc 6 1, 3) := by decide +kernel
theorem dL_writeAll_48 : decode cL_writeAll 48 = .ok (.goto (-31), 3) := by decide +kernel
theorem dL_writeAll_51 : decode cL_writeAll 51 = .ok (.return_, 1) := by decide +kernel
theorem dL_randomClue_0 : decode cL_randomClue 0 = .ok (.new 105, 3) := by decide +kernel
theorem dL_randomClue_3 : decode cL_randomClue 3 = .ok (.dup, 1) := by decide +kernel
theorem dL_randomClue_4 : decode cL_randomClue 4 = .ok (.invokespecial 107, 3) := by decide +kernel
theorem dL_randomClue_7 : decode cL_randomClue 7 = .ok (.astore 4, 2) := by decide +kernel
theorem dL_randomClue_9 : decode cL_randomClue 9 = .ok (.aload_n 0, 1) := by decide +kernel
theorem dL_randomClue_10 : decode cL_randomClue 10 = .ok (.aload_n 1, 1) := by decide +kernel
theorem dL_randomClue_11 : decode cL_randomClue 11 = .ok (.ldc 108, 2) := by decide +kernel
theorem dL_randomClue_13 : decode cL_randomClue 13 = .ok (.invokestatic 96, 3) := by decide +kernel
theorem dL_randomClue_16 : decode cL_randomClue 16 = .ok (.aload_n 2, 1) := by decide +kernel
theorem dL_randomClue_17 : decode cL_randomClue 17 = .ok (.iload_n 3, 1) := by decide +kernel
theorem dL_randomClue_18 : decode cL_randomClue 18 = .ok (.invokevirtual 110, 3) := by decide +kernel
theorem dL_randomClue_21 : decode cL_randomClue 21 = .ok (.istore 5, 2) := by decide +kernel
theorem dL_randomClue_23 : decode cL_randomClue 23 = .ok (.iconst 0, 1) := by decide +kernel
theorem dL_randomClue_24 : decode cL_randomClue 24 = .ok (.istore 6, 2) := by decide +kernel
theorem dL_randomClue_26 : decode cL_randomClue 26 = .ok (.iload 6, 2) := by decide +kernel
theorem dL_randomClue_28 : decode cL_randomClue 28 = .ok (.iconst 1, 1) := by decide +kernel
theorem dL_randomClue_29 : decode cL_randomClue 29 = .ok (.aload_n 2, 1) := by decide +kernel
theorem dL_randomClue_30 : decode cL_randomClue 30 = .ok (.iconst 2, 1) := by decide +kernel
theorem dL_randomClue_31 : decode cL_randomClue 31 = .ok (.invokevirtual 110, 3) := by decide +kernel
theorem dL_randomClue_34 : decode cL_randomClue 34 = .ok (.iadd, 1) := by decide +kernel
theorem dL_randomClue_35 : decode cL_randomClue 35 = .ok (.if_icmp .ge 80, 3) := by decide +kernel
theorem dL_randomClue_38 : decode cL_randomClue 38 = .ok (.iload 6, 2) := by decide +kernel
theorem dL_randomClue_40 : decode cL_randomClue 40 = .ok (.iload_n 3, 1) := by decide +kernel
theorem dL_randomClue_41 : decode cL_randomClue 41 = .ok (.if_icmp .ge 74, 3) := by decide +kernel
theorem dL_randomClue_44 : decode cL_randomClue 44 = .ok (.iload 5, 2) := by decide +kernel
theorem dL_randomClue_46 : decode cL_randomClue 46 = .ok (.iload 6, 2) := by decide +kernel
theorem dL_randomClue_48 : decode cL_randomClue 48 = .ok (.iadd, 1) := by decide +kernel
theorem dL_randomClue_49 : decode cL_randomClue 49 = .ok (.iload_n 3, 1) := by decide +kernel
theorem dL_randomClue_50 : decode cL_randomClue 50 = .ok (.irem, 1) := by decide +kernel
theorem dL_randomClue_51 : decode cL_randomClue 51 = .ok (.istore 7, 2) := by decide +kernel
theorem dL_randomClue_53 : decode cL_randomClue 53 = .ok (.aload 4, 2) := by decide +kernel
theorem dL_randomClue_55 : decode cL_randomClue 55 = .ok (.aload 4, 2) := by decide +kernel
theorem dL_randomClue_57 : decode cL_randomClue 57 = .ok (.getfield 115, 3) := by decide +kernel
theorem dL_randomClue_60 : decode cL_randomClue 60 = .ok (.iload 7, 2) := by decide +kernel
theorem dL_randomClue_62 : decode cL_randomClue 62 = .ok (.invokestatic 118, 3) := by decide +kernel
theorem dL_randomClue_65 : decode cL_randomClue 65 = .ok (.putfield 115, 3) := by decide +kernel
theorem dL_randomClue_68 : decode cL_randomClue 68 = .ok (.iload 6, 2) := by decide +kernel
theorem dL_randomClue_70 : decode cL_randomClue 70 = .ok (.ifCond .le 10, 3) := by decide +kernel
theorem dL_randomClue_73 : decode cL_randomClue 73 = .ok (.aload_n 0, 1) := by decide +kernel
theorem dL_randomClue_74 : decode cL_randomClue 74 = .ok (.aload_n 1, 1) := by decide +kernel
theorem dL_randomClue_75 : decode cL_randomClue 75 = .ok (.ldc 122, 2) := by decide +kernel
theorem dL_randomClue_77 : decode cL_randomClue 77 = .ok (.invokestatic 96, 3) := by decide +kernel
theorem dL_randomClue_80 : decode cL_randomClue 80 = .ok (.aload_n 0, 1) := by decide +kernel
theorem dL_randomClue_81 : decode cL_randomClue 81 = .ok (.aload_n 1, 1) := by decide +kernel
theorem dL_randomClue_82 : decode cL_randomClue 82 = .ok (.new 124, 3) := by decide +kernel
theorem dL_randomClue_85 : decode cL_randomClue 85 = .ok (.dup, 1) := by decide +kernel
theorem dL_randomClue_86 : decode cL_randomClue 86 = .ok (.invokespecial 126, 3) := by decide +kernel
theorem dL_randomClue_89 : decode cL_randomClue 89 = .ok (.ldc 127, 2) := by decide +kernel
theorem dL_randomClue_91 : decode cL_randomClue 91 = .ok (.invokevirtual 129, 3) := by decide +kernel
theorem dL_randomClue_94 : decode cL_randomClue 94 = .ok (.bipush 97, 2) := by decide +kernel
theorem dL_randomClue_96 : decode cL_randomClue 96 = .ok (.iload 7, 2) := by decide +kernel
theorem dL_randomClue_98 : decode cL_randomClue 98 = .ok (.iadd, 1) := by decide +kernel
theorem dL_randomClue_99 : decode cL_randomClue 99 = .ok (.i2c, 1) := by decide +kernel
theorem dL_randomClue_100 : decode cL_randomClue 100 = .ok (.invokevirtual 132, 3) := by decide +kernel
theorem dL_randomClue_103 : decode cL_randomClue 103 = .ok (.invokevirtual 135, 3) := by decide +kernel
theorem dL_randomClue_106 : decode cL_randomClue 106 = .ok (.invokestatic 96, 3) := by decide +kernel
theorem dL_randomClue_109 : decode cL_randomClue 109 = .ok (.iinc 6 1, 3) := by decide +kernel
theorem dL_randomClue_112 : decode cL_randomClue 112 = .ok (.goto (-86), 3) := by decide +kernel
theorem dL_randomClue_115 : decode cL_randomClue 115 = .ok (.aload 4, 2) := by decide +kernel
theorem dL_randomClue_117 : decode cL_randomClue 117 = .ok (.aload_n 2, 1) := by decide +kernel
theorem dL_randomClue_118 : decode cL_randomClue 118 = .ok (.iconst 4, 1) := by decide +kernel
theorem dL_randomClue_119 : decode cL_randomClue 119 = .ok (.invokevirtual 110, 3) := by decide +kernel
theorem dL_randomClue_122 : decode cL_randomClue 122 = .ok (.anewarray 139, 3) := by decide +kernel
theorem dL_randomClue_125 : decode cL_randomClue 125 = .ok (.putfield 141, 3) := by decide +kernel
theorem dL_randomClue_128 : decode cL_randomClue 128 = .ok (.iconst 0, 1) := by decide +kernel
theorem dL_randomClue_129 : decode cL_randomClue 129 = .ok (.istore 6, 2) := by decide +kernel
theorem dL_randomClue_131 : decode cL_randomClue 131 = .ok (.iload 6, 2) := by decide +kernel
theorem dL_randomClue_133 : decode cL_randomClue 133 = .ok (.aload 4, 2) := by decide +kernel
theorem dL_randomClue_135 : decode cL_randomClue 135 = .ok (.getfield 141, 3) := by decide +kernel
theorem dL_randomClue_138 : decode cL_randomClue 138 = .ok (.arraylength, 1) := by decide +kernel
theorem dL_randomClue_139 : decode cL_randomClue 139 = .ok (.if_icmp .ge 265, 3) := by decide +kernel
theorem dL_randomClue_142 : decode cL_randomClue 142 = .ok (.new 139, 3) := by decide +kernel
theorem dL_randomClue_145 : decode cL_randomClue 145 = .ok (.dup, 1) := by decide +kernel
theorem dL_randomClue_146 : decode cL_randomClue 146 = .ok (.invokespecial 145, 3) := by decide +kernel
theorem dL_randomClue_149 : decode cL_randomClue 149 = .ok (.astore 7, 2) := by decide +kernel
theorem dL_randomClue_151 : decode cL_randomClue 151 = .ok (.aload 7, 2) := by decide +kernel
theorem dL_randomClue_153 : decode cL_randomClue 153 = .ok (.aload_n 2, 1) := by decide +kernel
theorem dL_randomClue_154 : decode cL_randomClue 154 = .ok (.iconst 3, 1) := by decide +kernel
theorem dL_randomClue_155 : decode cL_randomClue 155 = .ok (.invokevirtual 110, 3) := by decide +kernel
theorem dL_randomClue_158 : decode cL_randomClue 158 = .ok (.ifCond .ne 13, 3) := by decide +kernel
theorem dL_randomClue_161 : decode cL_randomClue 161 = .ok (.iconst 1, 1) := by decide +kernel
theorem dL_randomClue_162 : decode cL_randomClue 162 = .ok (.aload_n 2, 1) := by decide +kernel
theorem dL_randomClue_163 : decode cL_randomClue 163 = .ok (.iconst 2, 1) := by decide +kernel
theorem dL_randomClue_164 : decode cL_randomClue 164 = .ok (.invokevirtual 110, 3) := by decide +kernel
theorem dL_randomClue_167 : decode cL_randomClue 167 = .ok (.iadd, 1) := by decide +kernel
theorem dL_randomClue_168 : decode cL_randomClue 168 = .ok (.goto 4, 3) := by decide +kernel
theorem dL_randomClue_171 : decode cL_randomClue 171 = .ok (.iconst 0, 1) := by decide +kernel
theorem dL_randomClue_172 : decode cL_randomClue 172 = .ok (.putfield 146, 3) := by decide +kernel
theorem dL_randomClue_175 : decode cL_randomClue 175 = .ok (.aload 7, 2) := by decide +kernel
theorem dL_randomClue_177 : decode cL_randomClue 177 = .ok (.aload_n 2, 1) := by decide +kernel
theorem dL_randomClue_178 : decode cL_randomClue 178 = .ok (.bipush 8, 2) := by decide +kernel
theorem dL_randomClue_180 : decode cL_randomClue 180 = .ok (.invokevirtual 110, 3) := by decide +kernel
theorem dL_randomClue_183 : decode cL_randomClue 183 = .ok (.putfield 150, 3) := by decide +kernel
theorem dL_randomClue_186 : decode cL_randomClue 186 = .ok (.aload 7, 2) := by decide +kernel
theorem dL_randomClue_188 : decode cL_randomClue 188 = .ok (.aload 7, 2) := by decide +kernel
theorem dL_randomClue_190 : decode cL_randomClue 190 = .ok (.getfield 146, 3) := by decide +kernel
theorem dL_randomClue_193 : decode cL_randomClue 193 = .ok (.ifCond .ne 11, 3) := by decide +kernel
theorem dL_randomClue_196 : decode cL_randomClue 196 = .ok (.aload_n 2, 1) := by decide +kernel
theorem dL_randomClue_197 : decode cL_randomClue 197 = .ok (.iconst 5, 1) := by decide +kernel
theorem dL_randomClue_198 : decode cL_randomClue 198 = .ok (.invokevirtual 110, 3) := by decide +kernel
theorem dL_randomClue_201 : decode cL_randomClue 201 = .ok (.goto 21, 3) := by decide +kernel
theorem dL_randomClue_204 : decode cL_randomClue 204 = .ok (.aload 7, 2) := by decide +kernel
theorem dL_randomClue_206 : decode cL_randomClue 206 = .ok (.getfield 146, 3) := by decide +kernel
theorem dL_randomClue_209 : decode cL_randomClue 209 = .ok (.iconst 1, 1) := by decide +kernel
theorem dL_randomClue_210 : decode cL_randomClue 210 = .ok (.if_icmp .ne 11, 3) := by decide +kernel
theorem dL_randomClue_213 : decode cL_randomClue 213 = .ok (.aload_n 2, 1) := by decide +kernel
theorem dL_randomClue_214 : decode cL_randomClue 214 = .ok (.iload_n 3, 1) := by decide +kernel
theorem dL_randomClue_215 : decode cL_randomClue 215 = .ok (.invokevirtual 110, 3) := by decide +kernel
theorem dL_randomClue_218 : decode cL_randomClue 218 = .ok (.goto 4, 3) := by decide +kernel
theorem dL_randomClue_221 : decode cL_randomClue 221 = .ok (.iconst 0, 1) := by decide +kernel
theorem dL_randomClue_222 : decode cL_randomClue 222 = .ok (.putfield 153, 3) := by decide +kernel
theorem dL_randomClue_225 : decode cL_randomClue 225 = .ok (.aload 7, 2) := by decide +kernel
theorem dL_randomClue_227 : decode cL_randomClue 227 = .ok (.aload 7, 2) := by decide +kernel
theorem dL_randomClue_229 : decode cL_randomClue 229 = .ok (.getfield 146, 3) := by decide +kernel
theorem dL_randomClue_232 : decode cL_randomClue 232 = .ok (.ifCond .ne 11, 3) := by decide +kernel
theorem dL_randomClue_235 : decode cL_randomClue 235 = .ok (.aload_n 2, 1) := by decide +kernel
theorem dL_randomClue_236 : decode cL_randomClue 236 = .ok (.iconst 3, 1) := by decide +kernel
theorem dL_randomClue_237 : decode cL_randomClue 237 = .ok (.invokevirtual 110, 3) := by decide +kernel
theorem dL_randomClue_240 : decode cL_randomClue 240 = .ok (.goto 4, 3) := by decide +kernel
theorem dL_randomClue_243 : decode cL_randomClue 243 = .ok (.iconst 0, 1) := by decide +kernel
theorem dL_randomClue_244 : decode cL_randomClue 244 = .ok (.putfield 156, 3) := by decide +kernel
theorem dL_randomClue_247 : decode cL_randomClue 247 = .ok (.aload 7, 2) := by decide +kernel
theorem dL_randomClue_249 : decode cL_randomClue 249 = .ok (.getfield 146, 3) := by decide +kernel
theorem dL_randomClue_252 : decode cL_randomClue 252 = .ok (.ifCond .ne 21, 3) := by decide +kernel
theorem dL_randomClue_255 : decode cL_randomClue 255 = .ok (.aload_n 0, 1) := by decide +kernel
theorem dL_randomClue_256 : decode cL_randomClue 256 = .ok (.aload_n 1, 1) := by decide +kernel
theorem dL_randomClue_257 : decode cL_randomClue 257 = .ok (.ldc 159, 2) := by decide +kernel
theorem dL_randomClue_259 : decode cL_randomClue 259 = .ok (.iconst 1, 1) := by decide +kernel
theorem dL_randomClue_260 : decode cL_randomClue 260 = .ok (.newarray .int, 2) := by decide +kernel
theorem dL_randomClue_262 : decode cL_randomClue 262 = .ok (.dup, 1) := by decide +kernel
theorem dL_randomClue_263 : decode cL_randomClue 263 = .ok (.iconst 0, 1) := by decide +kernel
theorem dL_randomClue_264 : decode cL_randomClue 264 = .ok (.aload 7, 2) := by decide +kernel
theorem dL_randomClue_266 : decode cL_randomClue 266 = .ok (.getfield 153, 3) := by decide +kernel
theorem dL_randomClue_269 : decode cL_randomClue 269 = .ok (.iastore, 1) := by decide +kernel
theorem dL_randomClue_270 : decode cL_randomClue 270 = .ok (.invokestatic 161, 3) := by decide +kernel
theorem dL_randomClue_273 : decode cL_randomClue 273 = .ok (.aload 7, 2) := by decide +kernel
theorem dL_randomClue_275 : decode cL_randomClue 275 = .ok (.getfield 146, 3) := by decide +kernel
theorem dL_randomClue_278 : decode cL_randomClue 278 = .ok (.iconst 1, 1) := by decide +kernel
theorem dL_randomClue_279 : decode cL_randomClue 279 = .ok (.if_icmp .ne 35, 3) := by decide +kernel
theorem dL_randomClue_282 : decode cL_randomClue 282 = .ok (.aload_n 0, 1) := by decide +kernel
theorem dL_randomClue_283 : decode cL_randomClue 283 = .ok (.aload_n 1, 1) := by decide +kernel
theorem dL_randomClue_284 : decode cL_randomClue 284 = .ok (.new 124, 3) := by decide +kernel
theorem dL_randomClue_287 : decode cL_randomClue 287 = .ok (.dup, 1) := by decide +kernel
theorem dL_randomClue_288 : decode cL_randomClue 288 = .ok (.invokespecial 126, 3) := by decide +kernel
theorem dL_randomClue_291 : decode cL_randomClue 291 = .ok (.ldc 165, 2) := by decide +kernel
theorem dL_randomClue_293 : decode cL_randomClue 293 = .ok (.invokevirtual 129, 3) := by decide +kernel
theorem dL_randomClue_296 : decode cL_randomClue 296 = .ok (.bipush 97, 2) := by decide +kernel
theorem dL_randomClue_298 : decode cL_randomClue 298 = .ok (.aload 7, 2) := by decide +kernel
theorem dL_randomClue_300 : decode cL_randomClue 300 = .ok (.getfield 153, 3) := by decide +kernel
theorem dL_randomClue_303 : decode cL_randomClue 303 = .ok (.iadd, 1) := by decide +kernel
theorem dL_randomClue_304 : decode cL_randomClue 304 = .ok (.i2c, 1) := by decide +kernel
theorem dL_randomClue_305 : decode cL_randomClue 305 = .ok (.invokevirtual 132, 3) := by decide +kernel
theorem dL_randomClue_308 : decode cL_randomClue 308 = .ok (.invokevirtual 135, 3) := by decide +kernel
theorem dL_randomClue_311 : decode cL_randomClue 311 = .ok (.invokestatic 96, 3) := by decide +kernel
theorem dL_randomClue_314 : decode cL_randomClue 314 = .ok (.aload 7, 2) := by decide +kernel
theorem dL_randomClue_316 : decode cL_randomClue 316 = .ok (.getfield 146, 3) := by decide +kernel
theorem dL_randomClue_319 : decode cL_randomClue 319 = .ok (.iconst 2, 1) := by decide +kernel
theorem dL_randomClue_320 : decode cL_randomClue 320 = .ok (.if_icmp .ne 10, 3) := by decide +kernel
theorem dL_randomClue_323 : decode cL_randomClue 323 = .ok (.aload_n 0, 1) := by decide +kernel
theorem dL_randomClue_324 : decode cL_randomClue 324 = .ok (.aload_n 1, 1) := by decide +kernel
theorem dL_randomClue_325 : decode cL_randomClue 325 = .ok (.ldc 167, 2) := by decide +kernel
theorem dL_randomClue_327 : decode cL_randomClue 327 = .ok (.invokestatic 96, 3) := by decide +kernel
theorem dL_randomClue_330 : decode cL_randomClue 330 = .ok (.aload_n 0, 1) := by decide +kernel
theorem dL_randomClue_331 : decode cL_randomClue 331 = .ok (.aload_n 1, 1) := by decide +kernel
theorem dL_randomClue_332 : decode cL_randomClue 332 = .ok (.new 124, 3) := by decide +kernel
theorem dL_randomClue_335 : decode cL_randomClue 335 = .ok (.dup, 1) := by decide +kernel
theorem dL_randomClue_336 : decode cL_randomClue 336 = .ok (.invokespecial 126, 3) := by decide +kernel
theorem dL_randomClue_339 : decode cL_randomClue 339 = .ok (.ldc 100, 2) := by decide +kernel
theorem dL_randomClue_341 : decode cL_randomClue 341 = .ok (.invokevirtual 129, 3) := by decide +kernel
theorem dL_randomClue_344 : decode cL_randomClue 344 = .ok (.getstatic 169, 3) := by decide +kernel
theorem dL_randomClue_347 : decode cL_randomClue 347 = .ok (.aload 7, 2) := by decide +kernel
theorem dL_randomClue_349 : decode cL_randomClue 349 = .ok (.getfield 150, 3) := by decide +kernel
theorem dL_randomClue_352 : decode cL_randomClue 352 = .ok (.aaload, 1) := by decide +kernel
theorem dL_randomClue_353 : decode cL_randomClue 353 = .ok (.invokevirtual 129, 3) := by decide +kernel
theorem dL_randomClue_356 : decode cL_randomClue 356 = .ok (.invokevirtual 135, 3) := by decide +kernel
theorem dL_randomClue_359 : decode cL_randomClue 359 = .ok (.invokestatic 96, 3) := by decide +kernel
theorem dL_randomClue_362 : decode cL_randomClue 362 = .ok (.aload 7, 2) := by decide +kernel
theorem dL_randomClue_364 : decode cL_randomClue 364 = .ok (.getfield 156, 3) := by decide +kernel
theorem dL_randomClue_367 : decode cL_randomClue 367 = .ok (.ifCond .le 21, 3) := by decide +kernel
theorem dL_randomClue_370 : decode cL_randomClue 370 = .ok (.aload_n 0, 1) := by decide +kernel
theorem dL_randomClue_371 : decode cL_randomClue 371 = .ok (.aload_n 1, 1) := by decide +kernel
theorem dL_randomClue_372 : decode cL_randomClue 372 = .ok (.ldc 173, 2) := by decide +kernel
theorem dL_randomClue_374 : decode cL_randomClue 374 = .ok (.iconst 1, 1) := by decide +kernel
theorem dL_randomClue_375 : decode cL_randomClue 375 = .ok (.newarray .int, 2) := by decide +kernel
theorem dL_randomClue_377 : decode cL_randomClue 377 = .ok (.dup, 1) := by decide +kernel
theorem dL_randomClue_378 : decode cL_randomClue 378 = .ok (.iconst 0, 1) := by decide +kernel
theorem dL_randomClue_379 : decode cL_randomClue 379 = .ok (.aload 7, 2) := by decide +kernel
theorem dL_randomClue_381 : decode cL_randomClue 381 = .ok (.getfield 156, 3) := by decide +kernel
theorem dL_randomClue_384 : decode cL_randomClue 384 = .ok (.iastore, 1) := by decide +kernel
theorem dL_randomClue_385 : decode cL_randomClue 385 = .ok (.invokestatic 161, 3) := by decide +kernel
theorem dL_randomClue_388 : decode cL_randomClue 388 = .ok (.aload 4, 2) := by decide +kernel
theorem dL_randomClue_390 : decode cL_randomClue 390 = .ok (.getfield 141, 3) := by decide +kernel
theorem dL_randomClue_393 : decode cL_randomClue 393 = .ok (.iload 6, 2) := by decide +kernel
theorem dL_randomClue_395 : decode cL_randomClue 395 = .ok (.aload 7, 2) := by decide +kernel
theorem dL_randomClue_397 : decode cL_randomClue 397 = .ok (.aastore, 1) := by decide +kernel
theorem dL_randomClue_398 : decode cL_randomClue 398 = .ok (.iinc 6 1, 3) := by decide +kernel
theorem dL_randomClue_401 : decode cL_randomClue 401 = .ok (.goto (-270), 3) := by decide +kernel
theorem dL_randomClue_404 : decode cL_randomClue 404 = .ok (.aload_n 0, 1) := by decide +kernel
theorem dL_randomClue_405 : decode cL_randomClue 405 = .ok (.aload_n 1, 1) := by decide +kernel
theorem dL_randomClue_406 : decode cL_randomClue 406 = .ok (.ldc 175, 2) := by decide +kernel
theorem dL_randomClue_408 : decode cL_randomClue 408 = .ok (.invokestatic 96, 3) := by decide +kernel
theorem dL_randomClue_411 : decode cL_randomClue 411 = .ok (.aload 4, 2) := by decide +kernel
theorem dL_randomClue_413 : decode cL_randomClue 413 = .ok (.areturn, 1) := by decide +kernel
theorem dL_randomIsland_0 : decode cL_randomIsland 0 = .ok (.new 177, 3) := by decide +kernel
theorem dL_randomIsland_3 : decode cL_randomIsland 3 = .ok (.dup, 1) := by decide +kernel
theorem dL_randomIsland_4 : decode cL_randomIsland 4 = .ok (.invokespecial 179, 3) := by decide +kernel
theorem dL_randomIsland_7 : decode cL_randomIsland 7 = .ok (.astore_n 3, 1) := by decide +kernel
theorem dL_randomIsland_8 : decode cL_randomIsland 8 = .ok (.aload_n 3, 1) := by decide +kernel
theorem dL_randomIsland_9 : decode cL_randomIsland 9 = .ok (.iconst 2, 1) := by decide +kernel
theorem dL_randomIsland_10 : decode cL_randomIsland 10 = .ok (.aload_n 2, 1) := by decide +kernel
theorem dL_randomIsland_11 : decode cL_randomIsland 11 = .ok (.iconst 5, 1) := by decide +kernel
theorem dL_randomIsland_12 : decode cL_randomIsland 12 = .ok (.invokevirtual 110, 3) := by decide +kernel
theorem dL_randomIsland_15 : decode cL_randomIsland 15 = .ok (.iadd, 1) := by decide +kernel
theorem dL_randomIsland_16 : decode cL_randomIsland 16 = .ok (.putfield 180, 3) := by decide +kernel
theorem dL_randomIsland_19 : decode cL_randomIsland 19 = .ok (.aload_n 3, 1) := by decide +kernel
theorem dL_randomIsland_20 : decode cL_randomIsland 20 = .ok (.iconst 2, 1) := by decide +kernel
theorem dL_randomIsland_21 : decode cL_randomIsland 21 = .ok (.aload_n 2, 1) := by decide +kernel
theorem dL_randomIsland_22 : decode cL_randomIsland 22 = .ok (.iconst 4, 1) := by decide +kernel
theorem dL_randomIsland_23 : decode cL_randomIsland 23 = .ok (.invokevirtual 110, 3) := by decide +kernel
theorem dL_randomIsland_26 : decode cL_randomIsland 26 = .ok (.iadd, 1) := by decide +kernel
theorem dL_randomIsland_27 : decode cL_randomIsland 27 = .ok (.putfield 183, 3) := by decide +kernel
theorem dL_randomIsland_30 : decode cL_randomIsland 30 = .ok (.aload_n 3, 1) := by decide +kernel
theorem dL_randomIsland_31 : decode cL_randomIsland 31 = .ok (.getfield 180, 3) := by decide +kernel
theorem dL_randomIsland_34 : decode cL_randomIsland 34 = .ok (.aload_n 3, 1) := by decide +kernel
theorem dL_randomIsland_35 : decode cL_randomIsland 35 = .ok (.getfield 183, 3) := by decide +kernel
theorem dL_randomIsland_38 : decode cL_randomIsland 38 = .ok (.imul, 1) := by decide +kernel
theorem dL_randomIsland_39 : decode cL_randomIsland 39 = .ok (.istore 4, 2) := by decide +kernel
theorem dL_randomIsland_41 : decode cL_randomIsland 41 = .ok (.aload_n 3, 1) := by decide +kernel
theorem dL_randomIsland_42 : decode cL_randomIsland 42 = .ok (.iload 4, 2) := by decide +kernel
theorem dL_randomIsland_44 : decode cL_randomIsland 44 = .ok (.newarray .boolean, 2) := by decide +kernel
theorem dL_randomIsland_46 : decode cL_randomIsland 46 = .ok (.putfield 186, 3) := by decide +kernel
theorem dL_randomIsland_49 : decode cL_randomIsland 49 = .ok (.aload_n 3, 1) := by decide +kernel
theorem dL_randomIsland_50 : decode cL_randomIsland 50 = .ok (.iload 4, 2) := by decide +kernel
theorem dL_randomIsland_52 : decode cL_randomIsland 52 = .ok (.newarray .boolean, 2) := by decide +kernel
theorem dL_randomIsland_54 : decode cL_randomIsland 54 = .ok (.putfield 190, 3) := by decide +kernel
theorem dL_randomIsland_57 : decode cL_randomIsland 57 = .ok (.aload_n 0, 1) := by decide +kernel
theorem dL_randomIsland_58 : decode cL_randomIsland 58 = .ok (.aload_n 1, 1) := by decide +kernel
theorem dL_randomIsland_59 : decode cL_randomIsland 59 = .ok (.ldc 193, 2) := by decide +kernel
theorem dL_randomIsland_61 : decode cL_randomIsland 61 = .ok (.iconst 2, 1) := by decide +kernel
theorem dL_randomIsland_62 : decode cL_randomIsland 62 = .ok (.newarray .int, 2) := by decide +kernel
theorem dL_randomIsland_64 : decode cL_randomIsland 64 = .ok (.dup, 1) := by decide +kernel
theorem dL_randomIsland_65 : decode cL_randomIsland 65 = .ok (.iconst 0, 1) := by decide +kernel
theorem dL_randomIsland_66 : decode cL_randomIsland 66 = .ok (.aload_n 3, 1) := by decide +kernel
theorem dL_randomIsland_67 : decode cL_randomIsland 67 = .ok (.getfield 180, 3) := by decide +kernel
theorem dL_randomIsland_70 : decode cL_randomIsland 70 = .ok (.iastore, 1) := by decide +kernel
theorem dL_randomIsland_71 : decode cL_randomIsland 71 = .ok (.dup, 1) := by decide +kernel
theorem dL_randomIsland_72 : decode cL_randomIsland 72 = .ok (.iconst 1, 1) := by decide +kernel
theorem dL_randomIsland_73 : decode cL_randomIsland 73 = .ok (.aload_n 3, 1) := by decide +kernel
theorem dL_randomIsland_74 : decode cL_randomIsland 74 = .ok (.getfield 183, 3) := by decide +kernel
theorem dL_randomIsland_77 : decode cL_randomIsland 77 = .ok (.iastore, 1) := by decide +kernel
theorem dL_randomIsland_78 : decode cL_randomIsland 78 = .ok (.invokestatic 161, 3) := by decide +kernel
theorem dL_randomIsland_81 : decode cL_randomIsland 81 = .ok (.aload_n 0, 1) := by decide +kernel
theorem dL_randomIsland_82 : decode cL_randomIsland 82 = .ok (.aload_n 1, 1) := by decide +kernel
theorem dL_randomIsland_83 : decode cL_randomIsland 83 = .ok (.ldc 175, 2) := by decide +kernel
theorem dL_randomIsland_85 : decode cL_randomIsland 85 = .ok (.invokestatic 96, 3) := by decide +kernel
theorem dL_randomIsland_88 : decode cL_randomIsland 88 = .ok (.aload_n 2, 1) := by decide +kernel
theorem dL_randomIsland_89 : decode cL_randomIsland 89 = .ok (.iconst 4, 1) := by decide +kernel
theorem dL_randomIsland_90 : decode cL_randomIsland 90 = .ok (.invokevirtual 110, 3) := by decide +kernel
theorem dL_randomIsland_93 : decode cL_randomIsland 93 = .ok (.istore 5, 2) := by decide +kernel
theorem dL_randomIsland_95 : decode cL_randomIsland 95 = .ok (.iload 5, 2) := by decide +kernel
theorem dL_randomIsland_97 : decode cL_randomIsland 97 = .ok (.ifCond .le 86, 3) := by decide +kernel
theorem dL_randomIsland_100 : decode cL_randomIsland 100 = .ok (.iconst 1, 1) := by decide +kernel
theorem dL_randomIsland_101 : decode cL_randomIsland 101 = .ok (.aload_n 2, 1) := by decide +kernel
theorem dL_randomIsland_102 : decode cL_randomIsland 102 = .ok (.iload 4, 2) := by decide +kernel
theorem dL_randomIsland_104 : decode cL_randomIsland 104 = .ok (.iconst 1, 1) := by decide +kernel
theorem dL_randomIsland_105 : decode cL_randomIsland 105 = .ok (.isub, 1) := by decide +kernel
theorem dL_randomIsland_106 : decode cL_randomIsland 106 = .ok (.invokevirtual 110, 3) := by decide +kernel
theorem dL_randomIsland_109 : decode cL_randomIsland 109 = .ok (.iadd, 1) := by decide +kernel
theorem dL_randomIsland_110 : decode cL_randomIsland 110 = .ok (.istore 6, 2) := by decide +kernel
theorem dL_randomIsland_112 : decode cL_randomIsland 112 = .ok (.aload_n 3, 1) := by decide +kernel
theorem dL_randomIsland_113 : decode cL_randomIsland 113 = .ok (.getfield 186, 3) := by decide +kernel
theorem dL_randomIsland_116 : decode cL_randomIsland 116 = .ok (.iload 6, 2) := by decide +kernel
theorem dL_randomIsland_118 : decode cL_randomIsland 118 = .ok (.iconst 1, 1) := by decide +kernel
theorem dL_randomIsland_119 : decode cL_randomIsland 119 = .ok (.bastore, 1) := by decide +kernel
theorem dL_randomIsland_120 : decode cL_randomIsland 120 = .ok (.aload_n 0, 1) := by decide +kernel
theorem dL_randomIsland_121 : decode cL_randomIsland 121 = .ok (.aload_n 1, 1) := by decide +kernel
theorem dL_randomIsland_122 : decode cL_randomIsland 122 = .ok (.ldc 194, 2) := by decide +kernel
theorem dL_randomIsland_124 : decode cL_randomIsland 124 = .ok (.iconst 4, 1) := by decide +kernel
theorem dL_randomIsland_125 : decode cL_randomIsland 125 = .ok (.newarray .int, 2) := by decide +kernel
theorem dL_randomIsland_127 : decode cL_randomIsland 127 = .ok (.dup, 1) := by decide +kernel
theorem dL_randomIsland_128 : decode cL_randomIsland 128 = .ok (.iconst 0, 1) := by decide +kernel
theorem dL_randomIsland_129 : decode cL_randomIsland 129 = .ok (.iload 6, 2) := by decide +kernel
theorem dL_randomIsland_131 : decode cL_randomIsland 131 = .ok (.aload_n 3, 1) := by decide +kernel
theorem dL_randomIsland_132 : decode cL_randomIsland 132 = .ok (.getfield 180, 3) := by decide +kernel
theorem dL_randomIsland_135 : decode cL_randomIsland 135 = .ok (.irem, 1) := by decide +kernel
theorem dL_randomIsland_136 : decode cL_randomIsland 136 = .ok (.iastore, 1) := by decide +kernel
theorem dL_randomIsland_137 : decode cL_randomIsland 137 = .ok (.dup, 1) := by decide +kernel
theorem dL_randomIsland_138 : decode cL_randomIsland 138 = .ok (.iconst 1, 1) := by decide +kernel
theorem dL_randomIsland_139 : decode cL_randomIsland 139 = .ok (.iload 6, 2) := by decide +kernel
theorem dL_randomIsland_141 : decode cL_randomIsland 141 = .ok (.aload_n 3, 1) := by decide +kernel
theorem dL_randomIsland_142 : decode cL_randomIsland 142 = .ok (.getfield 180, 3) := by decide +kernel
theorem dL_randomIsland_145 : decode cL_randomIsland 145 = .ok (.idiv, 1) := by decide +kernel
theorem dL_randomIsland_146 : decode cL_randomIsland 146 = .ok (.iastore, 1) := by decide +kernel
theorem dL_randomIsland_147 : decode cL_randomIsland 147 = .ok (.dup, 1) := by decide +kernel
theorem dL_randomIsland_148 : decode cL_randomIsland 148 = .ok (.iconst 2, 1) := by decide +kernel
theorem dL_randomIsland_149 : decode cL_randomIsland 149 = .ok (.iload 6, 2) := by decide +kernel
theorem dL_randomIsland_151 : decode cL_randomIsland 151 = .ok (.aload_n 3, 1) := by decide +kernel
theorem dL_randomIsland_152 : decode cL_randomIsland 152 = .ok (.getfield 180, 3) := by decide +kernel
theorem dL_randomIsland_155 : decode cL_randomIsland 155 = .ok (.irem, 1) := by decide +kernel
theorem dL_randomIsland_156 : decode cL_randomIsland 156 = .ok (.iastore, 1) := by decide +kernel
theorem dL_randomIsland_157 : decode cL_randomIsland 157 = .ok (.dup, 1) := by decide +kernel
theorem dL_randomIsland_158 : decode cL_randomIsland 158 = .ok (.iconst 3, 1) := by decide +kernel
theorem dL_randomIsland_159 : decode cL_randomIsland 159 = .ok (.iload 6, 2) := by decide +kernel
theorem dL_randomIsland_161 : decode cL_randomIsland 161 = .ok (.aload_n 3, 1) := by decide +kernel
theorem dL_randomIsland_162 : decode cL_randomIsland 162 = .ok (.getfield 180, 3) := by decide +kernel
theorem dL_randomIsland_165 : decode cL_randomIsland 165 = .ok (.idiv, 1) := by decide +kernel
theorem dL_randomIsland_166 : decode cL_randomIsland 166 = .ok (.iastore, 1) := by decide +kernel
theorem dL_randomIsland_167 : decode cL_randomIsland 167 = .ok (.invokestatic 161, 3) := by decide +kernel
theorem dL_randomIsland_170 : decode cL_randomIsland 170 = .ok (.aload_n 0, 1) := by decide +kernel
theorem dL_randomIsland_171 : decode cL_randomIsland 171 = .ok (.aload_n 1, 1) := by decide +kernel
theorem dL_randomIsland_172 : decode cL_randomIsland 172 = .ok (.ldc 175, 2) := by decide +kernel
theorem dL_randomIsland_174 : decode cL_randomIsland 174 = .ok (.invokestatic 96, 3) := by decide +kernel
theorem dL_randomIsland_177 : decode cL_randomIsland 177 = .ok (.iinc 5 (-1), 3) := by decide +kernel
theorem dL_randomIsland_180 : decode cL_randomIsland 180 = .ok (.goto (-85), 3) := by decide +kernel
theorem dL_randomIsland_183 : decode cL_randomIsland 183 = .ok (.aload_n 2, 1) := by decide +kernel
theorem dL_randomIsland_184 : decode cL_randomIsland 184 = .ok (.iconst 3, 1) := by decide +kernel
theorem dL_randomIsland_185 : decode cL_randomIsland 185 = .ok (.invokevirtual 110, 3) := by decide +kernel
theorem dL_randomIsland_188 : decode cL_randomIsland 188 = .ok (.istore 5, 2) := by decide +kernel
theorem dL_randomIsland_190 : decode cL_randomIsland 190 = .ok (.aload_n 3, 1) := by decide +kernel
theorem dL_randomIsland_191 : decode cL_randomIsland 191 = .ok (.iload 5, 2) := by decide +kernel
theorem dL_randomIsland_193 : decode cL_randomIsland 193 = .ok (.anewarray 196, 3) := by decide +kernel
theorem dL_randomIsland_196 : decode cL_randomIsland 196 = .ok (.putfield 197, 3) := by decide +kernel
theorem dL_randomIsland_199 : decode cL_randomIsland 199 = .ok (.iconst 0, 1) := by decide +kernel
theorem dL_randomIsland_200 : decode cL_randomIsland 200 = .ok (.istore 6, 2) := by decide +kernel
theorem dL_randomIsland_202 : decode cL_randomIsland 202 = .ok (.iload 6, 2) := by decide +kernel
theorem dL_randomIsland_204 : decode cL_randomIsland 204 = .ok (.iload 5, 2) := by decide +kernel
theorem dL_randomIsland_206 : decode cL_randomIsland 206 = .ok (.if_icmp .ge 192, 3) := by decide +kernel
theorem dL_randomIsland_209 : decode cL_randomIsland 209 = .ok (.aload_n 2, 1) := by decide +kernel
theorem dL_randomIsland_210 : decode cL_randomIsland 210 = .ok (.aload_n 3, 1) := by decide +kernel
theorem dL_randomIsland_211 : decode cL_randomIsland 211 = .ok (.getfield 180, 3) := by decide +kernel
theorem dL_randomIsland_214 : decode cL_randomIsland 214 = .ok (.invokevirtual 110, 3) := by decide +kernel
theorem dL_randomIsland_217 : decode cL_randomIsland 217 = .ok (.istore 7, 2) := by decide +kernel
theorem dL_randomIsland_219 : decode cL_randomIsland 219 = .ok (.aload_n 2, 1) := by decide +kernel
theorem dL_randomIsland_220 : decode cL_randomIsland 220 = .ok (.aload_n 3, 1) := by decide +kernel
theorem dL_randomIsland_221 : decode cL_randomIsland 221 = .ok (.getfield 183, 3) := by decide +kernel
theorem dL_randomIsland_224 : decode cL_randomIsland 224 = .ok (.invokevirtual 110, 3) := by decide +kernel
theorem dL_randomIsland_227 : decode cL_randomIsland 227 = .ok (.istore 8, 2) := by decide +kernel
theorem dL_randomIsland_229 : decode cL_randomIsland 229 = .ok (.iconst 5, 1) := by decide +kernel
theorem dL_randomIsland_230 : decode cL_randomIsland 230 = .ok (.newarray .int, 2) := by decide +kernel
theorem dL_randomIsland_232 : decode cL_randomIsland 232 = .ok (.dup, 1) := by decide +kernel
theorem dL_randomIsland_233 : decode cL_randomIsland 233 = .ok (.iconst 0, 1) := by decide +kernel
theorem dL_randomIsland_234 : decode cL_randomIsland 234 = .ok (.iload 7, 2) := by decide +kernel
theorem dL_randomIsland_236 : decode cL_randomIsland 236 = .ok (.iastore, 1) := by decide +kernel
theorem dL_randomIsland_237 : decode cL_randomIsland 237 = .ok (.dup, 1) := by decide +kernel
theorem dL_randomIsland_238 : decode cL_randomIsland 238 = .ok (.iconst 1, 1) := by decide +kernel
theorem dL_randomIsland_239 : decode cL_randomIsland 239 = .ok (.iload 8, 2) := by decide +kernel
theorem dL_randomIsland_241 : decode cL_randomIsland 241 = .ok (.iastore, 1) := by decide +kernel
theorem dL_randomIsland_242 : decode cL_randomIsland 242 = .ok (.dup, 1) := by decide +kernel
theorem dL_randomIsland_243 : decode cL_randomIsland 243 = .ok (.iconst 2, 1) := by decide +kernel
theorem dL_randomIsland_244 : decode cL_randomIsland 244 = .ok (.iload 7, 2) := by decide +kernel
theorem dL_randomIsland_246 : decode cL_randomIsland 246 = .ok (.aload_n 2, 1) := by decide +kernel
theorem dL_randomIsland_247 : decode cL_randomIsland 247 = .ok (.aload_n 3, 1) := by decide +kernel
theorem dL_randomIsland_248 : decode cL_randomIsland 248 = .ok (.getfield 180, 3) := by decide +kernel
theorem dL_randomIsland_251 : decode cL_randomIsland 251 = .ok (.iload 7, 2) := by decide +kernel
theorem dL_randomIsland_253 : decode cL_randomIsland 253 = .ok (.isub, 1) := by decide +kernel
theorem dL_randomIsland_254 : decode cL_randomIsland 254 = .ok (.invokevirtual 110, 3) := by decide +kernel
theorem dL_randomIsland_257 : decode cL_randomIsland 257 = .ok (.iadd, 1) := by decide +kernel
theorem dL_randomIsland_258 : decode cL_randomIsland 258 = .ok (.iastore, 1) := by decide +kernel
theorem dL_randomIsland_259 : decode cL_randomIsland 259 = .ok (.dup, 1) := by decide +kernel
theorem dL_randomIsland_260 : decode cL_randomIsland 260 = .ok (.iconst 3, 1) := by decide +kernel
theorem dL_randomIsland_261 : decode cL_randomIsland 261 = .ok (.iload 8, 2) := by decide +kernel
theorem dL_randomIsland_263 : decode cL_randomIsland 263 = .ok (.aload_n 2, 1) := by decide +kernel
theorem dL_randomIsland_264 : decode cL_randomIsland 264 = .ok (.aload_n 3, 1) := by decide +kernel
theorem dL_randomIsland_265 : decode cL_randomIsland 265 = .ok (.getfield 183, 3) := by decide +kernel
theorem dL_randomIsland_268 : decode cL_randomIsland 268 = .ok (.iload 8, 2) := by decide +kernel
theorem dL_randomIsland_270 : decode cL_randomIsland 270 = .ok (.isub, 1) := by decide +kernel
theorem dL_randomIsland_271 : decode cL_randomIsland 271 = .ok (.invokevirtual 110, 3) := by decide +kernel
theorem dL_randomIsland_274 : decode cL_randomIsland 274 = .ok (.iadd, 1) := by decide +kernel
theorem dL_randomIsland_275 : decode cL_randomIsland 275 = .ok (.iastore, 1) := by decide +kernel
theorem dL_randomIsland_276 : decode cL_randomIsland 276 = .ok (.dup, 1) := by decide +kernel
theorem dL_randomIsland_277 : decode cL_randomIsland 277 = .ok (.iconst 4, 1) := by decide +kernel
theorem dL_randomIsland_278 : decode cL_randomIsland 278 = .ok (.aload_n 2, 1) := by decide +kernel
theorem dL_randomIsland_279 : decode cL_randomIsland 279 = .ok (.iconst 2, 1) := by decide +kernel
theorem dL_randomIsland_280 : decode cL_randomIsland 280 = .ok (.invokevirtual 110, 3) := by decide +kernel
theorem dL_randomIsland_283 : decode cL_randomIsland 283 = .ok (.ifCond .ne 13, 3) := by decide +kernel
theorem dL_randomIsland_286 : decode cL_randomIsland 286 = .ok (.iconst 1, 1) := by decide +kernel
theorem dL_randomIsland_287 : decode cL_randomIsland 287 = .ok (.aload_n 2, 1) := by decide +kernel
theorem dL_randomIsland_288 : decode cL_randomIsland 288 = .ok (.iconst 3, 1) := by decide +kernel
theorem dL_randomIsland_289 : decode cL_randomIsland 289 = .ok (.invokevirtual 110, 3) := by decide +kernel
theorem dL_randomIsland_292 : decode cL_randomIsland 292 = .ok (.iadd, 1) := by decide +kernel
theorem dL_randomIsland_293 : decode cL_randomIsland 293 = .ok (.goto 10, 3) := by decide +kernel
theorem dL_randomIsland_296 : decode cL_randomIsland 296 = .ok (.iconst (-1), 1) := by decide +kernel
theorem dL_randomIsland_297 : decode cL_randomIsland 297 = .ok (.aload_n 2, 1) := by decide +kernel
theorem dL_randomIsland_298 : decode cL_randomIsland 298 = .ok (.iconst 3, 1) := by decide +kernel
theorem dL_randomIsland_299 : decode cL_randomIsland 299 = .ok (.invokevirtual 110, 3) := by decide +kernel
theorem dL_randomIsland_302 : decode cL_randomIsland 302 = .ok (.isub, 1) := by decide +kernel
theorem dL_randomIsland_303 : decode cL_randomIsland 303 = .ok (.iastore, 1) := by decide +kernel
theorem dL_randomIsland_304 : decode cL_randomIsland 304 = .ok (.astore 9, 2) := by decide +kernel
theorem dL_randomIsland_306 : decode cL_randomIsland 306 = .ok (.aload_n 3, 1) := by decide +kernel
theorem dL_randomIsland_307 : decode cL_randomIsland 307 = .ok (.getfield 197, 3) := by decide +kernel
theorem dL_randomIsland_310 : decode cL_randomIsland 310 = .ok (.iload 6, 2) := by decide +kernel
theorem dL_randomIsland_312 : decode cL_randomIsland 312 = .ok (.aload 9, 2) := by decide +kernel
theorem dL_randomIsland_314 : decode cL_randomIsland 314 = .ok (.aastore, 1) := by decide +kernel
theorem dL_randomIsland_315 : decode cL_randomIsland 315 = .ok (.aload_n 0, 1) := by decide +kernel
theorem dL_randomIsland_316 : decode cL_randomIsland 316 = .ok (.aload_n 1, 1) := by decide +kernel
theorem dL_randomIsland_317 : decode cL_randomIsland 317 = .ok (.ldc 201, 2) := by decide +kernel
theorem dL_randomIsland_319 : decode cL_randomIsland 319 = .ok (.iconst 4, 1) := by decide +kernel
theorem dL_randomIsland_320 : decode cL_randomIsland 320 = .ok (.newarray .int, 2) := by decide +kernel
theorem dL_randomIsland_322 : decode cL_randomIsland 322 = .ok (.dup, 1) := by decide +kernel
theorem dL_randomIsland_323 : decode cL_randomIsland 323 = .ok (.iconst 0, 1) := by decide +kernel
theorem dL_randomIsland_324 : decode cL_randomIsland 324 = .ok (.aload 9, 2) := by decide +kernel
theorem dL_randomIsland_326 : decode cL_randomIsland 326 = .ok (.iconst 0, 1) := by decide +kernel
theorem dL_randomIsland_327 : decode cL_randomIsland 327 = .ok (.iaload, 1) := by decide +kernel
theorem dL_randomIsland_328 : decode cL_randomIsland 328 = .ok (.iastore, 1) := by decide +kernel
theorem dL_randomIsland_329 : decode cL_randomIsland 329 = .ok (.dup, 1) := by decide +kernel
theorem dL_randomIsland_330 : decode cL_randomIsland 330 = .ok (.iconst 1, 1) := by decide +kernel
theorem dL_randomIsland_331 : decode cL_randomIsland 331 = .ok (.aload 9, 2) := by decide +kernel
theorem dL_randomIsland_333 : decode cL_randomIsland 333 = .ok (.iconst 1, 1) := by decide +kernel
theorem dL_randomIsland_334 : decode cL_randomIsland 334 = .ok (.iaload, 1) := by decide +kernel
theorem dL_randomIsland_335 : decode cL_randomIsland 335 = .ok (.iastore, 1) := by decide +kernel
theorem dL_randomIsland_336 : decode cL_randomIsland 336 = .ok (.dup, 1) := by decide +kernel
theorem dL_randomIsland_337 : decode cL_randomIsland 337 = .ok (.iconst 2, 1) := by decide +kernel
theorem dL_randomIsland_338 : decode cL_randomIsland 338 = .ok (.aload 9, 2) := by decide +kernel
theorem dL_randomIsland_340 : decode cL_randomIsland 340 = .ok (.iconst 2, 1) := by decide +kernel
theorem dL_randomIsland_341 : decode cL_randomIsland 341 = .ok (.iaload, 1) := by decide +kernel
theorem dL_randomIsland_342 : decode cL_randomIsland 342 = .ok (.iastore, 1) := by decide +kernel
theorem dL_randomIsland_343 : decode cL_randomIsland 343 = .ok (.dup, 1) := by decide +kernel
theorem dL_randomIsland_344 : decode cL_randomIsland 344 = .ok (.iconst 3, 1) := by decide +kernel
theorem dL_randomIsland_345 : decode cL_randomIsland 345 = .ok (.aload 9, 2) := by decide +kernel
theorem dL_randomIsland_347 : decode cL_randomIsland 347 = .ok (.iconst 3, 1) := by decide +kernel
theorem dL_randomIsland_348 : decode cL_randomIsland 348 = .ok (.iaload, 1) := by decide +kernel
theorem dL_randomIsland_349 : decode cL_randomIsland 349 = .ok (.iastore, 1) := by decide +kernel
theorem dL_randomIsland_350 : decode cL_randomIsland 350 = .ok (.invokestatic 161, 3) := by decide +kernel
theorem dL_randomIsland_353 : decode cL_randomIsland 353 = .ok (.aload_n 0, 1) := by decide +kernel
theorem dL_randomIsland_354 : decode cL_randomIsland 354 = .ok (.aload_n 1, 1) := by decide +kernel
theorem dL_randomIsland_355 : decode cL_randomIsland 355 = .ok (.aload 9, 2) := by decide +kernel
theorem dL_randomIsland_357 : decode cL_randomIsland 357 = .ok (.iconst 4, 1) := by decide +kernel
theorem dL_randomIsland_358 : decode cL_randomIsland 358 = .ok (.iaload, 1) := by decide +kernel
theorem dL_randomIsland_359 : decode cL_randomIsland 359 = .ok (.ifCond .ge 8, 3) := by decide +kernel
theorem dL_randomIsland_362 : decode cL_randomIsland 362 = .ok (.ldc 203, 2) := by decide +kernel
theorem dL_randomIsland_364 : decode cL_randomIsland 364 = .ok (.goto 5, 3) := by decide +kernel
theorem dL_randomIsland_367 : decode cL_randomIsland 367 = .ok (.ldc 205, 2) := by decide +kernel
theorem dL_randomIsland_369 : decode cL_randomIsland 369 = .ok (.iconst 1, 1) := by decide +kernel
theorem dL_randomIsland_370 : decode cL_randomIsland 370 = .ok (.newarray .int, 2) := by decide +kernel
theorem dL_randomIsland_372 : decode cL_randomIsland 372 = .ok (.dup, 1) := by decide +kernel
theorem dL_randomIsland_373 : decode cL_randomIsland 373 = .ok (.iconst 0, 1) := by decide +kernel
theorem dL_randomIsland_374 : decode cL_randomIsland 374 = .ok (.aload 9, 2) := by decide +kernel
theorem dL_randomIsland_376 : decode cL_randomIsland 376 = .ok (.iconst 4, 1) := by decide +kernel
theorem dL_randomIsland_377 : decode cL_randomIsland 377 = .ok (.iaload, 1) := by decide +kernel
theorem dL_randomIsland_378 : decode cL_randomIsland 378 = .ok (.invokestatic 207, 3) := by decide +kernel
theorem dL_randomIsland_381 : decode cL_randomIsland 381 = .ok (.iastore, 1) := by decide +kernel
theorem dL_randomIsland_382 : decode cL_randomIsland 382 = .ok (.invokestatic 161, 3) := by decide +kernel
theorem dL_randomIsland_385 : decode cL_randomIsland 385 = .ok (.aload_n 0, 1) := by decide +kernel
theorem dL_randomIsland_386 : decode cL_randomIsland 386 = .ok (.aload_n 1, 1) := by decide +kernel
theorem dL_randomIsland_387 : decode cL_randomIsland 387 = .ok (.ldc 175, 2) := by decide +kernel
theorem dL_randomIsland_389 : decode cL_randomIsland 389 = .ok (.invokestatic 96, 3) := by decide +kernel
theorem dL_randomIsland_392 : decode cL_randomIsland 392 = .ok (.iinc 6 1, 3) := by decide +kernel
theorem dL_randomIsland_395 : decode cL_randomIsland 395 = .ok (.goto (-193), 3) := by decide +kernel
theorem dL_randomIsland_398 : decode cL_randomIsland 398 = .ok (.iconst 1, 1) := by decide +kernel
theorem dL_randomIsland_399 : decode cL_randomIsland 399 = .ok (.aload_n 2, 1) := by decide +kernel
theorem dL_randomIsland_400 : decode cL_randomIsland 400 = .ok (.iconst 3, 1) := by decide +kernel
theorem dL_randomIsland_401 : decode cL_randomIsland 401 = .ok (.invokevirtual 110, 3) := by decide +kernel
theorem dL_randomIsland_404 : decode cL_randomIsland 404 = .ok (.iadd, 1) := by decide +kernel
theorem dL_randomIsland_405 : decode cL_randomIsland 405 = .ok (.istore 6, 2) := by decide +kernel
theorem dL_randomIsland_407 : decode cL_randomIsland 407 = .ok (.iconst 0, 1) := by decide +kernel
theorem dL_randomIsland_408 : decode cL_randomIsland 408 = .ok (.istore 7, 2) := by decide +kernel
theorem dL_randomIsland_410 : decode cL_randomIsland 410 = .ok (.iload 7, 2) := by decide +kernel
theorem dL_randomIsland_412 : decode cL_randomIsland 412 = .ok (.iload 6, 2) := by decide +kernel
theorem dL_randomIsland_414 : decode cL_randomIsland 414 = .ok (.if_icmp .ge 107, 3) := by decide +kernel
theorem dL_randomIsland_417 : decode cL_randomIsland 417 = .ok (.aload_n 2, 1) := by decide +kernel
theorem dL_randomIsland_418 : decode cL_randomIsland 418 = .ok (.iload 4, 2) := by decide +kernel
theorem dL_randomIsland_420 : decode cL_randomIsland 420 = .ok (.invokevirtual 110, 3) := by decide +kernel
theorem dL_randomIsland_423 : decode cL_randomIsland 423 = .ok (.istore 8, 2) := by decide +kernel
theorem dL_randomIsland_425 : decode cL_randomIsland 425 = .ok (.aload_n 3, 1) := by decide +kernel
theorem dL_randomIsland_426 : decode cL_randomIsland 426 = .ok (.getfield 186, 3) := by decide +kernel
theorem dL_randomIsland_429 : decode cL_randomIsland 429 = .ok (.iload 8, 2) := by decide +kernel
theorem dL_randomIsland_431 : decode cL_randomIsland 431 = .ok (.baload, 1) := by decide +kernel
theorem dL_randomIsland_432 : decode cL_randomIsland 432 = .ok (.ifCond .eq 15, 3) := by decide +kernel
theorem dL_randomIsland_435 : decode cL_randomIsland 435 = .ok (.iload 8, 2) := by decide +kernel
theorem dL_randomIsland_437 : decode cL_randomIsland 437 = .ok (.iconst 1, 1) := by decide +kernel
theorem dL_randomIsland_438 : decode cL_randomIsland 438 = .ok (.iadd, 1) := by decide +kernel
theorem dL_randomIsland_439 : decode cL_randomIsland 439 = .ok (.iload 4, 2) := by decide +kernel
theorem dL_randomIsland_441 : decode cL_randomIsland 441 = .ok (.irem, 1) := by decide +kernel
theorem dL_randomIsland_442 : decode cL_randomIsland 442 = .ok (.istore 8, 2) := by decide +kernel
theorem dL_randomIsland_444 : decode cL_randomIsland 444 = .ok (.goto (-19), 3) := by decide +kernel
theorem dL_randomIsland_447 : decode cL_randomIsland 447 = .ok (.aload_n 3, 1) := by decide +kernel
theorem dL_randomIsland_448 : decode cL_randomIsland 448 = .ok (.getfield 212, 3) := by decide +kernel
theorem dL_randomIsland_451 : decode cL_randomIsland 451 = .ok (.iload 7, 2) := by decide +kernel
theorem dL_randomIsland_453 : decode cL_randomIsland 453 = .ok (.iload 8, 2) := by decide +kernel
theorem dL_randomIsland_455 : decode cL_randomIsland 455 = .ok (.iastore, 1) := by decide +kernel
theorem dL_randomIsland_456 : decode cL_randomIsland 456 = .ok (.aload_n 0, 1) := by decide +kernel
theorem dL_randomIsland_457 : decode cL_randomIsland 457 = .ok (.aload_n 1, 1) := by decide +kernel
theorem dL_randomIsland_458 : decode cL_randomIsland 458 = .ok (.new 124, 3) := by decide +kernel
theorem dL_randomIsland_461 : decode cL_randomIsland 461 = .ok (.dup, 1) := by decide +kernel
theorem dL_randomIsland_462 : decode cL_randomIsland 462 = .ok (.invokespecial 126, 3) := by decide +kernel
theorem dL_randomIsland_465 : decode cL_randomIsland 465 = .ok (.ldc 215, 2) := by decide +kernel
theorem dL_randomIsland_467 : decode cL_randomIsland 467 = .ok (.invokevirtual 129, 3) := by decide +kernel
theorem dL_randomIsland_470 : decode cL_randomIsland 470 = .ok (.bipush 97, 2) := by decide +kernel
theorem dL_randomIsland_472 : decode cL_randomIsland 472 = .ok (.iload 7, 2) := by decide +kernel
theorem dL_randomIsland_474 : decode cL_randomIsland 474 = .ok (.iadd, 1) := by decide +kernel
theorem dL_randomIsland_475 : decode cL_randomIsland 475 = .ok (.i2c, 1) := by decide +kernel
theorem dL_randomIsland_476 : decode cL_randomIsland 476 = .ok (.invokevirtual 132, 3) := by decide +kernel
theorem dL_randomIsland_479 : decode cL_randomIsland 479 = .ok (.invokevirtual 135, 3) := by decide +kernel
theorem dL_randomIsland_482 : decode cL_randomIsland 482 = .ok (.iconst 2, 1) := by decide +kernel
theorem dL_randomIsland_483 : decode cL_randomIsland 483 = .ok (.newarray .int, 2) := by decide +kernel
theorem dL_randomIsland_485 : decode cL_randomIsland 485 = .ok (.dup, 1) := by decide +kernel
theorem dL_randomIsland_486 : decode cL_randomIsland 486 = .ok (.iconst 0, 1) := by decide +kernel
theorem dL_randomIsland_487 : decode cL_randomIsland 487 = .ok (.iload 8, 2) := by decide +kernel
theorem dL_randomIsland_489 : decode cL_randomIsland 489 = .ok (.aload_n 3, 1) := by decide +kernel
theorem dL_randomIsland_490 : decode cL_randomIsland 490 = .ok (.getfield 180, 3) := by decide +kernel
theorem dL_randomIsland_493 : decode cL_randomIsland 493 = .ok (.irem, 1) := by decide +kernel
theorem dL_randomIsland_494 : decode cL_randomIsland 494 = .ok (.iastore, 1) := by decide +kernel
theorem dL_randomIsland_495 : decode cL_randomIsland 495 = .ok (.dup, 1) := by decide +kernel
theorem dL_randomIsland_496 : decode cL_randomIsland 496 = .ok (.iconst 1, 1) := by decide +kernel
theorem dL_randomIsland_497 : decode cL_randomIsland 497 = .ok (.iload 8, 2) := by decide +kernel
theorem dL_randomIsland_499 : decode cL_randomIsland 499 = .ok (.aload_n 3, 1) := by decide +kernel
theorem dL_randomIsland_500 : decode cL_randomIsland 500 = .ok (.getfield 180, 3) := by decide +kernel
theorem dL_randomIsland_503 : decode cL_randomIsland 503 = .ok (.idiv, 1) := by decide +kernel
theorem dL_randomIsland_504 : decode cL_randomIsland 504 = .ok (.iastore, 1) := by decide +kernel
theorem dL_randomIsland_505 : decode cL_randomIsland 505 = .ok (.invokestatic 161, 3) := by decide +kernel
theorem dL_randomIsland_508 : decode cL_randomIsland 508 = .ok (.aload_n 0, 1) := by decide +kernel
theorem dL_randomIsland_509 : decode cL_randomIsland 509 = .ok (.aload_n 1, 1) := by decide +kernel
theorem dL_randomIsland_510 : decode cL_randomIsland 510 = .ok (.ldc 175, 2) := by decide +kernel
theorem dL_randomIsland_512 : decode cL_randomIsland 512 = .ok (.invokestatic 96, 3) := by decide +kernel
theorem dL_randomIsland_515 : decode cL_randomIsland 515 = .ok (.iinc 7 1, 3) := by decide +kernel
theorem dL_randomIsland_518 : decode cL_randomIsland 518 = .ok (.goto (-108), 3) := by decide +kernel
theorem dL_randomIsland_521 : decode cL_randomIsland 521 = .ok (.aload_n 2, 1) := by decide +kernel
theorem dL_randomIsland_522 : decode cL_randomIsland 522 = .ok (.iconst 2, 1) := by decide +kernel
theorem dL_randomIsland_523 : decode cL_randomIsland 523 = .ok (.invokevirtual 110, 3) := by decide +kernel
theorem dL_randomIsland_526 : decode cL_randomIsland 526 = .ok (.ifCond .ne 54, 3) := by decide +kernel
theorem dL_randomIsland_529 : decode cL_randomIsland 529 = .ok (.aload_n 3, 1) := by decide +kernel
theorem dL_randomIsland_530 : decode cL_randomIsland 530 = .ok (.aload_n 3, 1) := by decide +kernel
theorem dL_randomIsland_531 : decode cL_randomIsland 531 = .ok (.getfield 212, 3) := by decide +kernel
theorem dL_randomIsland_534 : decode cL_randomIsland 534 = .ok (.iconst 0, 1) := by decide +kernel
theorem dL_randomIsland_535 : decode cL_randomIsland 535 = .ok (.iaload, 1) := by decide +kernel
theorem dL_randomIsland_536 : decode cL_randomIsland 536 = .ok (.putfield 217, 3) := by decide +kernel
theorem dL_randomIsland_539 : decode cL_randomIsland 539 = .ok (.aload_n 0, 1) := by decide +kernel
theorem dL_randomIsland_540 : decode cL_randomIsland 540 = .ok (.aload_n 1, 1) := by decide +kernel
theorem dL_randomIsland_541 : decode cL_randomIsland 541 = .ok (.ldc 220, 2) := by decide +kernel
theorem dL_randomIsland_543 : decode cL_randomIsland 543 = .ok (.iconst 2, 1) := by decide +kernel
theorem dL_randomIsland_544 : decode cL_randomIsland 544 = .ok (.newarray .int, 2) := by decide +kernel
theorem dL_randomIsland_546 : decode cL_randomIsland 546 = .ok (.dup, 1) := by decide +kernel
theorem dL_randomIsland_547 : decode cL_randomIsland 547 = .ok (.iconst 0, 1) := by decide +kernel
theorem dL_randomIsland_548 : decode cL_randomIsland 548 = .ok (.aload_n 3, 1) := by decide +kernel
theorem dL_randomIsland_549 : decode cL_randomIsland 549 = .ok (.getfield 217, 3) := by decide +kernel
theorem dL_randomIsland_552 : decode cL_randomIsland 552 = .ok (.aload_n 3, 1) := by decide +kernel
theorem dL_randomIsland_553 : decode cL_randomIsland 553 = .ok (.getfield 180, 3) := by decide +kernel
theorem dL_randomIsland_556 : decode cL_randomIsland 556 = .ok (.irem, 1) := by decide +kernel
theorem dL_randomIsland_557 : decode cL_randomIsland 557 = .ok (.iastore, 1) := by decide +kernel
theorem dL_randomIsland_558 : decode cL_randomIsland 558 = .ok (.dup, 1) := by decide +kernel
theorem dL_randomIsland_559 : decode cL_randomIsland 559 = .ok (.iconst 1, 1) := by decide +kernel
theorem dL_randomIsland_560 : decode cL_randomIsland 560 = .ok (.aload_n 3, 1) := by decide +kernel
theorem dL_randomIsland_561 : decode cL_randomIsland 561 = .ok (.getfield 217, 3) := by decide +kernel
theorem dL_randomIsland_564 : decode cL_randomIsland 564 = .ok (.aload_n 3, 1) := by decide +kernel
theorem dL_randomIsland_565 : decode cL_randomIsland 565 = .ok (.getfield 180, 3) := by decide +kernel
theorem dL_randomIsland_568 : decode cL_randomIsland 568 = .ok (.idiv, 1) := by decide +kernel
theorem dL_randomIsland_569 : decode cL_randomIsland 569 = .ok (.iastore, 1) := by decide +kernel
theorem dL_randomIsland_570 : decode cL_randomIsland 570 = .ok (.invokestatic 161, 3) := by decide +kernel
theorem dL_randomIsland_573 : decode cL_randomIsland 573 = .ok (.aload_n 0, 1) := by decide +kernel
theorem dL_randomIsland_574 : decode cL_randomIsland 574 = .ok (.aload_n 1, 1) := by decide +kernel
theorem dL_randomIsland_575 : decode cL_randomIsland 575 = .ok (.ldc 175, 2) := by decide +kernel
theorem dL_randomIsland_577 : decode cL_randomIsland 577 = .ok (.invokestatic 96, 3) := by decide +kernel
theorem dL_randomIsland_580 : decode cL_randomIsland 580 = .ok (.aload_n 2, 1) := by decide +kernel
theorem dL_randomIsland_581 : decode cL_randomIsland 581 = .ok (.iconst 4, 1) := by decide +kernel
theorem dL_randomIsland_582 : decode cL_randomIsland 582 = .ok (.invokevirtual 110, 3) := by decide +kernel
theorem dL_randomIsland_585 : decode cL_randomIsland 585 = .ok (.istore 7, 2) := by decide +kernel
theorem dL_randomIsland_587 : decode cL_randomIsland 587 = .ok (.aload_n 3, 1) := by decide +kernel
theorem dL_randomIsland_588 : decode cL_randomIsland 588 = .ok (.iload 7, 2) := by decide +kernel
theorem dL_randomIsland_590 : decode cL_randomIsland 590 = .ok (.anewarray 105, 3) := by decide +kernel
theorem dL_randomIsland_593 : decode cL_randomIsland 593 = .ok (.putfield 221, 3) := by decide +kernel
theorem dL_randomIsland_596 : decode cL_randomIsland 596 = .ok (.iconst 0, 1) := by decide +kernel
theorem dL_randomIsland_597 : decode cL_randomIsland 597 = .ok (.istore 8, 2) := by decide +kernel
theorem dL_randomIsland_599 : decode cL_randomIsland 599 = .ok (.iload 8, 2) := by decide +kernel
theorem dL_randomIsland_601 : decode cL_randomIsland 601 = .ok (.iload 7, 2) := by decide +kernel
theorem dL_randomIsland_603 : decode cL_randomIsland 603 = .ok (.if_icmp .ge 24, 3) := by decide +kernel
theorem dL_randomIsland_606 : decode cL_randomIsland 606 = .ok (.aload_n 3, 1) := by decide +kernel
theorem dL_randomIsland_607 : decode cL_randomIsland 607 = .ok (.getfield 221, 3) := by decide +kernel
theorem dL_randomIsland_610 : decode cL_randomIsland 610 = .ok (.iload 8, 2) := by decide +kernel
theorem dL_randomIsland_612 : decode cL_randomIsland 612 = .ok (.aload_n 0, 1) := by decide +kernel
theorem dL_randomIsland_613 : decode cL_randomIsland 613 = .ok (.aload_n 1, 1) := by decide +kernel
theorem dL_randomIsland_614 : decode cL_randomIsland 614 = .ok (.aload_n 2, 1) := by decide +kernel
theorem dL_randomIsland_615 : decode cL_randomIsland 615 = .ok (.iload 6, 2) := by decide +kernel
theorem dL_randomIsland_617 : decode cL_randomIsland 617 = .ok (.invokestatic 225, 3) := by decide +kernel
theorem dL_randomIsland_620 : decode cL_randomIsland 620 = .ok (.aastore, 1) := by decide +kernel
theorem dL_randomIsland_621 : decode cL_randomIsland 621 = .ok (.iinc 8 1, 3) := by decide +kernel
theorem dL_randomIsland_624 : decode cL_randomIsland 624 = .ok (.goto (-25), 3) := by decide +kernel
theorem dL_randomIsland_627 : decode cL_randomIsland 627 = .ok (.aload_n 0, 1) := by decide +kernel
theorem dL_randomIsland_628 : decode cL_randomIsland 628 = .ok (.aload_n 1, 1) := by decide +kernel
theorem dL_randomIsland_629 : decode cL_randomIsland 629 = .ok (.invokestatic 229, 3) := by decide +kernel
theorem dL_randomIsland_632 : decode cL_randomIsland 632 = .ok (.iload 7, 2) := by decide +kernel
theorem dL_randomIsland_634 : decode cL_randomIsland 634 = .ok (.if_icmp .ne 7, 3) := by decide +kernel
theorem dL_randomIsland_637 : decode cL_randomIsland 637 = .ok (.aload_n 3, 1) := by decide +kernel
theorem dL_randomIsland_638 : decode cL_randomIsland 638 = .ok (.goto 4, 3) := by decide +kernel
theorem dL_randomIsland_641 : decode cL_randomIsland 641 = .ok (.aconst_null, 1) := by decide +kernel
theorem dL_randomIsland_642 : decode cL_randomIsland 642 = .ok (.areturn, 1) := by decide +kernel
theorem dL_agrees_0 : decode cL_agrees 0 = .ok (.aload_n 0, 1) := by decide +kernel
theorem dL_agrees_1 : decode cL_agrees 1 = .ok (.invokevirtual 233, 3) := by decide +kernel
theorem dL_agrees_4 : decode cL_agrees 4 = .ok (.aload_n 1, 1) := by decide +kernel
theorem dL_agrees_5 : decode cL_agrees 5 = .ok (.invokevirtual 237, 3) := by decide +kernel
theorem dL_agrees_8 : decode cL_agrees 8 = .ok (.lcmp, 1) := by decide +kernel
theorem dL_agrees_9 : decode cL_agrees 9 = .ok (.ifCond .ne 47, 3) := by decide +kernel
theorem dL_agrees_12 : decode cL_agrees 12 = .ok (.aload_n 0, 1) := by decide +kernel
theorem dL_agrees_13 : decode cL_agrees 13 = .ok (.bipush 13, 2) := by decide +kernel
theorem dL_agrees_15 : decode cL_agrees 15 = .ok (.invokestatic 238, 3) := by decide +kernel
theorem dL_agrees_18 : decode cL_agrees 18 = .ok (.ldc 42, 2) := by decide +kernel
theorem dL_agrees_20 : decode cL_agrees 20 = .ok (.if_icmp .ne 36, 3) := by decide +kernel
theorem dL_agrees_23 : decode cL_agrees 23 = .ok (.aload_n 0, 1) := by decide +kernel
theorem dL_agrees_24 : decode cL_agrees 24 = .ok (.aload_n 1, 1) := by decide +kernel
theorem dL_agrees_25 : decode cL_agrees 25 = .ok (.getfield 180, 3) := by decide +kernel
theorem dL_agrees_28 : decode cL_agrees 28 = .ok (.iconst 0, 1) := by decide +kernel
theorem dL_agrees_29 : decode cL_agrees 29 = .ok (.invokestatic 240, 3) := by decide +kernel
theorem dL_agrees_32 : decode cL_agrees 32 = .ok (.ldc 52, 2) := by decide +kernel
theorem dL_agrees_34 : decode cL_agrees 34 = .ok (.if_icmp .ne 22, 3) := by decide +kernel
theorem dL_agrees_37 : decode cL_agrees 37 = .ok (.aload_n 0, 1) := by decide +kernel
theorem dL_agrees_38 : decode cL_agrees 38 = .ok (.aload_n 1, 1) := by decide +kernel
theorem dL_agrees_39 : decode cL_agrees 39 = .ok (.getfield 221, 3) := by decide +kernel
theorem dL_agrees_42 : decode cL_agrees 42 = .ok (.arraylength, 1) := by decide +kernel
theorem dL_agrees_43 : decode cL_agrees 43 = .ok (.iconst 0, 1) := by decide +kernel
theorem dL_agrees_44 : decode cL_agrees 44 = .ok (.invokestatic 243, 3) := by decide +kernel
theorem dL_agrees_47 : decode cL_agrees 47 = .ok (.ldc 52, 2) := by decide +kernel
theorem dL_agrees_49 : decode cL_agrees 49 = .ok (.if_icmp .ne 7, 3) := by decide +kernel
theorem dL_agrees_52 : decode cL_agrees 52 = .ok (.iconst 1, 1) := by decide +kernel
theorem dL_agrees_53 : decode cL_agrees 53 = .ok (.goto 4, 3) := by decide +kernel
theorem dL_agrees_56 : decode cL_agrees 56 = .ok (.iconst 0, 1) := by decide +kernel
theorem dL_agrees_57 : decode cL_agrees 57 = .ok (.istore_n 2, 1) := by decide +kernel
theorem dL_agrees_58 : decode cL_agrees 58 = .ok (.iconst 0, 1) := by decide +kernel
theorem dL_agrees_59 : decode cL_agrees 59 = .ok (.istore_n 3, 1) := by decide +kernel
theorem dL_agrees_60 : decode cL_agrees 60 = .ok (.iload_n 3, 1) := by decide +kernel
theorem dL_agrees_61 : decode cL_agrees 61 = .ok (.bipush 13, 2) := by decide +kernel
theorem dL_agrees_63 : decode cL_agrees 63 = .ok (.if_icmp .ge 32, 3) := by decide +kernel
theorem dL_agrees_66 : decode cL_agrees 66 = .ok (.iload_n 2, 1) := by decide +kernel
theorem dL_agrees_67 : decode cL_agrees 67 = .ok (.ifCond .eq 28, 3) := by decide +kernel
theorem dL_agrees_70 : decode cL_agrees 70 = .ok (.aload_n 0, 1) := by decide +kernel
theorem dL_agrees_71 : decode cL_agrees 71 = .ok (.iload_n 3, 1) := by decide +kernel
theorem dL_agrees_72 : decode cL_agrees 72 = .ok (.invokestatic 238, 3) := by decide +kernel
theorem dL_agrees_75 : decode cL_agrees 75 = .ok (.aload_n 1, 1) := by decide +kernel
theorem dL_agrees_76 : decode cL_agrees 76 = .ok (.iload_n 3, 1) := by decide +kernel
theorem dL_agrees_77 : decode cL_agrees 77 = .ok (.invokevirtual 245, 3) := by decide +kernel
theorem dL_agrees_80 : decode cL_agrees 80 = .ok (.if_icmp .ne 7, 3) := by decide +kernel
theorem dL_agrees_83 : decode cL_agrees 83 = .ok (.iconst 1, 1) := by decide +kernel
theorem dL_agrees_84 : decode cL_agrees 84 = .ok (.goto 4, 3) := by decide +kernel
theorem dL_agrees_87 : decode cL_agrees 87 = .ok (.iconst 0, 1) := by decide +kernel
theorem dL_agrees_88 : decode cL_agrees 88 = .ok (.istore_n 2, 1) := by decide +kernel
theorem dL_agrees_89 : decode cL_agrees 89 = .ok (.iinc 3 1, 3) := by decide +kernel
theorem dL_agrees_92 : decode cL_agrees 92 = .ok (.goto (-32), 3) := by decide +kernel
theorem dL_agrees_95 : decode cL_agrees 95 = .ok (.aload_n 1, 1) := by decide +kernel
theorem dL_agrees_96 : decode cL_agrees 96 = .ok (.invokevirtual 248, 3) := by decide +kernel
theorem dL_agrees_99 : decode cL_agrees 99 = .ok (.astore_n 3, 1) := by decide +kernel
theorem dL_agrees_100 : decode cL_agrees 100 = .ok (.iconst 0, 1) := by decide +kernel
theorem dL_agrees_101 : decode cL_agrees 101 = .ok (.istore 4, 2) := by decide +kernel
theorem dL_agrees_103 : decode cL_agrees 103 = .ok (.iload 4, 2) := by decide +kernel
theorem dL_agrees_105 : decode cL_agrees 105 = .ok (.aload_n 3, 1) := by decide +kernel
theorem dL_agrees_106 : decode cL_agrees 106 = .ok (.arraylength, 1) := by decide +kernel
theorem dL_agrees_107 : decode cL_agrees 107 = .ok (.if_icmp .ge 44, 3) := by decide +kernel
theorem dL_agrees_110 : decode cL_agrees 110 = .ok (.iload_n 2, 1) := by decide +kernel
theorem dL_agrees_111 : decode cL_agrees 111 = .ok (.ifCond .eq 40, 3) := by decide +kernel
theorem dL_agrees_114 : decode cL_agrees 114 = .ok (.aload_n 0, 1) := by decide +kernel
theorem dL_agrees_115 : decode cL_agrees 115 = .ok (.iload 4, 2) := by decide +kernel
theorem dL_agrees_117 : decode cL_agrees 117 = .ok (.aload_n 1, 1) := by decide +kernel
theorem dL_agrees_118 : decode cL_agrees 118 = .ok (.getfield 180, 3) := by decide +kernel
theorem dL_agrees_121 : decode cL_agrees 121 = .ok (.irem, 1) := by decide +kernel
theorem dL_agrees_122 : decode cL_agrees 122 = .ok (.iload 4, 2) := by decide +kernel
theorem dL_agrees_124 : decode cL_agrees 124 = .ok (.aload_n 1, 1) := by decide +kernel
theorem dL_agrees_125 : decode cL_agrees 125 = .ok (.getfield 180, 3) := by decide +kernel
theorem dL_agrees_128 : decode cL_agrees 128 = .ok (.idiv, 1) := by decide +kernel
theorem dL_agrees_129 : decode cL_agrees 129 = .ok (.invokestatic 252, 3) := by decide +kernel
theorem dL_agrees_132 : decode cL_agrees 132 = .ok (.aload_n 3, 1) := by decide +kernel
theorem dL_agrees_133 : decode cL_agrees 133 = .ok (.iload 4, 2) := by decide +kernel
theorem dL_agrees_135 : decode cL_agrees 135 = .ok (.iaload, 1) := by decide +kernel
theorem dL_agrees_136 : decode cL_agrees 136 = .ok (.if_icmp .ne 7, 3) := by decide +kernel
theorem dL_agrees_139 : decode cL_agrees 139 = .ok (.iconst 1, 1) := by decide +kernel
theorem dL_agrees_140 : decode cL_agrees 140 = .ok (.goto 4, 3) := by decide +kernel
theorem dL_agrees_143 : decode cL_agrees 143 = .ok (.iconst 0, 1) := by decide +kernel
theorem dL_agrees_144 : decode cL_agrees 144 = .ok (.istore_n 2, 1) := by decide +kernel
theorem dL_agrees_145 : decode cL_agrees 145 = .ok (.iinc 4 1, 3) := by decide +kernel
theorem dL_agrees_148 : decode cL_agrees 148 = .ok (.goto (-45), 3) := by decide +kernel
theorem dL_agrees_151 : decode cL_agrees 151 = .ok (.iload_n 2, 1) := by decide +kernel
theorem dL_agrees_152 : decode cL_agrees 152 = .ok (.ifCond .eq 39, 3) := by decide +kernel
theorem dL_agrees_155 : decode cL_agrees 155 = .ok (.aload_n 0, 1) := by decide +kernel
theorem dL_agrees_156 : decode cL_agrees 156 = .ok (.invokevirtual 254, 3) := by decide +kernel
theorem dL_agrees_159 : decode cL_agrees 159 = .ok (.aload_n 1, 1) := by decide +kernel
theorem dL_agrees_160 : decode cL_agrees 160 = .ok (.getfield 258, 3) := by decide +kernel
theorem dL_agrees_163 : decode cL_agrees 163 = .ok (.iconst 1, 1) := by decide +kernel
theorem dL_agrees_164 : decode cL_agrees 164 = .ok (.if_icmp .ne 19, 3) := by decide +kernel
theorem dL_agrees_167 : decode cL_agrees 167 = .ok (.aload_n 1, 1) := by decide +kernel
theorem dL_agrees_168 : decode cL_agrees 168 = .ok (.invokevirtual 261, 3) := by decide +kernel
theorem dL_agrees_171 : decode cL_agrees 171 = .ok (.aload_n 1, 1) := by decide +kernel
theorem dL_agrees_172 : decode cL_agrees 172 = .ok (.getfield 265, 3) := by decide +kernel
theorem dL_agrees_175 : decode cL_agrees 175 = .ok (.baload, 1) := by decide +kernel
theorem dL_agrees_176 : decode cL_agrees 176 = .ok (.ifCond .eq 7, 3) := by decide +kernel
theorem dL_agrees_179 : decode cL_agrees 179 = .ok (.iconst 1, 1) := by decide +kernel
theorem dL_agrees_180 : decode cL_agrees 180 = .ok (.goto 4, 3) := by decide +kernel
theorem dL_agrees_183 : decode cL_agrees 183 = .ok (.iconst 0, 1) := by decide +kernel
theorem dL_agrees_184 : decode cL_agrees 184 = .ok (.if_icmp .ne 7, 3) := by decide +kernel
theorem dL_agrees_187 : decode cL_agrees 187 = .ok (.iconst 1, 1) := by decide +kernel
theorem dL_agrees_188 : decode cL_agrees 188 = .ok (.goto 4, 3) := by decide +kernel
theorem dL_agrees_191 : decode cL_agrees 191 = .ok (.iconst 0, 1) := by decide +kernel
theorem dL_agrees_192 : decode cL_agrees 192 = .ok (.ireturn, 1) := by decide +kernel
theorem dL_law_0 : decode cL_law 0 = .ok (.iconst 1, 1) := by decide +kernel
theorem dL_law_1 : decode cL_law 1 = .ok (.istore_n 1, 1) := by decide +kernel
theorem dL_law_2 : decode cL_law 2 = .ok (.iconst 0, 1) := by decide +kernel
theorem dL_law_3 : decode cL_law 3 = .ok (.istore_n 2, 1) := by decide +kernel
theorem dL_law_4 : decode cL_law 4 = .ok (.iload_n 2, 1) := by decide +kernel
theorem dL_law_5 : decode cL_law 5 = .ok (.aload_n 0, 1) := by decide +kernel
theorem dL_law_6 : decode cL_law 6 = .ok (.arraylength, 1) := by decide +kernel
theorem dL_law_7 : decode cL_law 7 = .ok (.if_icmp .ge 900, 3) := by decide +kernel
theorem dL_law_10 : decode cL_law 10 = .ok (.iload_n 2, 1) := by decide +kernel
theorem dL_law_11 : decode cL_law 11 = .ok (.iconst 2, 1) := by decide +kernel
theorem dL_law_12 : decode cL_law 12 = .ok (.if_icmp .ge 895, 3) := by decide +kernel
theorem dL_law_15 : decode cL_law 15 = .ok (.iload_n 1, 1) := by decide +kernel
theorem dL_law_16 : decode cL_law 16 = .ok (.ifCond .eq 891, 3) := by decide +kernel
theorem dL_law_19 : decode cL_law 19 = .ok (.new 14, 3) := by decide +kernel
theorem dL_law_22 : decode cL_law 22 = .ok (.dup, 1) := by decide +kernel
theorem dL_law_23 : decode cL_law 23 = .ok (.invokespecial 268, 3) := by decide +kernel
theorem dL_law_26 : decode cL_law 26 = .ok (.astore_n 3, 1) := by decide +kernel
theorem dL_law_27 : decode cL_law 27 = .ok (.bipush 8, 2) := by decide +kernel
theorem dL_law_29 : decode cL_law 29 = .ok (.newarray .int, 2) := by decide +kernel
theorem dL_law_31 : decode cL_law 31 = .ok (.astore 4, 2) := by decide +kernel
theorem dL_law_33 : decode cL_law 33 = .ok (.new 111, 3) := by decide +kernel
theorem dL_law_36 : decode cL_law 36 = .ok (.dup, 1) := by decide +kernel
theorem dL_law_37 : decode cL_law 37 = .ok (.aload_n 0, 1) := by decide +kernel
theorem dL_law_38 : decode cL_law 38 = .ok (.iload_n 2, 1) := by decide +kernel
theorem dL_law_39 : decode cL_law 39 = .ok (.iaload, 1) := by decide +kernel
theorem dL_law_40 : decode cL_law 40 = .ok (.invokespecial 269, 3) := by decide +kernel
theorem dL_law_43 : decode cL_law 43 = .ok (.astore 5, 2) := by decide +kernel
theorem dL_law_45 : decode cL_law 45 = .ok (.aload_n 3, 1) := by decide +kernel
theorem dL_law_46 : decode cL_law 46 = .ok (.new 177, 3) := by decide +kernel
theorem dL_law_49 : decode cL_law 49 = .ok (.dup, 1) := by decide +kernel
theorem dL_law_50 : decode cL_law 50 = .ok (.invokespecial 179, 3) := by decide +kernel
theorem dL_law_53 : decode cL_law 53 = .ok (.invokestatic 272, 3) := by decide +kernel
theorem dL_law_56 : decode cL_law 56 = .ok (.ifCond .eq 98, 3) := by decide +kernel
theorem dL_law_59 : decode cL_law 59 = .ok (.aload_n 3, 1) := by decide +kernel
theorem dL_law_60 : decode cL_law 60 = .ok (.invokevirtual 276, 3) := by decide +kernel
theorem dL_law_63 : decode cL_law 63 = .ok (.iconst (-1), 1) := by decide +kernel
theorem dL_law_64 : decode cL_law 64 = .ok (.if_icmp .ne 90, 3) := by decide +kernel
theorem dL_law_67 : decode cL_law 67 = .ok (.aload_n 3, 1) := by decide +kernel
theorem dL_law_68 : decode cL_law 68 = .ok (.invokevirtual 279, 3) := by decide +kernel
theorem dL_law_71 : decode cL_law 71 = .ok (.iconst (-1), 1) := by decide +kernel
theorem dL_law_72 : decode cL_law 72 = .ok (.if_icmp .ne 82, 3) := by decide +kernel
theorem dL_law_75 : decode cL_law 75 = .ok (.aload_n 3, 1) := by decide +kernel
theorem dL_law_76 : decode cL_law 76 = .ok (.iconst 0, 1) := by decide +kernel
theorem dL_law_77 : decode cL_law 77 = .ok (.iconst 0, 1) := by decide +kernel
theorem dL_law_78 : decode cL_law 78 = .ok (.invokestatic 282, 3) := by decide +kernel
theorem dL_law_81 : decode cL_law 81 = .ok (.ldc 52, 2) := by decide +kernel
theorem dL_law_83 : decode cL_law 83 = .ok (.if_icmp .ne 71, 3) := by decide +kernel
theorem dL_law_86 : decode cL_law 86 = .ok (.aload_n 3, 1) := by decide +kernel
theorem dL_law_87 : decode cL_law 87 = .ok (.iconst 0, 1) := by decide +kernel
theorem dL_law_88 : decode cL_law 88 = .ok (.iconst 1, 1) := by decide +kernel
theorem dL_law_89 : decode cL_law 89 = .ok (.invokestatic 284, 3) := by decide +kernel
theorem dL_law_92 : decode cL_law 92 = .ok (.ldc 52, 2) := by decide +kernel
theorem dL_law_94 : decode cL_law 94 = .ok (.if_icmp .ne 60, 3) := by decide +kernel
theorem dL_law_97 : decode cL_law 97 = .ok (.aload_n 3, 1) := by decide +kernel
theorem dL_law_98 : decode cL_law 98 = .ok (.sipush 10000, 3) := by decide +kernel
theorem dL_law_101 : decode cL_law 101 = .ok (.invokestatic 287, 3) := by decide +kernel
theorem dL_law_104 : decode cL_law 104 = .ok (.ldc 42, 2) := by decide +kernel
theorem dL_law_106 : decode cL_law 106 = .ok (.if_icmp .ne 48, 3) := by decide +kernel
theorem dL_law_109 : decode cL_law 109 = .ok (.aload_n 3, 1) := by decide +kernel
theorem dL_law_110 : decode cL_law 110 = .ok (.iconst 0, 1) := by decide +kernel
theorem dL_law_111 : decode cL_law 111 = .ok (.iconst 1, 1) := by decide +kernel
theorem dL_law_112 : decode cL_law 112 = .ok (.invokestatic 289, 3) := by decide +kernel
theorem dL_law_115 : decode cL_law 115 = .ok (.ldc 52, 2) := by decide +kernel
theorem dL_law_117 : decode cL_law 117 = .ok (.if_icmp .ne 37, 3) := by decide +kernel
theorem dL_law_120 : decode cL_law 120 = .ok (.aload_n 3, 1) := by decide +kernel
theorem dL_law_121 : decode cL_law 121 = .ok (.invokevirtual 291, 3) := by decide +kernel
theorem dL_law_124 : decode cL_law 124 = .ok (.iconst 1, 1) := by decide +kernel
theorem dL_law_125 : decode cL_law 125 = .ok (.if_icmp .ne 29, 3) := by decide +kernel
theorem dL_law_128 : decode cL_law 128 = .ok (.aload_n 3, 1) := by decide +kernel
theorem dL_law_129 : decode cL_law 129 = .ok (.invokevirtual 291, 3) := by decide +kernel
theorem dL_law_132 : decode cL_law 132 = .ok (.ifCond .ne 22, 3) := by decide +kernel
theorem dL_law_135 : decode cL_law 135 = .ok (.aload_n 3, 1) := by decide +kernel
theorem dL_law_136 : decode cL_law 136 = .ok (.invokevirtual 279, 3) := by decide +kernel
theorem dL_law_139 : decode cL_law 139 = .ok (.iconst 1, 1) := by decide +kernel
theorem dL_law_140 : decode cL_law 140 = .ok (.if_icmp .ne 14, 3) := by decide +kernel
theorem dL_law_143 : decode cL_law 143 = .ok (.aload_n 3, 1) := by decide +kernel
theorem dL_law_144 : decode cL_law 144 = .ok (.invokevirtual 279, 3) := by decide +kernel
theorem dL_law_147 : decode cL_law 147 = .ok (.ifCond .ne 7, 3) := by decide +kernel
theorem dL_law_150 : decode cL_law 150 = .ok (.iconst 1, 1) := by decide +kernel
theorem dL_law_151 : decode cL_law 151 = .ok (.goto 4, 3) := by decide +kernel
theorem dL_law_154 : decode cL_law 154 = .ok (.iconst 0, 1) := by decide +kernel
theorem dL_law_155 : decode cL_law 155 = .ok (.istore_n 1, 1) := by decide +kernel
theorem dL_law_156 : decode cL_law 156 = .ok (.aload_n 3, 1) := by decide +kernel
theorem dL_law_157 : decode cL_law 157 = .ok (.aload 4, 2) := by decide +kernel
theorem dL_law_159 : decode cL_law 159 = .ok (.aload 5, 2) := by decide +kernel
theorem dL_law_161 : decode cL_law 161 = .ok (.invokestatic 294, 3) := by decide +kernel
theorem dL_law_164 : decode cL_law 164 = .ok (.astore 6, 2) := by decide +kernel
theorem dL_law_166 : decode cL_law 166 = .ok (.aload 6, 2) := by decide +kernel
theorem dL_law_168 : decode cL_law 168 = .ok (.ifnonnull 5, 3) := by decide +kernel
theorem dL_law_171 : decode cL_law 171 = .ok (.iconst 0, 1) := by decide +kernel
theorem dL_law_172 : decode cL_law 172 = .ok (.ireturn, 1) := by decide +kernel
theorem dL_law_173 : decode cL_law 173 = .ok (.iload_n 1, 1) := by decide +kernel
theorem dL_law_174 : decode cL_law 174 = .ok (.ifCond .eq 16, 3) := by decide +kernel
theorem dL_law_177 : decode cL_law 177 = .ok (.aload_n 3, 1) := by decide +kernel
theorem dL_law_178 : decode cL_law 178 = .ok (.aload 6, 2) := by decide +kernel
theorem dL_law_180 : decode cL_law 180 = .ok (.invokestatic 272, 3) := by decide +kernel
theorem dL_law_183 : decode cL_law 183 = .ok (.ifCond .eq 7, 3) := by decide +kernel
theorem dL_law_186 : decode cL_law 186 = .ok (.iconst 1, 1) := by decide +kernel
theorem dL_law_187 : decode cL_law 187 = .ok (.goto 4, 3) := by decide +kernel
theorem dL_law_190 : decode cL_law 190 = .ok (.iconst 0, 1) := by decide +kernel
theorem dL_law_191 : decode cL_law 191 = .ok (.istore_n 1, 1) := by decide +kernel
theorem dL_law_192 : decode cL_law 192 = .ok (.bipush 9, 2) := by decide +kernel
theorem dL_law_194 : decode cL_law 194 = .ok (.anewarray 177, 3) := by decide +kernel
theorem dL_law_197 : decode cL_law 197 = .ok (.astore 7, 2) := by decide +kernel
theorem dL_law_199 : decode cL_law 199 = .ok (.iconst 0, 1) := by decide +kernel
theorem dL_law_200 : decode cL_law 200 = .ok (.istore 8, 2) := by decide +kernel
theorem dL_law_202 : decode cL_law 202 = .ok (.iconst 0, 1) := by decide +kernel
theorem dL_law_203 : decode cL_law 203 = .ok (.istore 9, 2) := by decide +kernel
theorem dL_law_205 : decode cL_law 205 = .ok (.iload 9, 2) := by decide +kernel
theorem dL_law_207 : decode cL_law 207 = .ok (.bipush 14, 2) := by decide +kernel
theorem dL_law_209 : decode cL_law 209 = .ok (.if_icmp .ge 546, 3) := by decide +kernel
theorem dL_law_212 : decode cL_law 212 = .ok (.iload_n 1, 1) := by decide +kernel
theorem dL_law_213 : decode cL_law 213 = .ok (.ifCond .eq 542, 3) := by decide +kernel
theorem dL_law_216 : decode cL_law 216 = .ok (.aload 6, 2) := by decide +kernel
theorem dL_law_218 : decode cL_law 218 = .ok (.invokevirtual 298, 3) := by decide +kernel
theorem dL_law_221 : decode cL_law 221 = .ok (.astore 10, 2) := by decide +kernel
theorem dL_law_223 : decode cL_law 223 = .ok (.iconst 1, 1) := by decide +kernel
theorem dL_law_224 : decode cL_law 224 = .ok (.istore 11, 2) := by decide +kernel
theorem dL_law_226 : decode cL_law 226 = .ok (.aload 6, 2) := by decide +kernel
theorem dL_law_228 : decode cL_law 228 = .ok (.getfield 180, 3) := by decide +kernel
theorem dL_law_231 : decode cL_law 231 = .ok (.aload 6, 2) := by decide +kernel
theorem dL_law_233 : decode cL_law 233 = .ok (.getfield 183, 3) := by decide +kernel
theorem dL_law_236 : decode cL_law 236 = .ok (.imul, 1) := by decide +kernel
theorem dL_law_237 : decode cL_law 237 = .ok (.istore 12, 2) := by decide +kernel
theorem dL_law_239 : decode cL_law 239 = .ok (.aload 5, 2) := by decide +kernel
theorem dL_law_241 : decode cL_law 241 = .ok (.bipush 6, 2) := by decide +kernel
theorem dL_law_243 : decode cL_law 243 = .ok (.invokevirtual 110, 3) := by decide +kernel
theorem dL_law_246 : decode cL_law 246 = .ok (.tableswitch 301 0 4 #[34, 34, 141, 162, 267], 34) := by decide +kernel
theorem dL_law_280 : decode cL_law 280 = .ok (.aload 5, 2) := by decide +kernel
theorem dL_law_282 : decode cL_law 282 = .ok (.iload 12, 2) := by decide +kernel
theorem dL_law_284 : decode cL_law 284 = .ok (.invokevirtual 110, 3) := by decide +kernel
theorem dL_law_287 : decode cL_law 287 = .ok (.istore 13, 2) := by decide +kernel
theorem dL_law_289 : decode cL_law 289 = .ok (.aload 6, 2) := by decide +kernel
theorem dL_law_291 : decode cL_law 291 = .ok (.aload 6, 2) := by decide +kernel
theorem dL_law_293 : decode cL_law 293 = .ok (.getfield 217, 3) := by decide +kernel
theorem dL_law_296 : decode cL_law 296 = .ok (.aconst_null, 1) := by decide +kernel
theorem dL_law_297 : decode cL_law 297 = .ok (.invokevirtual 302, 3) := by decide +kernel
theorem dL_law_300 : decode cL_law 300 = .ok (.iload 13, 2) := by decide +kernel
theorem dL_law_302 : decode cL_law 302 = .ok (.iaload, 1) := by decide +kernel
theorem dL_law_303 : decode cL_law 303 = .ok (.istore 14, 2) := by decide +kernel
theorem dL_law_305 : decode cL_law 305 = .ok (.iload 14, 2) := by decide +kernel
theorem dL_law_307 : decode cL_law 307 = .ok (.sipush 9999, 3) := by decide +kernel
theorem dL_law_310 : decode cL_law 310 = .ok (.if_icmp .ge 7, 3) := by decide +kernel
theorem dL_law_313 : decode cL_law 313 = .ok (.iconst 1, 1) := by decide +kernel
theorem dL_law_314 : decode cL_law 314 = .ok (.goto 4, 3) := by decide +kernel
theorem dL_law_317 : decode cL_law 317 = .ok (.iconst 0, 1) := by decide +kernel
theorem dL_law_318 : decode cL_law 318 = .ok (.istore 11, 2) := by decide +kernel
theorem dL_law_320 : decode cL_law 320 = .ok (.iload 11, 2) := by decide +kernel
theorem dL_law_322 : decode cL_law 322 = .ok (.ifCond .eq 22, 3) := by decide +kernel
theorem dL_law_325 : decode cL_law 325 = .ok (.aload 6, 2) := by decide +kernel
theorem dL_law_327 : decode cL_law 327 = .ok (.iload 13, 2) := by decide +kernel
theorem dL_law_329 : decode cL_law 329 = .ok (.putfield 217, 3) := by decide +kernel
theorem dL_law_332 : decode cL_law 332 = .ok (.aload 6, 2) := by decide +kernel
theorem dL_law_334 : decode cL_law 334 = .ok (.dup, 1) := by decide +kernel
theorem dL_law_335 : decode cL_law 335 = .ok (.getfield 306, 3) := by decide +kernel
theorem dL_law_338 : decode cL_law 338 = .ok (.iload 14, 2) := by decide +kernel
theorem dL_law_340 : decode cL_law 340 = .ok (.iadd, 1) := by decide +kernel
theorem dL_law_341 : decode cL_law 341 = .ok (.putfield 306, 3) := by decide +kernel
theorem dL_law_344 : decode cL_law 344 = .ok (.aload_n 3, 1) := by decide +kernel
theorem dL_law_345 : decode cL_law 345 = .ok (.iload 13, 2) := by decide +kernel
theorem dL_law_347 : decode cL_law 347 = .ok (.aload 6, 2) := by decide +kernel
theorem dL_law_349 : decode cL_law 349 = .ok (.getfield 180, 3) := by decide +kernel
theorem dL_law_352 : decode cL_law 352 = .ok (.irem, 1) := by decide +kernel
theorem dL_law_353 : decode cL_law 353 = .ok (.iload 13, 2) := by decide +kernel
theorem dL_law_355 : decode cL_law 355 = .ok (.aload 6, 2) := by decide +kernel
theorem dL_law_357 : decode cL_law 357 = .ok (.getfield 180, 3) := by decide +kernel
theorem dL_law_360 : decode cL_law 360 = .ok (.idiv, 1) := by decide +kernel
theorem dL_law_361 : decode cL_law 361 = .ok (.invokestatic 289, 3) := by decide +kernel
theorem dL_law_364 : decode cL_law 364 = .ok (.iload 11, 2) := by decide +kernel
theorem dL_law_366 : decode cL_law 366 = .ok (.ifCond .eq 8, 3) := by decide +kernel
theorem dL_law_369 : decode cL_law 369 = .ok (.iload 14, 2) := by decide +kernel
theorem dL_law_371 : decode cL_law 371 = .ok (.goto 4, 3) := by decide +kernel
theorem dL_law_374 : decode cL_law 374 = .ok (.iconst (-1), 1) := by decide +kernel
theorem dL_law_375 : decode cL_law 375 = .ok (.if_icmp .ne 7, 3) := by decide +kernel
theorem dL_law_378 : decode cL_law 378 = .ok (.iconst 1, 1) := by decide +kernel
theorem dL_law_379 : decode cL_law 379 = .ok (.goto 4, 3) := by decide +kernel
theorem dL_law_382 : decode cL_law 382 = .ok (.iconst 0, 1) := by decide +kernel
theorem dL_law_383 : decode cL_law 383 = .ok (.istore_n 1, 1) := by decide +kernel
theorem dL_law_384 : decode cL_law 384 = .ok (.goto 305, 3) := by decide +kernel
theorem dL_law_387 : decode cL_law 387 = .ok (.aload_n 3, 1) := by decide +kernel
theorem dL_law_388 : decode cL_law 388 = .ok (.invokevirtual 291, 3) := by decide +kernel
theorem dL_law_391 : decode cL_law 391 = .ok (.aload 6, 2) := by decide +kernel
theorem dL_law_393 : decode cL_law 393 = .ok (.invokevirtual 309, 3) := by decide +kernel
theorem dL_law_396 : decode cL_law 396 = .ok (.if_icmp .ne 7, 3) := by decide +kernel
theorem dL_law_399 : decode cL_law 399 = .ok (.iconst 1, 1) := by decide +kernel
theorem dL_law_400 : decode cL_law 400 = .ok (.goto 4, 3) := by decide +kernel
theorem dL_law_403 : decode cL_law 403 = .ok (.iconst 0, 1) := by decide +kernel
theorem dL_law_404 : decode cL_law 404 = .ok (.istore_n 1, 1) := by decide +kernel
theorem dL_law_405 : decode cL_law 405 = .ok (.goto 284, 3) := by decide +kernel
theorem dL_law_408 : decode cL_law 408 = .ok (.aload 5, 2) := by decide +kernel
theorem dL_law_410 : decode cL_law 410 = .ok (.aload 6, 2) := by decide +kernel
theorem dL_law_412 : decode cL_law 412 = .ok (.getfield 221, 3) := by decide +kernel
theorem dL_law_415 : decode cL_law 415 = .ok (.arraylength, 1) := by decide +kernel
theorem dL_law_416 : decode cL_law 416 = .ok (.iconst 1, 1) := by decide +kernel
theorem dL_law_417 : decode cL_law 417 = .ok (.iadd, 1) := by decide +kernel
theorem dL_law_418 : decode cL_law 418 = .ok (.invokevirtual 110, 3) := by decide +kernel
theorem dL_law_421 : decode cL_law 421 = .ok (.istore 15, 2) := by decide +kernel
theorem dL_law_423 : decode cL_law 423 = .ok (.aload 5, 2) := by decide +kernel
theorem dL_law_425 : decode cL_law 425 = .ok (.iconst 2, 1) := by decide +kernel
theorem dL_law_426 : decode cL_law 426 = .ok (.invokevirtual 110, 3) := by decide +kernel
theorem dL_law_429 : decode cL_law 429 = .ok (.ifCond .ne 7, 3) := by decide +kernel
theorem dL_law_432 : decode cL_law 432 = .ok (.iconst 1, 1) := by decide +kernel
theorem dL_law_433 : decode cL_law 433 = .ok (.goto 4, 3) := by decide +kernel
theorem dL_law_436 : decode cL_law 436 = .ok (.iconst 0, 1) := by decide +kernel
theorem dL_law_437 : decode cL_law 437 = .ok (.istore 16, 2) := by decide +kernel
theorem dL_law_439 : decode cL_law 439 = .ok (.iload 15, 2) := by decide +kernel
theorem dL_law_441 : decode cL_law 441 = .ok (.aload 6, 2) := by decide +kernel
theorem dL_law_443 : decode cL_law 443 = .ok (.getfield 221, 3) := by decide +kernel
theorem dL_law_446 : decode cL_law 446 = .ok (.arraylength, 1) := by decide +kernel
theorem dL_law_447 : decode cL_law 447 = .ok (.if_icmp .ge 7, 3) := by decide +kernel
theorem dL_law_450 : decode cL_law 450 = .ok (.iconst 1, 1) := by decide +kernel
theorem dL_law_451 : decode cL_law 451 = .ok (.goto 4, 3) := by decide +kernel
theorem dL_law_454 : decode cL_law 454 = .ok (.iconst 0, 1) := by decide +kernel
theorem dL_law_455 : decode cL_law 455 = .ok (.istore 11, 2) := by decide +kernel
theorem dL_law_457 : decode cL_law 457 = .ok (.iload 11, 2) := by decide +kernel
theorem dL_law_459 : decode cL_law 459 = .ok (.ifCond .eq 16, 3) := by decide +kernel
theorem dL_law_462 : decode cL_law 462 = .ok (.aload 6, 2) := by decide +kernel
theorem dL_law_464 : decode cL_law 464 = .ok (.getfield 221, 3) := by decide +kernel
theorem dL_law_467 : decode cL_law 467 = .ok (.iload 15, 2) := by decide +kernel
theorem dL_law_469 : decode cL_law 469 = .ok (.aaload, 1) := by decide +kernel
theorem dL_law_470 : decode cL_law 470 = .ok (.iload 16, 2) := by decide +kernel
theorem dL_law_472 : decode cL_law 472 = .ok (.putfield 312, 3) := by decide +kernel
theorem dL_law_475 : decode cL_law 475 = .ok (.aload_n 3, 1) := by decide +kernel
theorem dL_law_476 : decode cL_law 476 = .ok (.iload 15, 2) := by decide +kernel
theorem dL_law_478 : decode cL_law 478 = .ok (.iload 16, 2) := by decide +kernel
theorem dL_law_480 : decode cL_law 480 = .ok (.invokestatic 284, 3) := by decide +kernel
theorem dL_law_483 : decode cL_law 483 = .ok (.iload 11, 2) := by decide +kernel
theorem dL_law_485 : decode cL_law 485 = .ok (.ifCond .eq 14, 3) := by decide +kernel
theorem dL_law_488 : decode cL_law 488 = .ok (.aload 6, 2) := by decide +kernel
theorem dL_law_490 : decode cL_law 490 = .ok (.invokevirtual 261, 3) := by decide +kernel
theorem dL_law_493 : decode cL_law 493 = .ok (.invokestatic 316, 3) := by decide +kernel
theorem dL_law_496 : decode cL_law 496 = .ok (.goto 5, 3) := by decide +kernel
theorem dL_law_499 : decode cL_law 499 = .ok (.ldc 52, 2) := by decide +kernel
theorem dL_law_501 : decode cL_law 501 = .ok (.if_icmp .ne 7, 3) := by decide +kernel
theorem dL_law_504 : decode cL_law 504 = .ok (.iconst 1, 1) := by decide +kernel
theorem dL_law_505 : decode cL_law 505 = .ok (.goto 4, 3) := by decide +kernel
theorem dL_law_508 : decode cL_law 508 = .ok (.iconst 0, 1) := by decide +kernel
theorem dL_law_509 : decode cL_law 509 = .ok (.istore_n 1, 1) := by decide +kernel
theorem dL_law_510 : decode cL_law 510 = .ok (.goto 179, 3) := by decide +kernel
theorem dL_law_513 : decode cL_law 513 = .ok (.aload 5, 2) := by decide +kernel
theorem dL_law_515 : decode cL_law 515 = .ok (.bipush 40, 2) := by decide +kernel
theorem dL_law_517 : decode cL_law 517 = .ok (.invokevirtual 110, 3) := by decide +kernel
theorem dL_law_520 : decode cL_law 520 = .ok (.istore 17, 2) := by decide +kernel
theorem dL_law_522 : decode cL_law 522 = .ok (.aload_n 3, 1) := by decide +kernel
theorem dL_law_523 : decode cL_law 523 = .ok (.iload 17, 2) := by decide +kernel
theorem dL_law_525 : decode cL_law 525 = .ok (.invokestatic 287, 3) := by decide +kernel
theorem dL_law_528 : decode cL_law 528 = .ok (.aload 6, 2) := by decide +kernel
theorem dL_law_530 : decode cL_law 530 = .ok (.iload 17, 2) := by decide +kernel
theorem dL_law_532 : decode cL_law 532 = .ok (.invokevirtual 319, 3) := by decide +kernel
theorem dL_law_535 : decode cL_law 535 = .ok (.if_icmp .ne 7, 3) := by decide +kernel
theorem dL_law_538 : decode cL_law 538 = .ok (.iconst 1, 1) := by decide +kernel
theorem dL_law_539 : decode cL_law 539 = .ok (.goto 4, 3) := by decide +kernel
theorem dL_law_542 : decode cL_law 542 = .ok (.iconst 0, 1) := by decide +kernel
theorem dL_law_543 : decode cL_law 543 = .ok (.istore_n 1, 1) := by decide +kernel
theorem dL_law_544 : decode cL_law 544 = .ok (.goto 145, 3) := by decide +kernel
theorem dL_law_547 : decode cL_law 547 = .ok (.aload 5, 2) := by decide +kernel
theorem dL_law_549 : decode cL_law 549 = .ok (.aload 6, 2) := by decide +kernel
theorem dL_law_551 : decode cL_law 551 = .ok (.getfield 197, 3) := by decide +kernel
theorem dL_law_554 : decode cL_law 554 = .ok (.arraylength, 1) := by decide +kernel
theorem dL_law_555 : decode cL_law 555 = .ok (.iconst 1, 1) := by decide +kernel
theorem dL_law_556 : decode cL_law 556 = .ok (.iadd, 1) := by decide +kernel
theorem dL_law_557 : decode cL_law 557 = .ok (.invokevirtual 110, 3) := by decide +kernel
theorem dL_law_560 : decode cL_law 560 = .ok (.istore 18, 2) := by decide +kernel
theorem dL_law_562 : decode cL_law 562 = .ok (.aload 5, 2) := by decide +kernel
theorem dL_law_564 : decode cL_law 564 = .ok (.bipush 9, 2) := by decide +kernel
theorem dL_law_566 : decode cL_law 566 = .ok (.invokevirtual 110, 3) := by decide +kernel
theorem dL_law_569 : decode cL_law 569 = .ok (.iconst 4, 1) := by decide +kernel
theorem dL_law_570 : decode cL_law 570 = .ok (.isub, 1) := by decide +kernel
theorem dL_law_571 : decode cL_law 571 = .ok (.istore 19, 2) := by decide +kernel
theorem dL_law_573 : decode cL_law 573 = .ok (.iload 18, 2) := by decide +kernel
theorem dL_law_575 : decode cL_law 575 = .ok (.aload 6, 2) := by decide +kernel
theorem dL_law_577 : decode cL_law 577 = .ok (.getfield 197, 3) := by decide +kernel
theorem dL_law_580 : decode cL_law 580 = .ok (.arraylength, 1) := by decide +kernel
theorem dL_law_581 : decode cL_law 581 = .ok (.if_icmp .ge 7, 3) := by decide +kernel
theorem dL_law_584 : decode cL_law 584 = .ok (.iconst 1, 1) := by decide +kernel
theorem dL_law_585 : decode cL_law 585 = .ok (.goto 4, 3) := by decide +kernel
theorem dL_law_588 : decode cL_law 588 = .ok (.iconst 0, 1) := by decide +kernel
theorem dL_law_589 : decode cL_law 589 = .ok (.istore 20, 2) := by decide +kernel
theorem dL_law_591 : decode cL_law 591 = .ok (.iload 20, 2) := by decide +kernel
theorem dL_law_593 : decode cL_law 593 = .ok (.ifCond .eq 16, 3) := by decide +kernel
theorem dL_law_596 : decode cL_law 596 = .ok (.iload 19, 2) := by decide +kernel
theorem dL_law_598 : decode cL_law 598 = .ok (.invokestatic 207, 3) := by decide +kernel
theorem dL_law_601 : decode cL_law 601 = .ok (.iconst 4, 1) := by decide +kernel
theorem dL_law_602 : decode cL_law 602 = .ok (.if_icmp .ge 7, 3) := by decide +kernel
theorem dL_law_605 : decode cL_law 605 = .ok (.iconst 1, 1) := by decide +kernel
theorem dL_law_606 : decode cL_law 606 = .ok (.goto 4, 3) := by decide +kernel
theorem dL_law_609 : decode cL_law 609 = .ok (.iconst 0, 1) := by decide +kernel
theorem dL_law_610 : decode cL_law 610 = .ok (.istore 11, 2) := by decide +kernel
theorem dL_law_612 : decode cL_law 612 = .ok (.iload 20, 2) := by decide +kernel
theorem dL_law_614 : decode cL_law 614 = .ok (.ifCond .eq 16, 3) := by decide +kernel
theorem dL_law_617 : decode cL_law 617 = .ok (.aload 6, 2) := by decide +kernel
theorem dL_law_619 : decode cL_law 619 = .ok (.getfield 197, 3) := by decide +kernel
theorem dL_law_622 : decode cL_law 622 = .ok (.iload 18, 2) := by decide +kernel
theorem dL_law_624 : decode cL_law 624 = .ok (.aaload, 1) := by decide +kernel
theorem dL_law_625 : decode cL_law 625 = .ok (.iconst 4, 1) := by decide +kernel
theorem dL_law_626 : decode cL_law 626 = .ok (.iaload, 1) := by decide +kernel
theorem dL_law_627 : decode cL_law 627 = .ok (.goto 4, 3) := by decide +kernel
theorem dL_law_630 : decode cL_law 630 = .ok (.iconst 0, 1) := by decide +kernel
theorem dL_law_631 : decode cL_law 631 = .ok (.istore 21, 2) := by decide +kernel
theorem dL_law_633 : decode cL_law 633 = .ok (.iload 11, 2) := by decide +kernel
theorem dL_law_635 : decode cL_law 635 = .ok (.ifCond .eq 15, 3) := by decide +kernel
theorem dL_law_638 : decode cL_law 638 = .ok (.aload 6, 2) := by decide +kernel
theorem dL_law_640 : decode cL_law 640 = .ok (.getfield 197, 3) := by decide +kernel
theorem dL_law_643 : decode cL_law 643 = .ok (.iload 18, 2) := by decide +kernel
theorem dL_law_645 : decode cL_law 645 = .ok (.aaload, 1) := by decide +kernel
theorem dL_law_646 : decode cL_law 646 = .ok (.iconst 4, 1) := by decide +kernel
theorem dL_law_647 : decode cL_law 647 = .ok (.iload 19, 2) := by decide +kernel
theorem dL_law_649 : decode cL_law 649 = .ok (.iastore, 1) := by decide +kernel
theorem dL_law_650 : decode cL_law 650 = .ok (.aload_n 3, 1) := by decide +kernel
theorem dL_law_651 : decode cL_law 651 = .ok (.iload 18, 2) := by decide +kernel
theorem dL_law_653 : decode cL_law 653 = .ok (.iload 19, 2) := by decide +kernel
theorem dL_law_655 : decode cL_law 655 = .ok (.invokestatic 282, 3) := by decide +kernel
theorem dL_law_658 : decode cL_law 658 = .ok (.iload 11, 2) := by decide +kernel
theorem dL_law_660 : decode cL_law 660 = .ok (.ifCond .eq 8, 3) := by decide +kernel
theorem dL_law_663 : decode cL_law 663 = .ok (.iload 21, 2) := by decide +kernel
theorem dL_law_665 : decode cL_law 665 = .ok (.goto 15, 3) := by decide +kernel
theorem dL_law_668 : decode cL_law 668 = .ok (.iload 20, 2) := by decide +kernel
theorem dL_law_670 : decode cL_law 670 = .ok (.ifCond .eq 8, 3) := by decide +kernel
theorem dL_law_673 : decode cL_law 673 = .ok (.ldc 42, 2) := by decide +kernel
theorem dL_law_675 : decode cL_law 675 = .ok (.goto 5, 3) := by decide +kernel
theorem dL_law_678 : decode cL_law 678 = .ok (.ldc 52, 2) := by decide +kernel
theorem dL_law_680 : decode cL_law 680 = .ok (.if_icmp .ne 7, 3) := by decide +kernel
theorem dL_law_683 : decode cL_law 683 = .ok (.iconst 1, 1) := by decide +kernel
theorem dL_law_684 : decode cL_law 684 = .ok (.goto 4, 3) := by decide +kernel
theorem dL_law_687 : decode cL_law 687 = .ok (.iconst 0, 1) := by decide +kernel
theorem dL_law_688 : decode cL_law 688 = .ok (.istore_n 1, 1) := by decide +kernel
theorem dL_law_689 : decode cL_law 689 = .ok (.iload 11, 2) := by decide +kernel
theorem dL_law_691 : decode cL_law 691 = .ok (.ifCond .eq 39, 3) := by decide +kernel
theorem dL_law_694 : decode cL_law 694 = .ok (.bipush 8, 2) := by decide +kernel
theorem dL_law_696 : decode cL_law 696 = .ok (.istore 13, 2) := by decide +kernel
theorem dL_law_698 : decode cL_law 698 = .ok (.iload 13, 2) := by decide +kernel
theorem dL_law_700 : decode cL_law 700 = .ok (.ifCond .le 21, 3) := by decide +kernel
theorem dL_law_703 : decode cL_law 703 = .ok (.aload 7, 2) := by decide +kernel
theorem dL_law_705 : decode cL_law 705 = .ok (.iload 13, 2) := by decide +kernel
theorem dL_law_707 : decode cL_law 707 = .ok (.aload 7, 2) := by decide +kernel
theorem dL_law_709 : decode cL_law 709 = .ok (.iload 13, 2) := by decide +kernel
theorem dL_law_711 : decode cL_law 711 = .ok (.iconst 1, 1) := by decide +kernel
theorem dL_law_712 : decode cL_law 712 = .ok (.isub, 1) := by decide +kernel
theorem dL_law_713 : decode cL_law 713 = .ok (.aaload, 1) := by decide +kernel
theorem dL_law_714 : decode cL_law 714 = .ok (.aastore, 1) := by decide +kernel
theorem dL_law_715 : decode cL_law 715 = .ok (.iinc 13 (-1), 3) := by decide +kernel
theorem dL_law_718 : decode cL_law 718 = .ok (.goto (-20), 3) := by decide +kernel
theorem dL_law_721 : decode cL_law 721 = .ok (.aload 7, 2) := by decide +kernel
theorem dL_law_723 : decode cL_law 723 = .ok (.iconst 0, 1) := by decide +kernel
theorem dL_law_724 : decode cL_law 724 = .ok (.aload 10, 2) := by decide +kernel
theorem dL_law_726 : decode cL_law 726 = .ok (.aastore, 1) := by decide +kernel
theorem dL_law_727 : decode cL_law 727 = .ok (.iinc 8 1, 3) := by decide +kernel
theorem dL_law_730 : decode cL_law 730 = .ok (.iload_n 1, 1) := by decide +kernel
theorem dL_law_731 : decode cL_law 731 = .ok (.ifCond .eq 16, 3) := by decide +kernel
theorem dL_law_734 : decode cL_law 734 = .ok (.aload_n 3, 1) := by decide +kernel
theorem dL_law_735 : decode cL_law 735 = .ok (.aload 6, 2) := by decide +kernel
theorem dL_law_737 : decode cL_law 737 = .ok (.invokestatic 272, 3) := by decide +kernel
theorem dL_law_740 : decode cL_law 740 = .ok (.ifCond .eq 7, 3) := by decide +kernel
theorem dL_law_743 : decode cL_law 743 = .ok (.iconst 1, 1) := by decide +kernel
theorem dL_law_744 : decode cL_law 744 = .ok (.goto 4, 3) := by decide +kernel
theorem dL_law_747 : decode cL_law 747 = .ok (.iconst 0, 1) := by decide +kernel
theorem dL_law_748 : decode cL_law 748 = .ok (.istore_n 1, 1) := by decide +kernel
theorem dL_law_749 : decode cL_law 749 = .ok (.iinc 9 1, 3) := by decide +kernel
theorem dL_law_752 : decode cL_law 752 = .ok (.goto (-547), 3) := by decide +kernel
theorem dL_law_755 : decode cL_law 755 = .ok (.iconst 0, 1) := by decide +kernel
theorem dL_law_756 : decode cL_law 756 = .ok (.istore 9, 2) := by decide +kernel
theorem dL_law_758 : decode cL_law 758 = .ok (.iload 9, 2) := by decide +kernel
theorem dL_law_760 : decode cL_law 760 = .ok (.bipush 8, 2) := by decide +kernel
theorem dL_law_762 : decode cL_law 762 = .ok (.if_icmp .ge 45, 3) := by decide +kernel
theorem dL_law_765 : decode cL_law 765 = .ok (.iload 9, 2) := by decide +kernel
theorem dL_law_767 : decode cL_law 767 = .ok (.iload 8, 2) := by decide +kernel
theorem dL_law_769 : decode cL_law 769 = .ok (.if_icmp .ge 38, 3) := by decide +kernel
theorem dL_law_772 : decode cL_law 772 = .ok (.iload_n 1, 1) := by decide +kernel
theorem dL_law_773 : decode cL_law 773 = .ok (.ifCond .eq 34, 3) := by decide +kernel
theorem dL_law_776 : decode cL_law 776 = .ok (.aload_n 3, 1) := by decide +kernel
theorem dL_law_777 : decode cL_law 777 = .ok (.invokevirtual 279, 3) := by decide +kernel
theorem dL_law_780 : decode cL_law 780 = .ok (.ifCond .lt 19, 3) := by decide +kernel
theorem dL_law_783 : decode cL_law 783 = .ok (.aload_n 3, 1) := by decide +kernel
theorem dL_law_784 : decode cL_law 784 = .ok (.aload 7, 2) := by decide +kernel
theorem dL_law_786 : decode cL_law 786 = .ok (.iload 9, 2) := by decide +kernel
theorem dL_law_788 : decode cL_law 788 = .ok (.aaload, 1) := by decide +kernel
theorem dL_law_789 : decode cL_law 789 = .ok (.invokestatic 272, 3) := by decide +kernel
theorem dL_law_792 : decode cL_law 792 = .ok (.ifCond .eq 7, 3) := by decide +kernel
theorem dL_law_795 : decode cL_law 795 = .ok (.iconst 1, 1) := by decide +kernel
theorem dL_law_796 : decode cL_law 796 = .ok (.goto 4, 3) := by decide +kernel
theorem dL_law_799 : decode cL_law 799 = .ok (.iconst 0, 1) := by decide +kernel
theorem dL_law_800 : decode cL_law 800 = .ok (.istore_n 1, 1) := by decide +kernel
theorem dL_law_801 : decode cL_law 801 = .ok (.iinc 9 1, 3) := by decide +kernel
theorem dL_law_804 : decode cL_law 804 = .ok (.goto (-46), 3) := by decide +kernel
theorem dL_law_807 : decode cL_law 807 = .ok (.iload_n 1, 1) := by decide +kernel
theorem dL_law_808 : decode cL_law 808 = .ok (.ifCond .eq 91, 3) := by decide +kernel
theorem dL_law_811 : decode cL_law 811 = .ok (.aload_n 3, 1) := by decide +kernel
theorem dL_law_812 : decode cL_law 812 = .ok (.iconst 1, 1) := by decide +kernel
theorem dL_law_813 : decode cL_law 813 = .ok (.invokestatic 19, 3) := by decide +kernel
theorem dL_law_816 : decode cL_law 816 = .ok (.ldc 42, 2) := by decide +kernel
theorem dL_law_818 : decode cL_law 818 = .ok (.if_icmp .ne 81, 3) := by decide +kernel
theorem dL_law_821 : decode cL_law 821 = .ok (.aload_n 3, 1) := by decide +kernel
theorem dL_law_822 : decode cL_law 822 = .ok (.iconst 0, 1) := by decide +kernel
theorem dL_law_823 : decode cL_law 823 = .ok (.iconst 0, 1) := by decide +kernel
theorem dL_law_824 : decode cL_law 824 = .ok (.bipush 8, 2) := by decide +kernel
theorem dL_law_826 : decode cL_law 826 = .ok (.invokestatic 322, 3) := by decide +kernel
theorem dL_law_829 : decode cL_law 829 = .ok (.ldc 42, 2) := by decide +kernel
theorem dL_law_831 : decode cL_law 831 = .ok (.if_icmp .ne 68, 3) := by decide +kernel
theorem dL_law_834 : decode cL_law 834 = .ok (.aload_n 3, 1) := by decide +kernel
theorem dL_law_835 : decode cL_law 835 = .ok (.iconst (-1), 1) := by decide +kernel
theorem dL_law_836 : decode cL_law 836 = .ok (.iconst 0, 1) := by decide +kernel
theorem dL_law_837 : decode cL_law 837 = .ok (.iconst 0, 1) := by decide +kernel
theorem dL_law_838 : decode cL_law 838 = .ok (.invokestatic 322, 3) := by decide +kernel
theorem dL_law_841 : decode cL_law 841 = .ok (.ldc 52, 2) := by decide +kernel
theorem dL_law_843 : decode cL_law 843 = .ok (.if_icmp .ne 56, 3) := by decide +kernel
theorem dL_law_846 : decode cL_law 846 = .ok (.aload_n 3, 1) := by decide +kernel
theorem dL_law_847 : decode cL_law 847 = .ok (.iconst 4, 1) := by decide +kernel
theorem dL_law_848 : decode cL_law 848 = .ok (.iconst 0, 1) := by decide +kernel
theorem dL_law_849 : decode cL_law 849 = .ok (.iconst 0, 1) := by decide +kernel
theorem dL_law_850 : decode cL_law 850 = .ok (.iconst 0, 1) := by decide +kernel
theorem dL_law_851 : decode cL_law 851 = .ok (.invokestatic 325, 3) := by decide +kernel
theorem dL_law_854 : decode cL_law 854 = .ok (.ldc 52, 2) := by decide +kernel
theorem dL_law_856 : decode cL_law 856 = .ok (.if_icmp .ne 43, 3) := by decide +kernel
theorem dL_law_859 : decode cL_law 859 = .ok (.aload_n 3, 1) := by decide +kernel
theorem dL_law_860 : decode cL_law 860 = .ok (.iconst (-1), 1) := by decide +kernel
theorem dL_law_861 : decode cL_law 861 = .ok (.iconst 0, 1) := by decide +kernel
theorem dL_law_862 : decode cL_law 862 = .ok (.iconst 0, 1) := by decide +kernel
theorem dL_law_863 : decode cL_law 863 = .ok (.invokestatic 328, 3) := by decide +kernel
theorem dL_law_866 : decode cL_law 866 = .ok (.ldc 52, 2) := by decide +kernel
theorem dL_law_868 : decode cL_law 868 = .ok (.if_icmp .ne 31, 3) := by decide +kernel
theorem dL_law_871 : decode cL_law 871 = .ok (.aload_n 3, 1) := by decide +kernel
theorem dL_law_872 : decode cL_law 872 = .ok (.iconst 0, 1) := by decide +kernel
theorem dL_law_873 : decode cL_law 873 = .ok (.bipush 20, 2) := by decide +kernel
theorem dL_law_875 : decode cL_law 875 = .ok (.invokestatic 330, 3) := by decide +kernel
theorem dL_law_878 : decode cL_law 878 = .ok (.ldc 52, 2) := by decide +kernel
theorem dL_law_880 : decode cL_law 880 = .ok (.if_icmp .ne 19, 3) := by decide +kernel
theorem dL_law_883 : decode cL_law 883 = .ok (.aload_n 3, 1) := by decide +kernel
theorem dL_law_884 : decode cL_law 884 = .ok (.bipush 20, 2) := by decide +kernel
theorem dL_law_886 : decode cL_law 886 = .ok (.iconst 0, 1) := by decide +kernel
theorem dL_law_887 : decode cL_law 887 = .ok (.invokestatic 332, 3) := by decide +kernel
theorem dL_law_890 : decode cL_law 890 = .ok (.ldc 52, 2) := by decide +kernel
theorem dL_law_892 : decode cL_law 892 = .ok (.if_icmp .ne 7, 3) := by decide +kernel
theorem dL_law_895 : decode cL_law 895 = .ok (.iconst 1, 1) := by decide +kernel
theorem dL_law_896 : decode cL_law 896 = .ok (.goto 4, 3) := by decide +kernel
theorem dL_law_899 : decode cL_law 899 = .ok (.iconst 0, 1) := by decide +kernel
theorem dL_law_900 : decode cL_law 900 = .ok (.istore_n 1, 1) := by decide +kernel
theorem dL_law_901 : decode cL_law 901 = .ok (.iinc 2 1, 3) := by decide +kernel
theorem dL_law_904 : decode cL_law 904 = .ok (.goto (-900), 3) := by decide +kernel
theorem dL_law_907 : decode cL_law 907 = .ok (.iload_n 1, 1) := by decide +kernel
theorem dL_law_908 : decode cL_law 908 = .ok (.ireturn, 1) := by decide +kernel

theorem dX13_copy_146 : decode cX13_copy 146 = .ok (.aload_n 0, 1) := by decide +kernel
theorem dX13_copy_147 : decode cX13_copy 147 = .ok (.getfield 34, 3) := by decide +kernel
theorem dX13_copy_150 : decode cX13_copy 150 = .ok (.iload_n 2, 1) := by decide +kernel
theorem dX13_copy_151 : decode cX13_copy 151 = .ok (.aaload, 1) := by decide +kernel
theorem dX13_copy_152 : decode cX13_copy 152 = .ok (.getfield 52, 3) := by decide +kernel
theorem dX13_copy_155 : decode cX13_copy 155 = .ok (.putfield 52, 3) := by decide +kernel
theorem dX13_copy_158 : decode cX13_copy 158 = .ok (.aload_n 3, 1) := by decide +kernel
theorem dX13_copy_159 : decode cX13_copy 159 = .ok (.aload_n 0, 1) := by decide +kernel
theorem dX13_copy_160 : decode cX13_copy 160 = .ok (.getfield 34, 3) := by decide +kernel
theorem dX13_copy_163 : decode cX13_copy 163 = .ok (.iload_n 2, 1) := by decide +kernel
theorem dX13_copy_164 : decode cX13_copy 164 = .ok (.aaload, 1) := by decide +kernel
theorem dX13_copy_165 : decode cX13_copy 165 = .ok (.getfield 56, 3) := by decide +kernel
theorem dX13_copy_168 : decode cX13_copy 168 = .ok (.putfield 56, 3) := by decide +kernel
theorem dX13_copy_171 : decode cX13_copy 171 = .ok (.aload_n 1, 1) := by decide +kernel
theorem dX13_copy_172 : decode cX13_copy 172 = .ok (.getfield 34, 3) := by decide +kernel
theorem dX13_copy_175 : decode cX13_copy 175 = .ok (.iload_n 2, 1) := by decide +kernel
theorem dX13_copy_176 : decode cX13_copy 176 = .ok (.aload_n 3, 1) := by decide +kernel
theorem dX13_copy_177 : decode cX13_copy 177 = .ok (.aastore, 1) := by decide +kernel
theorem dX13_copy_178 : decode cX13_copy 178 = .ok (.iinc 2 1, 3) := by decide +kernel
theorem dX13_copy_181 : decode cX13_copy 181 = .ok (.goto (-66), 3) := by decide +kernel
theorem dX13_copy_184 : decode cX13_copy 184 = .ok (.aload_n 1, 1) := by decide +kernel
theorem dX13_copy_185 : decode cX13_copy 185 = .ok (.aload_n 0, 1) := by decide +kernel
theorem dX13_copy_186 : decode cX13_copy 186 = .ok (.getfield 60, 3) := by decide +kernel
theorem dX13_copy_189 : decode cX13_copy 189 = .ok (.putfield 60, 3) := by decide +kernel
theorem dX13_copy_192 : decode cX13_copy 192 = .ok (.aload_n 1, 1) := by decide +kernel
theorem dX13_copy_193 : decode cX13_copy 193 = .ok (.aload_n 0, 1) := by decide +kernel
theorem dX13_copy_194 : decode cX13_copy 194 = .ok (.getfield 63, 3) := by decide +kernel
theorem dX13_copy_197 : decode cX13_copy 197 = .ok (.putfield 63, 3) := by decide +kernel
theorem dX13_copy_200 : decode cX13_copy 200 = .ok (.aload_n 1, 1) := by decide +kernel
theorem dX13_copy_201 : decode cX13_copy 201 = .ok (.aload_n 0, 1) := by decide +kernel
theorem dX13_copy_202 : decode cX13_copy 202 = .ok (.getfield 66, 3) := by decide +kernel
theorem dX13_copy_205 : decode cX13_copy 205 = .ok (.putfield 66, 3) := by decide +kernel
theorem dX13_copy_208 : decode cX13_copy 208 = .ok (.aload_n 1, 1) := by decide +kernel
theorem dX13_copy_209 : decode cX13_copy 209 = .ok (.aload_n 0, 1) := by decide +kernel
theorem dX13_copy_210 : decode cX13_copy 210 = .ok (.getfield 69, 3) := by decide +kernel
theorem dX13_copy_213 : decode cX13_copy 213 = .ok (.putfield 69, 3) := by decide +kernel
theorem dX13_copy_216 : decode cX13_copy 216 = .ok (.aload_n 1, 1) := by decide +kernel
theorem dX13_copy_217 : decode cX13_copy 217 = .ok (.areturn, 1) := by decide +kernel
theorem dX13_neighbour_0 : decode cX13_neighbour 0 = .ok (.iload_n 2, 1) := by decide +kernel
theorem dX13_neighbour_1 : decode cX13_neighbour 1 = .ok (.iconst 1, 1) := by decide +kernel
theorem dX13_neighbour_2 : decode cX13_neighbour 2 = .ok (.if_icmp .eq 13, 3) := by decide +kernel
theorem dX13_neighbour_5 : decode cX13_neighbour 5 = .ok (.iload_n 2, 1) := by decide +kernel
theorem dX13_neighbour_6 : decode cX13_neighbour 6 = .ok (.iconst 2, 1) := by decide +kernel
theorem dX13_neighbour_7 : decode cX13_neighbour 7 = .ok (.if_icmp .eq 8, 3) := by decide +kernel
theorem dX13_neighbour_10 : decode cX13_neighbour 10 = .ok (.iload_n 2, 1) := by decide +kernel
theorem dX13_neighbour_11 : decode cX13_neighbour 11 = .ok (.iconst 3, 1) := by decide +kernel
theorem dX13_neighbour_12 : decode cX13_neighbour 12 = .ok (.if_icmp .ne 7, 3) := by decide +kernel
theorem dX13_neighbour_15 : decode cX13_neighbour 15 = .ok (.iconst 1, 1) := by decide +kernel
theorem dX13_neighbour_16 : decode cX13_neighbour 16 = .ok (.goto 13, 3) := by decide +kernel
theorem dX13_neighbour_19 : decode cX13_neighbour 19 = .ok (.iload_n 2, 1) := by decide +kernel
theorem dX13_neighbour_20 : decode cX13_neighbour 20 = .ok (.iconst 4, 1) := by decide +kernel
theorem dX13_neighbour_21 : decode cX13_neighbour 21 = .ok (.if_icmp .le 7, 3) := by decide +kernel
theorem dX13_neighbour_24 : decode cX13_neighbour 24 = .ok (.iconst (-1), 1) := by decide +kernel
theorem dX13_neighbour_25 : decode cX13_neighbour 25 = .ok (.goto 4, 3) := by decide +kernel
theorem dX13_neighbour_28 : decode cX13_neighbour 28 = .ok (.iconst 0, 1) := by decide +kernel
theorem dX13_neighbour_29 : decode cX13_neighbour 29 = .ok (.istore_n 3, 1) := by decide +kernel
theorem dX13_neighbour_30 : decode cX13_neighbour 30 = .ok (.iload_n 2, 1) := by decide +kernel
theorem dX13_neighbour_31 : decode cX13_neighbour 31 = .ok (.iconst 3, 1) := by decide +kernel
theorem dX13_neighbour_32 : decode cX13_neighbour 32 = .ok (.if_icmp .eq 13, 3) := by decide +kernel
theorem dX13_neighbour_35 : decode cX13_neighbour 35 = .ok (.iload_n 2, 1) := by decide +kernel
theorem dX13_neighbour_36 : decode cX13_neighbour 36 = .ok (.iconst 4, 1) := by decide +kernel
theorem dX13_neighbour_37 : decode cX13_neighbour 37 = .ok (.if_icmp .eq 8, 3) := by decide +kernel
theorem dX13_neighbour_40 : decode cX13_neighbour 40 = .ok (.iload_n 2, 1) := by decide +kernel
theorem dX13_neighbour_41 : decode cX13_neighbour 41 = .ok (.iconst 5, 1) := by decide +kernel
theorem dX13_neighbour_42 : decode cX13_neighbour 42 = .ok (.if_icmp .ne 7, 3) := by decide +kernel
theorem dX13_neighbour_45 : decode cX13_neighbour 45 = .ok (.iconst 1, 1) := by decide +kernel
theorem dX13_neighbour_46 : decode cX13_neighbour 46 = .ok (.goto 19, 3) := by decide +kernel
theorem dX13_neighbour_49 : decode cX13_neighbour 49 = .ok (.iload_n 2, 1) := by decide +kernel
theorem dX13_neighbour_50 : decode cX13_neighbour 50 = .ok (.iconst 2, 1) := by decide +kernel
theorem dX13_neighbour_51 : decode cX13_neighbour 51 = .ok (.if_icmp .eq 9, 3) := by decide +kernel
theorem dX13_neighbour_54 : decode cX13_neighbour 54 = .ok (.iload_n 2, 1) := by decide +kernel
theorem dX13_neighbour_55 : decode cX13_neighbour 55 = .ok (.bipush 6, 2) := by decide +kernel
theorem dX13_neighbour_57 : decode cX13_neighbour 57 = .ok (.if_icmp .ne 7, 3) := by decide +kernel
theorem dX13_neighbour_60 : decode cX13_neighbour 60 = .ok (.iconst 0, 1) := by decide +kernel
theorem dX13_neighbour_61 : decode cX13_neighbour 61 = .ok (.goto 4, 3) := by decide +kernel
theorem dX13_neighbour_64 : decode cX13_neighbour 64 = .ok (.iconst (-1), 1) := by decide +kernel
theorem dX13_neighbour_65 : decode cX13_neighbour 65 = .ok (.istore 4, 2) := by decide +kernel
theorem dX13_neighbour_67 : decode cX13_neighbour 67 = .ok (.iload_n 1, 1) := by decide +kernel
theorem dX13_neighbour_68 : decode cX13_neighbour 68 = .ok (.aload_n 0, 1) := by decide +kernel
theorem dX13_neighbour_69 : decode cX13_neighbour 69 = .ok (.getfield 7, 3) := by decide +kernel
theorem dX13_neighbour_72 : decode cX13_neighbour 72 = .ok (.irem, 1) := by decide +kernel
theorem dX13_neighbour_73 : decode cX13_neighbour 73 = .ok (.iload_n 3, 1) := by decide +kernel
theorem dX13_neighbour_74 : decode cX13_neighbour 74 = .ok (.iadd, 1) := by decide +kernel
theorem dX13_neighbour_75 : decode cX13_neighbour 75 = .ok (.istore 5, 2) := by decide +kernel
theorem dX13_neighbour_77 : decode cX13_neighbour 77 = .ok (.iload_n 1, 1) := by decide +kernel
theorem dX13_neighbour_78 : decode cX13_neighbour 78 = .ok (.aload_n 0, 1) := by decide +kernel
theorem dX13_neighbour_79 : decode cX13_neighbour 79 = .ok (.getfield 7, 3) := by decide +kernel
theorem dX13_neighbour_82 : decode cX13_neighbour 82 = .ok (.idiv, 1) := by decide +kernel
theorem dX13_neighbour_83 : decode cX13_neighbour 83 = .ok (.iload 4, 2) := by decide +kernel
theorem dX13_neighbour_85 : decode cX13_neighbour 85 = .ok (.iadd, 1) := by decide +kernel
theorem dX13_neighbour_86 : decode cX13_neighbour 86 = .ok (.istore 6, 2) := by decide +kernel
theorem dX13_neighbour_88 : decode cX13_neighbour 88 = .ok (.iload 5, 2) := by decide +kernel
theorem dX13_neighbour_90 : decode cX13_neighbour 90 = .ok (.ifCond .lt 26, 3) := by decide +kernel
theorem dX13_neighbour_93 : decode cX13_neighbour 93 = .ok (.iload 6, 2) := by decide +kernel
theorem dX13_neighbour_95 : decode cX13_neighbour 95 = .ok (.ifCond .lt 21, 3) := by decide +kernel
theorem dX13_neighbour_98 : decode cX13_neighbour 98 = .ok (.iload 5, 2) := by decide +kernel
theorem dX13_neighbour_100 : decode cX13_neighbour 100 = .ok (.aload_n 0, 1) := by decide +kernel
theorem dX13_neighbour_101 : decode cX13_neighbour 101 = .ok (.getfield 7, 3) := by decide +kernel
theorem dX13_neighbour_104 : decode cX13_neighbour 104 = .ok (.if_icmp .ge 12, 3) := by decide +kernel
theorem dX13_neighbour_107 : decode cX13_neighbour 107 = .ok (.iload 6, 2) := by decide +kernel
theorem dX13_neighbour_109 : decode cX13_neighbour 109 = .ok (.aload_n 0, 1) := by decide +kernel
theorem dX13_neighbour_110 : decode cX13_neighbour 110 = .ok (.getfield 13, 3) := by decide +kernel
theorem dX13_neighbour_113 : decode cX13_neighbour 113 = .ok (.if_icmp .lt 5, 3) := by decide +kernel
theorem dX13_neighbour_116 : decode cX13_neighbour 116 = .ok (.iconst (-1), 1) := by decide +kernel
theorem dX13_neighbour_117 : decode cX13_neighbour 117 = .ok (.ireturn, 1) := by decide +kernel
theorem dX13_neighbour_118 : decode cX13_neighbour 118 = .ok (.aload_n 0, 1) := by decide +kernel
theorem dX13_neighbour_119 : decode cX13_neighbour 119 = .ok (.getfield 16, 3) := by decide +kernel
theorem dX13_neighbour_122 : decode cX13_neighbour 122 = .ok (.iload 6, 2) := by decide +kernel
theorem dX13_neighbour_124 : decode cX13_neighbour 124 = .ok (.aload_n 0, 1) := by decide +kernel
theorem dX13_neighbour_125 : decode cX13_neighbour 125 = .ok (.getfield 7, 3) := by decide +kernel
theorem dX13_neighbour_128 : decode cX13_neighbour 128 = .ok (.imul, 1) := by decide +kernel
theorem dX13_neighbour_129 : decode cX13_neighbour 129 = .ok (.iload 5, 2) := by decide +kernel
theorem dX13_neighbour_131 : decode cX13_neighbour 131 = .ok (.iadd, 1) := by decide +kernel
theorem dX13_neighbour_132 : decode cX13_neighbour 132 = .ok (.baload, 1) := by decide +kernel
theorem dX13_neighbour_133 : decode cX13_neighbour 133 = .ok (.ifCond .eq 7, 3) := by decide +kernel
theorem dX13_neighbour_136 : decode cX13_neighbour 136 = .ok (.iconst (-1), 1) := by decide +kernel
theorem dX13_neighbour_137 : decode cX13_neighbour 137 = .ok (.goto 13, 3) := by decide +kernel
theorem dX13_neighbour_140 : decode cX13_neighbour 140 = .ok (.iload 6, 2) := by decide +kernel
theorem dX13_neighbour_142 : decode cX13_neighbour 142 = .ok (.aload_n 0, 1) := by decide +kernel
theorem dX13_neighbour_143 : decode cX13_neighbour 143 = .ok (.getfield 7, 3) := by decide +kernel
theorem dX13_neighbour_146 : decode cX13_neighbour 146 = .ok (.imul, 1) := by decide +kernel
theorem dX13_neighbour_147 : decode cX13_neighbour 147 = .ok (.iload 5, 2) := by decide +kernel
theorem dX13_neighbour_149 : decode cX13_neighbour 149 = .ok (.iadd, 1) := by decide +kernel
theorem dX13_neighbour_150 : decode cX13_neighbour 150 = .ok (.ireturn, 1) := by decide +kernel
theorem dX13_step_0 : decode cX13_step 0 = .ok (.iconst 0, 1) := by decide +kernel
theorem dX13_step_1 : decode cX13_step 1 = .ok (.istore_n 3, 1) := by decide +kernel
theorem dX13_step_2 : decode cX13_step 2 = .ok (.aload_n 0, 1) := by decide +kernel
theorem dX13_step_3 : decode cX13_step 3 = .ok (.getfield 28, 3) := by decide +kernel
theorem dX13_step_6 : decode cX13_step 6 = .ok (.astore 4, 2) := by decide +kernel
theorem dX13_step_8 : decode cX13_step 8 = .ok (.aload 4, 2) := by decide +kernel
theorem dX13_step_10 : decode cX13_step 10 = .ok (.arraylength, 1) := by decide +kernel
theorem dX13_step_11 : decode cX13_step 11 = .ok (.istore 5, 2) := by decide +kernel
theorem dX13_step_13 : decode cX13_step 13 = .ok (.iconst 0, 1) := by decide +kernel
theorem dX13_step_14 : decode cX13_step 14 = .ok (.istore 6, 2) := by decide +kernel
theorem dX13_step_16 : decode cX13_step 16 = .ok (.iload 6, 2) := by decide +kernel
theorem dX13_step_18 : decode cX13_step 18 = .ok (.iload 5, 2) := by decide +kernel
theorem dX13_step_20 : decode cX13_step 20 = .ok (.if_icmp .ge 75, 3) := by decide +kernel
theorem dX13_step_23 : decode cX13_step 23 = .ok (.aload 4, 2) := by decide +kernel
theorem dX13_step_25 : decode cX13_step 25 = .ok (.iload 6, 2) := by decide +kernel
theorem dX13_step_27 : decode cX13_step 27 = .ok (.aaload, 1) := by decide +kernel
theorem dX13_step_28 : decode cX13_step 28 = .ok (.astore 7, 2) := by decide +kernel
theorem dX13_step_30 : decode cX13_step 30 = .ok (.iload_n 1, 1) := by decide +kernel
theorem dX13_step_31 : decode cX13_step 31 = .ok (.aload_n 0, 1) := by decide +kernel
theorem dX13_step_32 : decode cX13_step 32 = .ok (.getfield 7, 3) := by decide +kernel
theorem dX13_step_35 : decode cX13_step 35 = .ok (.irem, 1) := by decide +kernel
theorem dX13_step_36 : decode cX13_step 36 = .ok (.aload 7, 2) := by decide +kernel
theorem dX13_step_38 : decode cX13_step 38 = .ok (.iconst 0, 1) := by decide +kernel
theorem dX13_step_39 : decode cX13_step 39 = .ok (.iaload, 1) := by decide +kernel
theorem dX13_step_40 : decode cX13_step 40 = .ok (.if_icmp .lt 49, 3) := by decide +kernel
theorem dX13_step_43 : decode cX13_step 43 = .ok (.iload_n 1, 1) := by decide +kernel
theorem dX13_step_44 : decode cX13_step 44 = .ok (.aload_n 0, 1) := by decide +kernel
theorem dX13_step_45 : decode cX13_step 45 = .ok (.getfield 7, 3) := by decide +kernel
theorem dX13_step_48 : decode cX13_step 48 = .ok (.irem, 1) := by decide +kernel
theorem dX13_step_49 : decode cX13_step 49 = .ok (.aload 7, 2) := by decide +kernel
theorem dX13_step_51 : decode cX13_step 51 = .ok (.iconst 2, 1) := by decide +kernel
theorem dX13_step_52 : decode cX13_step 52 = .ok (.iaload, 1) := by decide +kernel
theorem dX13_step_53 : decode cX13_step 53 = .ok (.if_icmp .gt 36, 3) := by decide +kernel
theorem dX13_step_56 : decode cX13_step 56 = .ok (.iload_n 1, 1) := by decide +kernel
theorem dX13_step_57 : decode cX13_step 57 = .ok (.aload_n 0, 1) := by decide +kernel
theorem dX13_step_58 : decode cX13_step 58 = .ok (.getfield 7, 3) := by decide +kernel
theorem dX13_step_61 : decode cX13_step 61 = .ok (.idiv, 1) := by decide +kernel
theorem dX13_step_62 : decode cX13_step 62 = .ok (.aload 7, 2) := by decide +kernel
theorem dX13_step_64 : decode cX13_step 64 = .ok (.iconst 1, 1) := by decide +kernel
theorem dX13_step_65 : decode cX13_step 65 = .ok (.iaload, 1) := by decide +kernel
theorem dX13_step_66 : decode cX13_step 66 = .ok (.if_icmp .lt 23, 3) := by decide +kernel
theorem dX13_step_69 : decode cX13_step 69 = .ok (.iload_n 1, 1) := by decide +kernel
theorem dX13_step_70 : decode cX13_step 70 = .ok (.aload_n 0, 1) := by decide +kernel
theorem dX13_step_71 : decode cX13_step 71 = .ok (.getfield 7, 3) := by decide +kernel
theorem dX13_step_74 : decode cX13_step 74 = .ok (.idiv, 1) := by decide +kernel
theorem dX13_step_75 : decode cX13_step 75 = .ok (.aload 7, 2) := by decide +kernel
theorem dX13_step_77 : decode cX13_step 77 = .ok (.iconst 3, 1) := by decide +kernel
theorem dX13_step_78 : decode cX13_step 78 = .ok (.iaload, 1) := by decide +kernel
theorem dX13_step_79 : decode cX13_step 79 = .ok (.if_icmp .gt 10, 3) := by decide +kernel
theorem dX13_step_82 : decode cX13_step 82 = .ok (.iload_n 3, 1) := by decide +kernel
theorem dX13_step_83 : decode cX13_step 83 = .ok (.aload 7, 2) := by decide +kernel
theorem dX13_step_85 : decode cX13_step 85 = .ok (.iconst 4, 1) := by decide +kernel
theorem dX13_step_86 : decode cX13_step 86 = .ok (.iaload, 1) := by decide +kernel
theorem dX13_step_87 : decode cX13_step 87 = .ok (.iadd, 1) := by decide +kernel
theorem dX13_step_88 : decode cX13_step 88 = .ok (.istore_n 3, 1) := by decide +kernel
theorem dX13_step_89 : decode cX13_step 89 = .ok (.iinc 6 1, 3) := by decide +kernel
theorem dX13_step_92 : decode cX13_step 92 = .ok (.goto (-76), 3) := by decide +kernel
theorem dX13_step_95 : decode cX13_step 95 = .ok (.aload_n 0, 1) := by decide +kernel
theorem dX13_step_96 : decode cX13_step 96 = .ok (.iload_n 1, 1) := by decide +kernel
theorem dX13_step_97 : decode cX13_step 97 = .ok (.iload_n 2, 1) := by decide +kernel
theorem dX13_step_98 : decode cX13_step 98 = .ok (.iload_n 3, 1) := by decide +kernel
theorem dX13_step_99 : decode cX13_step 99 = .ok (.iadd, 1) := by decide +kernel
theorem dX13_step_100 : decode cX13_step 100 = .ok (.bipush 8, 2) := by decide +kernel
theorem dX13_step_102 : decode cX13_step 102 = .ok (.irem, 1) := by decide +kernel
theorem dX13_step_103 : decode cX13_step 103 = .ok (.bipush 8, 2) := by decide +kernel
theorem dX13_step_105 : decode cX13_step 105 = .ok (.iadd, 1) := by decide +kernel
theorem dX13_step_106 : decode cX13_step 106 = .ok (.bipush 8, 2) := by decide +kernel
theorem dX13_step_108 : decode cX13_step 108 = .ok (.irem, 1) := by decide +kernel
theorem dX13_step_109 : decode cX13_step 109 = .ok (.invokevirtual 72, 3) := by decide +kernel
theorem dX13_step_112 : decode cX13_step 112 = .ok (.ireturn, 1) := by decide +kernel
theorem dX13_behind_0 : decode cX13_behind 0 = .ok (.iload_n 2, 1) := by decide +kernel
theorem dX13_behind_1 : decode cX13_behind 1 = .ok (.istore 4, 2) := by decide +kernel
theorem dX13_behind_3 : decode cX13_behind 3 = .ok (.iconst 0, 1) := by decide +kernel
theorem dX13_behind_4 : decode cX13_behind 4 = .ok (.istore 5, 2) := by decide +kernel
theorem dX13_behind_6 : decode cX13_behind 6 = .ok (.iload 5, 2) := by decide +kernel
theorem dX13_behind_8 : decode cX13_behind 8 = .ok (.iload_n 3, 1) := by decide +kernel
theorem dX13_behind_9 : decode cX13_behind 9 = .ok (.if_icmp .ge 50, 3) := by decide +kernel
theorem dX13_behind_12 : decode cX13_behind 12 = .ok (.iload 4, 2) := by decide +kernel
theorem dX13_behind_14 : decode cX13_behind 14 = .ok (.ifCond .lt 45, 3) := by decide +kernel
theorem dX13_behind_17 : decode cX13_behind 17 = .ok (.aload_n 1, 1) := by decide +kernel
theorem dX13_behind_18 : decode cX13_behind 18 = .ok (.getfield 76, 3) := by decide +kernel
theorem dX13_behind_21 : decode cX13_behind 21 = .ok (.iconst 1, 1) := by decide +kernel
theorem dX13_behind_22 : decode cX13_behind 22 = .ok (.if_icmp .ne 19, 3) := by decide +kernel
theorem dX13_behind_25 : decode cX13_behind 25 = .ok (.iload 4, 2) := by decide +kernel
theorem dX13_behind_27 : decode cX13_behind 27 = .ok (.aload_n 0, 1) := by decide +kernel
theorem dX13_behind_28 : decode cX13_behind 28 = .ok (.getfield 23, 3) := by decide +kernel
theorem dX13_behind_31 : decode cX13_behind 31 = .ok (.aload_n 1, 1) := by decide +kernel
theorem dX13_behind_32 : decode cX13_behind 32 = .ok (.getfield 81, 3) := by decide +kernel
theorem dX13_behind_35 : decode cX13_behind 35 = .ok (.iaload, 1) := by decide +kernel
theorem dX13_behind_36 : decode cX13_behind 36 = .ok (.if_icmp .ne 5, 3) := by decide +kernel
theorem dX13_behind_39 : decode cX13_behind 39 = .ok (.iconst (-1), 1) := by decide +kernel
theorem dX13_behind_40 : decode cX13_behind 40 = .ok (.ireturn, 1) := by decide +kernel
theorem dX13_behind_41 : decode cX13_behind 41 = .ok (.aload_n 0, 1) := by decide +kernel
theorem dX13_behind_42 : decode cX13_behind 42 = .ok (.iload 4, 2) := by decide +kernel
theorem dX13_behind_44 : decode cX13_behind 44 = .ok (.aload_n 1, 1) := by decide +kernel
theorem dX13_behind_45 : decode cX13_behind 45 = .ok (.getfield 84, 3) := by decide +kernel
theorem dX13_behind_48 : decode cX13_behind 48 = .ok (.invokevirtual 87, 3) := by decide +kernel
theorem dX13_behind_51 : decode cX13_behind 51 = .ok (.istore 4, 2) := by decide +kernel
theorem dX13_behind_53 : decode cX13_behind 53 = .ok (.iinc 5 1, 3) := by decide +kernel
theorem dX13_behind_56 : decode cX13_behind 56 = .ok (.goto (-50), 3) := by decide +kernel
theorem dX13_behind_59 : decode cX13_behind 59 = .ok (.iload 4, 2) := by decide +kernel
theorem dX13_behind_61 : decode cX13_behind 61 = .ok (.ifCond .ge 5, 3) := by decide +kernel
theorem dX13_behind_64 : decode cX13_behind 64 = .ok (.iconst (-1), 1) := by decide +kernel
theorem dX13_behind_65 : decode cX13_behind 65 = .ok (.ireturn, 1) := by decide +kernel
theorem dX13_behind_66 : decode cX13_behind 66 = .ok (.aload_n 1, 1) := by decide +kernel
theorem dX13_behind_67 : decode cX13_behind 67 = .ok (.getfield 76, 3) := by decide +kernel
theorem dX13_behind_70 : decode cX13_behind 70 = .ok (.ifCond .ne 26, 3) := by decide +kernel
theorem dX13_behind_73 : decode cX13_behind 73 = .ok (.iload_n 3, 1) := by decide +kernel
theorem dX13_behind_74 : decode cX13_behind 74 = .ok (.aload_n 1, 1) := by decide +kernel
theorem dX13_behind_75 : decode cX13_behind 75 = .ok (.getfield 81, 3) := by decide +kernel
theorem dX13_behind_78 : decode cX13_behind 78 = .ok (.isub, 1) := by decide +kernel
theorem dX13_behind_79 : decode cX13_behind 79 = .ok (.invokestatic 90, 3) := by decide +kernel
theorem dX13_behind_82 : decode cX13_behind 82 = .ok (.aload_n 1, 1) := by decide +kernel
theorem dX13_behind_83 : decode cX13_behind 83 = .ok (.getfield 96, 3) := by decide +kernel
theorem dX13_behind_86 : decode cX13_behind 86 = .ok (.if_icmp .gt 8, 3) := by decide +kernel
theorem dX13_behind_89 : decode cX13_behind 89 = .ok (.iload 4, 2) := by decide +kernel
theorem dX13_behind_91 : decode cX13_behind 91 = .ok (.goto 4, 3) := by decide +kernel
theorem dX13_behind_94 : decode cX13_behind 94 = .ok (.iconst (-1), 1) := by decide +kernel
theorem dX13_behind_95 : decode cX13_behind 95 = .ok (.ireturn, 1) := by decide +kernel
theorem dX13_behind_96 : decode cX13_behind 96 = .ok (.aload_n 1, 1) := by decide +kernel
theorem dX13_behind_97 : decode cX13_behind 97 = .ok (.getfield 76, 3) := by decide +kernel
theorem dX13_behind_100 : decode cX13_behind 100 = .ok (.iconst 1, 1) := by decide +kernel
theorem dX13_behind_101 : decode cX13_behind 101 = .ok (.if_icmp .ne 26, 3) := by decide +kernel
theorem dX13_behind_104 : decode cX13_behind 104 = .ok (.iload 4, 2) := by decide +kernel
theorem dX13_behind_106 : decode cX13_behind 106 = .ok (.aload_n 0, 1) := by decide +kernel
theorem dX13_behind_107 : decode cX13_behind 107 = .ok (.getfield 23, 3) := by decide +kernel
theorem dX13_behind_110 : decode cX13_behind 110 = .ok (.aload_n 1, 1) := by decide +kernel
theorem dX13_behind_111 : decode cX13_behind 111 = .ok (.getfield 81, 3) := by decide +kernel
theorem dX13_behind_114 : decode cX13_behind 114 = .ok (.iaload, 1) := by decide +kernel
theorem dX13_behind_115 : decode cX13_behind 115 = .ok (.if_icmp .ne 8, 3) := by decide +kernel
theorem dX13_behind_118 : decode cX13_behind 118 = .ok (.iload 4, 2) := by decide +kernel
theorem dX13_behind_120 : decode cX13_behind 120 = .ok (.goto 26, 3) := by decide +kernel
theorem dX13_behind_123 : decode cX13_behind 123 = .ok (.iconst (-1), 1) := by decide +kernel
theorem dX13_behind_124 : decode cX13_behind 124 = .ok (.goto 22, 3) := by decide +kernel
theorem dX13_behind_127 : decode cX13_behind 127 = .ok (.aload_n 0, 1) := by decide +kernel
theorem dX13_behind_128 : decode cX13_behind 128 = .ok (.iload 4, 2) := by decide +kernel
theorem dX13_behind_130 : decode cX13_behind 130 = .ok (.aload_n 1, 1) := by decide +kernel
theorem dX13_behind_131 : decode cX13_behind 131 = .ok (.getfield 84, 3) := by decide +kernel
theorem dX13_behind_134 : decode cX13_behind 134 = .ok (.invokevirtual 87, 3) := by decide +kernel
theorem dX13_behind_137 : decode cX13_behind 137 = .ok (.ifCond .ge 8, 3) := by decide +kernel
theorem dX13_behind_140 : decode cX13_behind 140 = .ok (.iload 4, 2) := by decide +kernel
theorem dX13_behind_142 : decode cX13_behind 142 = .ok (.goto 4, 3) := by decide +kernel
theorem dX13_behind_145 : decode cX13_behind 145 = .ok (.iconst (-1), 1) := by decide +kernel
theorem dX13_behind_146 : decode cX13_behind 146 = .ok (.ireturn, 1) := by decide +kernel
theorem dX13_tries_0 : decode cX13_tries 0 = .ok (.iload_n 2, 1) := by decide +kernel
theorem dX13_tries_1 : decode cX13_tries 1 = .ok (.iload 4, 2) := by decide +kernel
theorem dX13_tries_3 : decode cX13_tries 3 = .ok (.if_icmp .ne 29, 3) := by decide +kernel
theorem dX13_tries_6 : decode cX13_tries 6 = .ok (.aload_n 0, 1) := by decide +kernel
theorem dX13_tries_7 : decode cX13_tries 7 = .ok (.getfield 99, 3) := by decide +kernel
theorem dX13_tries_10 : decode cX13_tries 10 = .ok (.iload_n 3, 1) := by decide +kernel
theorem dX13_tries_11 : decode cX13_tries 11 = .ok (.aaload, 1) := by decide +kernel
theorem dX13_tries_12 : decode cX13_tries 12 = .ok (.ifnonnull 19, 3) := by decide +kernel
theorem dX13_tries_15 : decode cX13_tries 15 = .ok (.aload_n 0, 1) := by decide +kernel
theorem dX13_tries_16 : decode cX13_tries 16 = .ok (.getfield 99, 3) := by decide +kernel
theorem dX13_tries_19 : decode cX13_tries 19 = .ok (.iload_n 3, 1) := by decide +kernel
theorem dX13_tries_20 : decode cX13_tries 20 = .ok (.aload_n 0, 1) := by decide +kernel
theorem dX13_tries_21 : decode cX13_tries 21 = .ok (.getfield 38, 3) := by decide +kernel
theorem dX13_tries_24 : decode cX13_tries 24 = .ok (.invokevirtual 47, 3) := by decide +kernel
theorem dX13_tries_27 : decode cX13_tries 27 = .ok (.checkcast 27, 3) := by decide +kernel
theorem dX13_tries_30 : decode cX13_tries 30 = .ok (.aastore, 1) := by decide +kernel
theorem dX13_tries_31 : decode cX13_tries 31 = .ok (.return_, 1) := by decide +kernel
theorem dX13_tries_32 : decode cX13_tries 32 = .ok (.aload_n 1, 1) := by decide +kernel
theorem dX13_tries_33 : decode cX13_tries 33 = .ok (.getfield 52, 3) := by decide +kernel
theorem dX13_tries_36 : decode cX13_tries 36 = .ok (.iload_n 2, 1) := by decide +kernel
theorem dX13_tries_37 : decode cX13_tries 37 = .ok (.aaload, 1) := by decide +kernel
theorem dX13_tries_38 : decode cX13_tries 38 = .ok (.astore 5, 2) := by decide +kernel
theorem dX13_tries_40 : decode cX13_tries 40 = .ok (.aload 5, 2) := by decide +kernel
theorem dX13_tries_42 : decode cX13_tries 42 = .ok (.getfield 76, 3) := by decide +kernel
theorem dX13_tries_45 : decode cX13_tries 45 = .ok (.ifCond .ne 17, 3) := by decide +kernel
theorem dX13_tries_48 : decode cX13_tries 48 = .ok (.aload 5, 2) := by decide +kernel
theorem dX13_tries_50 : decode cX13_tries 50 = .ok (.getfield 81, 3) := by decide +kernel
theorem dX13_tries_53 : decode cX13_tries 53 = .ok (.aload 5, 2) := by decide +kernel
theorem dX13_tries_55 : decode cX13_tries 55 = .ok (.getfield 96, 3) := by decide +kernel
theorem dX13_tries_58 : decode cX13_tries 58 = .ok (.iadd, 1) := by decide +kernel
theorem dX13_tries_59 : decode cX13_tries 59 = .ok (.goto 19, 3) := by decide +kernel
theorem dX13_tries_62 : decode cX13_tries 62 = .ok (.aload 5, 2) := by decide +kernel
theorem dX13_tries_64 : decode cX13_tries 64 = .ok (.getfield 76, 3) := by decide +kernel
theorem dX13_tries_67 : decode cX13_tries 67 = .ok (.iconst 1, 1) := by decide +kernel
theorem dX13_tries_68 : decode cX13_tries 68 = .ok (.if_icmp .ne 8, 3) := by decide +kernel
theorem dX13_tries_71 : decode cX13_tries 71 = .ok (.bipush 60, 2) := by decide +kernel
theorem dX13_tries_73 : decode cX13_tries 73 = .ok (.goto 5, 3) := by decide +kernel
theorem dX13_tries_76 : decode cX13_tries 76 = .ok (.bipush 59, 2) := by decide +kernel
theorem dX13_tries_78 : decode cX13_tries 78 = .ok (.istore 6, 2) := by decide +kernel
theorem dX13_tries_80 : decode cX13_tries 80 = .ok (.aload 5, 2) := by decide +kernel
theorem dX13_tries_82 : decode cX13_tries 82 = .ok (.getfield 76, 3) := by decide +kernel
theorem dX13_tries_85 : decode cX13_tries 85 = .ok (.ifCond .ne 21, 3) := by decide +kernel
theorem dX13_tries_88 : decode cX13_tries 88 = .ok (.iconst 0, 1) := by decide +kernel
theorem dX13_tries_89 : decode cX13_tries 89 = .ok (.aload 5, 2) := by decide +kernel
theorem dX13_tries_91 : decode cX13_tries 91 = .ok (.getfield 81, 3) := by decide +kernel
theorem dX13_tries_94 : decode cX13_tries 94 = .ok (.aload 5, 2) := by decide +kernel
theorem dX13_tries_96 : decode cX13_tries 96 = .ok (.getfield 96, 3) := by decide +kernel
theorem dX13_tries_99 : decode cX13_tries 99 = .ok (.isub, 1) := by decide +kernel
theorem dX13_tries_100 : decode cX13_tries 100 = .ok (.invokestatic 102, 3) := by decide +kernel
theorem dX13_tries_103 : decode cX13_tries 103 = .ok (.goto 4, 3) := by decide +kernel
theorem dX13_tries_106 : decode cX13_tries 106 = .ok (.iconst 0, 1) := by decide +kernel
theorem dX13_tries_107 : decode cX13_tries 107 = .ok (.istore 7, 2) := by decide +kernel
theorem dX13_tries_109 : decode cX13_tries 109 = .ok (.iload 7, 2) := by decide +kernel
theorem dX13_tries_111 : decode cX13_tries 111 = .ok (.iload 6, 2) := by decide +kernel
theorem dX13_tries_113 : decode cX13_tries 113 = .ok (.if_icmp .gt 59, 3) := by decide +kernel
theorem dX13_tries_116 : decode cX13_tries 116 = .ok (.aload_n 0, 1) := by decide +kernel
theorem dX13_tries_117 : decode cX13_tries 117 = .ok (.aload 5, 2) := by decide +kernel
theorem dX13_tries_119 : decode cX13_tries 119 = .ok (.iload_n 3, 1) := by decide +kernel
theorem dX13_tries_120 : decode cX13_tries 120 = .ok (.iload 7, 2) := by decide +kernel
theorem dX13_tries_122 : decode cX13_tries 122 = .ok (.invokevirtual 105, 3) := by decide +kernel
theorem dX13_tries_125 : decode cX13_tries 125 = .ok (.istore 8, 2) := by decide +kernel
theorem dX13_tries_127 : decode cX13_tries 127 = .ok (.iload 8, 2) := by decide +kernel
theorem dX13_tries_129 : decode cX13_tries 129 = .ok (.ifCond .ge 6, 3) := by decide +kernel
theorem dX13_tries_132 : decode cX13_tries 132 = .ok (.goto 34, 3) := by decide +kernel
theorem dX13_tries_135 : decode cX13_tries 135 = .ok (.aload_n 0, 1) := by decide +kernel
theorem dX13_tries_136 : decode cX13_tries 136 = .ok (.getfield 38, 3) := by decide +kernel
theorem dX13_tries_139 : decode cX13_tries 139 = .ok (.iload_n 2, 1) := by decide +kernel
theorem dX13_tries_140 : decode cX13_tries 140 = .ok (.iconst 1, 1) := by decide +kernel
theorem dX13_tries_141 : decode cX13_tries 141 = .ok (.iadd, 1) := by decide +kernel
theorem dX13_tries_142 : decode cX13_tries 142 = .ok (.iload 7, 2) := by decide +kernel
theorem dX13_tries_144 : decode cX13_tries 144 = .ok (.iastore, 1) := by decide +kernel
theorem dX13_tries_145 : decode cX13_tries 145 = .ok (.aload_n 0, 1) := by decide +kernel
theorem dX13_tries_146 : decode cX13_tries 146 = .ok (.aload_n 1, 1) := by decide +kernel
theorem dX13_tries_147 : decode cX13_tries 147 = .ok (.iload_n 2, 1) := by decide +kernel
theorem dX13_tries_148 : decode cX13_tries 148 = .ok (.iconst 1, 1) := by decide +kernel
theorem dX13_tries_149 : decode cX13_tries 149 = .ok (.iadd, 1) := by decide +kernel
theorem dX13_tries_150 : decode cX13_tries 150 = .ok (.iload 8, 2) := by decide +kernel
theorem dX13_tries_152 : decode cX13_tries 152 = .ok (.iload 4, 2) := by decide +kernel
theorem dX13_tries_154 : decode cX13_tries 154 = .ok (.invokevirtual 109, 3) := by decide +kernel
theorem dX13_tries_157 : decode cX13_tries 157 = .ok (.aload 5, 2) := by decide +kernel
theorem dX13_tries_159 : decode cX13_tries 159 = .ok (.getfield 76, 3) := by decide +kernel
theorem dX13_tries_162 : decode cX13_tries 162 = .ok (.ifCond .le 4, 3) := by decide +kernel
theorem dX13_tries_165 : decode cX13_tries 165 = .ok (.return_, 1) := by decide +kernel
theorem dX13_tries_166 : decode cX13_tries 166 = .ok (.iinc 7 1, 3) := by decide +kernel
theorem dX13_tries_169 : decode cX13_tries 169 = .ok (.goto (-60), 3) := by decide +kernel
theorem dX13_tries_172 : decode cX13_tries 172 = .ok (.return_, 1) := by decide +kernel
theorem dX13_walks_0 : decode cX13_walks 0 = .ok (.aload_n 0, 1) := by decide +kernel
theorem dX13_walks_1 : decode cX13_walks 1 = .ok (.aload_n 0, 1) := by decide +kernel
theorem dX13_walks_2 : decode cX13_walks 2 = .ok (.getfield 7, 3) := by decide +kernel
theorem dX13_walks_5 : decode cX13_walks 5 = .ok (.aload_n 0, 1) := by decide +kernel
theorem dX13_walks_6 : decode cX13_walks 6 = .ok (.getfield 13, 3) := by decide +kernel
theorem dX13_walks_9 : decode cX13_walks 9 = .ok (.imul, 1) := by decide +kernel
theorem dX13_walks_10 : decode cX13_walks 10 = .ok (.anewarray 27, 3) := by decide +kernel
theorem dX13_walks_13 : decode cX13_walks 13 = .ok (.putfield 99, 3) := by decide +kernel
theorem dX13_walks_16 : decode cX13_walks 16 = .ok (.aload_n 0, 1) := by decide +kernel
theorem dX13_walks_17 : decode cX13_walks 17 = .ok (.getfield 34, 3) := by decide +kernel
theorem dX13_walks_20 : decode cX13_walks 20 = .ok (.iload_n 1, 1) := by decide +kernel
theorem dX13_walks_21 : decode cX13_walks 21 = .ok (.aaload, 1) := by decide +kernel
theorem dX13_walks_22 : decode cX13_walks 22 = .ok (.astore 4, 2) := by decide +kernel
theorem dX13_walks_24 : decode cX13_walks 24 = .ok (.iconst 0, 1) := by decide +kernel
theorem dX13_walks_25 : decode cX13_walks 25 = .ok (.istore 5, 2) := by decide +kernel
theorem dX13_walks_27 : decode cX13_walks 27 = .ok (.iload 5, 2) := by decide +kernel
theorem dX13_walks_29 : decode cX13_walks 29 = .ok (.aload 4, 2) := by decide +kernel
theorem dX13_walks_31 : decode cX13_walks 31 = .ok (.getfield 49, 3) := by decide +kernel
theorem dX13_walks_34 : decode cX13_walks 34 = .ok (.arraylength, 1) := by decide +kernel
theorem dX13_walks_35 : decode cX13_walks 35 = .ok (.if_icmp .ge 48, 3) := by decide +kernel
theorem dX13_walks_38 : decode cX13_walks 38 = .ok (.aload_n 0, 1) := by decide +kernel
theorem dX13_walks_39 : decode cX13_walks 39 = .ok (.getfield 38, 3) := by decide +kernel
theorem dX13_walks_42 : decode cX13_walks 42 = .ok (.iconst 0, 1) := by decide +kernel
theorem dX13_walks_43 : decode cX13_walks 43 = .ok (.iload 5, 2) := by decide +kernel
theorem dX13_walks_45 : decode cX13_walks 45 = .ok (.iastore, 1) := by decide +kernel
theorem dX13_walks_46 : decode cX13_walks 46 = .ok (.iload_n 3, 1) := by decide +kernel
theorem dX13_walks_47 : decode cX13_walks 47 = .ok (.ifCond .lt 9, 3) := by decide +kernel
theorem dX13_walks_50 : decode cX13_walks 50 = .ok (.iload 5, 2) := by decide +kernel
theorem dX13_walks_52 : decode cX13_walks 52 = .ok (.iload_n 3, 1) := by decide +kernel
theorem dX13_walks_53 : decode cX13_walks 53 = .ok (.if_icmp .ne 24, 3) := by decide +kernel
theorem dX13_walks_56 : decode cX13_walks 56 = .ok (.aload_n 0, 1) := by decide +kernel
theorem dX13_walks_57 : decode cX13_walks 57 = .ok (.aload 4, 2) := by decide +kernel
theorem dX13_walks_59 : decode cX13_walks 59 = .ok (.iconst 0, 1) := by decide +kernel
theorem dX13_walks_60 : decode cX13_walks 60 = .ok (.aload_n 0, 1) := by decide +kernel
theorem dX13_walks_61 : decode cX13_walks 61 = .ok (.getfield 23, 3) := by decide +kernel
theorem dX13_walks_64 : decode cX13_walks 64 = .ok (.aload 4, 2) := by decide +kernel
theorem dX13_walks_66 : decode cX13_walks 66 = .ok (.getfield 49, 3) := by decide +kernel
theorem dX13_walks_69 : decode cX13_walks 69 = .ok (.iload 5, 2) := by decide +kernel
theorem dX13_walks_71 : decode cX13_walks 71 = .ok (.iaload, 1) := by decide +kernel
theorem dX13_walks_72 : decode cX13_walks 72 = .ok (.iaload, 1) := by decide +kernel
theorem dX13_walks_73 : decode cX13_walks 73 = .ok (.iload_n 2, 1) := by decide +kernel
theorem dX13_walks_74 : decode cX13_walks 74 = .ok (.invokevirtual 109, 3) := by decide +kernel
theorem dX13_walks_77 : decode cX13_walks 77 = .ok (.iinc 5 1, 3) := by decide +kernel
theorem dX13_walks_80 : decode cX13_walks 80 = .ok (.goto (-53), 3) := by decide +kernel
theorem dX13_walks_83 : decode cX13_walks 83 = .ok (.iconst 0, 1) := by decide +kernel
theorem dX13_walks_84 : decode cX13_walks 84 = .ok (.istore 5, 2) := by decide +kernel
theorem dX13_walks_86 : decode cX13_walks 86 = .ok (.aload_n 0, 1) := by decide +kernel
theorem dX13_walks_87 : decode cX13_walks 87 = .ok (.getfield 99, 3) := by decide +kernel
theorem dX13_walks_90 : decode cX13_walks 90 = .ok (.astore 6, 2) := by decide +kernel
theorem dX13_walks_92 : decode cX13_walks 92 = .ok (.aload 6, 2) := by decide +kernel
theorem dX13_walks_94 : decode cX13_walks 94 = .ok (.arraylength, 1) := by decide +kernel
theorem dX13_walks_95 : decode cX13_walks 95 = .ok (.istore 7, 2) := by decide +kernel
theorem dX13_walks_97 : decode cX13_walks 97 = .ok (.iconst 0, 1) := by decide +kernel
theorem dX13_walks_98 : decode cX13_walks 98 = .ok (.istore 8, 2) := by decide +kernel
theorem dX13_walks_100 : decode cX13_walks 100 = .ok (.iload 8, 2) := by decide +kernel
theorem dX13_walks_102 : decode cX13_walks 102 = .ok (.iload 7, 2) := by decide +kernel
theorem dX13_walks_104 : decode cX13_walks 104 = .ok (.if_icmp .ge 24, 3) := by decide +kernel
theorem dX13_walks_107 : decode cX13_walks 107 = .ok (.aload 6, 2) := by decide +kernel
theorem dX13_walks_109 : decode cX13_walks 109 = .ok (.iload 8, 2) := by decide +kernel
theorem dX13_walks_111 : decode cX13_walks 111 = .ok (.aaload, 1) := by decide +kernel
theorem dX13_walks_112 : decode cX13_walks 112 = .ok (.astore 9, 2) := by decide +kernel
theorem dX13_walks_114 : decode cX13_walks 114 = .ok (.aload 9, 2) := by decide +kernel
theorem dX13_walks_116 : decode cX13_walks 116 = .ok (.ifnull 6, 3) := by decide +kernel
theorem dX13_walks_119 : decode cX13_walks 119 = .ok (.iinc 5 1, 3) := by decide +kernel
theorem dX13_walks_122 : decode cX13_walks 122 = .ok (.iinc 8 1, 3) := by decide +kernel
theorem dX13_walks_125 : decode cX13_walks 125 = .ok (.goto (-25), 3) := by decide +kernel
theorem dX13_walks_128 : decode cX13_walks 128 = .ok (.iload 5, 2) := by decide +kernel
theorem dX13_walks_130 : decode cX13_walks 130 = .ok (.ireturn, 1) := by decide +kernel
theorem dX13_reasons_0 : decode cX13_reasons 0 = .ok (.aload_n 0, 1) := by decide +kernel
theorem dX13_reasons_1 : decode cX13_reasons 1 = .ok (.getfield 7, 3) := by decide +kernel
theorem dX13_reasons_4 : decode cX13_reasons 4 = .ok (.aload_n 0, 1) := by decide +kernel
theorem dX13_reasons_5 : decode cX13_reasons 5 = .ok (.getfield 13, 3) := by decide +kernel
theorem dX13_reasons_8 : decode cX13_reasons 8 = .ok (.imul, 1) := by decide +kernel
theorem dX13_reasons_9 : decode cX13_reasons 9 = .ok (.newarray .int, 2) := by decide +kernel
theorem dX13_reasons_11 : decode cX13_reasons 11 = .ok (.astore_n 1, 1) := by decide +kernel
theorem dX13_reasons_12 : decode cX13_reasons 12 = .ok (.aload_n 0, 1) := by decide +kernel
theorem dX13_reasons_13 : decode cX13_reasons 13 = .ok (.getfield 34, 3) := by decide +kernel
theorem dX13_reasons_16 : decode cX13_reasons 16 = .ok (.arraylength, 1) := by decide +kernel
theorem dX13_reasons_17 : decode cX13_reasons 17 = .ok (.iconst 1, 1) := by decide +kernel
theorem dX13_reasons_18 : decode cX13_reasons 18 = .ok (.isub, 1) := by decide +kernel
theorem dX13_reasons_19 : decode cX13_reasons 19 = .ok (.istore_n 2, 1) := by decide +kernel
theorem dX13_reasons_20 : decode cX13_reasons 20 = .ok (.iload_n 2, 1) := by decide +kernel
theorem dX13_reasons_21 : decode cX13_reasons 21 = .ok (.ifCond .lt 70, 3) := by decide +kernel
theorem dX13_reasons_24 : decode cX13_reasons 24 = .ok (.aload_n 0, 1) := by decide +kernel
theorem dX13_reasons_25 : decode cX13_reasons 25 = .ok (.getfield 34, 3) := by decide +kernel
theorem dX13_reasons_28 : decode cX13_reasons 28 = .ok (.iload_n 2, 1) := by decide +kernel
theorem dX13_reasons_29 : decode cX13_reasons 29 = .ok (.aaload, 1) := by decide +kernel
theorem dX13_reasons_30 : decode cX13_reasons 30 = .ok (.getfield 56, 3) := by decide +kernel
theorem dX13_reasons_33 : decode cX13_reasons 33 = .ok (.ifCond .ne 6, 3) := by decide +kernel
theorem dX13_reasons_36 : decode cX13_reasons 36 = .ok (.goto 49, 3) := by decide +kernel
theorem dX13_reasons_39 : decode cX13_reasons 39 = .ok (.aload_n 0, 1) := by decide +kernel
theorem dX13_reasons_40 : decode cX13_reasons 40 = .ok (.iload_n 2, 1) := by decide +kernel
theorem dX13_reasons_41 : decode cX13_reasons 41 = .ok (.aload_n 0, 1) := by decide +kernel
theorem dX13_reasons_42 : decode cX13_reasons 42 = .ok (.getfield 34, 3) := by decide +kernel
theorem dX13_reasons_45 : decode cX13_reasons 45 = .ok (.iload_n 2, 1) := by decide +kernel
theorem dX13_reasons_46 : decode cX13_reasons 46 = .ok (.aaload, 1) := by decide +kernel
theorem dX13_reasons_47 : decode cX13_reasons 47 = .ok (.getfield 52, 3) := by decide +kernel
theorem dX13_reasons_50 : decode cX13_reasons 50 = .ok (.arraylength, 1) := by decide +kernel
theorem dX13_reasons_51 : decode cX13_reasons 51 = .ok (.iconst (-1), 1) := by decide +kernel
theorem dX13_reasons_52 : decode cX13_reasons 52 = .ok (.invokevirtual 113, 3) := by decide +kernel
theorem dX13_reasons_55 : decode cX13_reasons 55 = .ok (.pop, 1) := by decide +kernel
theorem dX13_reasons_56 : decode cX13_reasons 56 = .ok (.iconst 0, 1) := by decide +kernel
theorem dX13_reasons_57 : decode cX13_reasons 57 = .ok (.istore_n 3, 1) := by decide +kernel
theorem dX13_reasons_58 : decode cX13_reasons 58 = .ok (.iload_n 3, 1) := by decide +kernel
theorem dX13_reasons_59 : decode cX13_reasons 59 = .ok (.aload_n 1, 1) := by decide +kernel
theorem dX13_reasons_60 : decode cX13_reasons 60 = .ok (.arraylength, 1) := by decide +kernel
theorem dX13_reasons_61 : decode cX13_reasons 61 = .ok (.if_icmp .ge 24, 3) := by decide +kernel
theorem dX13_reasons_64 : decode cX13_reasons 64 = .ok (.aload_n 0, 1) := by decide +kernel
theorem dX13_reasons_65 : decode cX13_reasons 65 = .ok (.getfield 99, 3) := by decide +kernel
theorem dX13_reasons_68 : decode cX13_reasons 68 = .ok (.iload_n 3, 1) := by decide +kernel
theorem dX13_reasons_69 : decode cX13_reasons 69 = .ok (.aaload, 1) := by decide +kernel
theorem dX13_reasons_70 : decode cX13_reasons 70 = .ok (.ifnonnull 9, 3) := by decide +kernel
theorem dX13_reasons_73 : decode cX13_reasons 73 = .ok (.aload_n 1, 1) := by decide +kernel
theorem dX13_reasons_74 : decode cX13_reasons 74 = .ok (.iload_n 3, 1) := by decide +kernel
theorem dX13_reasons_75 : decode cX13_reasons 75 = .ok (.iload_n 2, 1) := by decide +kernel
theorem dX13_reasons_76 : decode cX13_reasons 76 = .ok (.iconst 1, 1) := by decide +kernel
theorem dX13_reasons_77 : decode cX13_reasons 77 = .ok (.iadd, 1) := by decide +kernel
theorem dX13_reasons_78 : decode cX13_reasons 78 = .ok (.iastore, 1) := by decide +kernel
theorem dX13_reasons_79 : decode cX13_reasons 79 = .ok (.iinc 3 1, 3) := by decide +kernel
theorem dX13_reasons_82 : decode cX13_reasons 82 = .ok (.goto (-24), 3) := by decide +kernel
theorem dX13_reasons_85 : decode cX13_reasons 85 = .ok (.iinc 2 (-1), 3) := by decide +kernel
theorem dX13_reasons_88 : decode cX13_reasons 88 = .ok (.goto (-68), 3) := by decide +kernel
theorem dX13_reasons_91 : decode cX13_reasons 91 = .ok (.iconst 0, 1) := by decide +kernel
theorem dX13_reasons_92 : decode cX13_reasons 92 = .ok (.istore_n 2, 1) := by decide +kernel
theorem dX13_reasons_93 : decode cX13_reasons 93 = .ok (.iload_n 2, 1) := by decide +kernel
theorem dX13_reasons_94 : decode cX13_reasons 94 = .ok (.aload_n 1, 1) := by decide +kernel
theorem dX13_reasons_95 : decode cX13_reasons 95 = .ok (.arraylength, 1) := by decide +kernel
theorem dX13_reasons_96 : decode cX13_reasons 96 = .ok (.if_icmp .ge 22, 3) := by decide +kernel
theorem dX13_reasons_99 : decode cX13_reasons 99 = .ok (.aload_n 0, 1) := by decide +kernel
theorem dX13_reasons_100 : decode cX13_reasons 100 = .ok (.getfield 16, 3) := by decide +kernel
theorem dX13_reasons_103 : decode cX13_reasons 103 = .ok (.iload_n 2, 1) := by decide +kernel
theorem dX13_reasons_104 : decode cX13_reasons 104 = .ok (.baload, 1) := by decide +kernel
theorem dX13_reasons_105 : decode cX13_reasons 105 = .ok (.ifCond .eq 7, 3) := by decide +kernel
theorem dX13_reasons_108 : decode cX13_reasons 108 = .ok (.aload_n 1, 1) := by decide +kernel
theorem dX13_reasons_109 : decode cX13_reasons 109 = .ok (.iload_n 2, 1) := by decide +kernel
theorem dX13_reasons_110 : decode cX13_reasons 110 = .ok (.iconst (-1), 1) := by decide +kernel
theorem dX13_reasons_111 : decode cX13_reasons 111 = .ok (.iastore, 1) := by decide +kernel
theorem dX13_reasons_112 : decode cX13_reasons 112 = .ok (.iinc 2 1, 3) := by decide +kernel
theorem dX13_reasons_115 : decode cX13_reasons 115 = .ok (.goto (-22), 3) := by decide +kernel
theorem dX13_reasons_118 : decode cX13_reasons 118 = .ok (.aload_n 1, 1) := by decide +kernel
theorem dX13_reasons_119 : decode cX13_reasons 119 = .ok (.areturn, 1) := by decide +kernel
theorem dX13_left_0 : decode cX13_left 0 = .ok (.aload_n 0, 1) := by decide +kernel
theorem dX13_left_1 : decode cX13_left 1 = .ok (.invokevirtual 117, 3) := by decide +kernel
theorem dX13_left_4 : decode cX13_left 4 = .ok (.astore_n 1, 1) := by decide +kernel
theorem dX13_left_5 : decode cX13_left 5 = .ok (.aload_n 1, 1) := by decide +kernel
theorem dX13_left_6 : decode cX13_left 6 = .ok (.arraylength, 1) := by decide +kernel
theorem dX13_left_7 : decode cX13_left 7 = .ok (.newarray .boolean, 2) := by decide +kernel
theorem dX13_left_9 : decode cX13_left 9 = .ok (.astore_n 2, 1) := by decide +kernel
theorem dX13_left_10 : decode cX13_left 10 = .ok (.iconst 0, 1) := by decide +kernel
theorem dX13_left_11 : decode cX13_left 11 = .ok (.istore_n 3, 1) := by decide +kernel
theorem dX13_left_12 : decode cX13_left 12 = .ok (.iload_n 3, 1) := by decide +kernel
theorem dX13_left_13 : decode cX13_left 13 = .ok (.aload_n 2, 1) := by decide +kernel
theorem dX13_left_14 : decode cX13_left 14 = .ok (.arraylength, 1) := by decide +kernel
theorem dX13_left_15 : decode cX13_left 15 = .ok (.if_icmp .ge 32, 3) := by decide +kernel
theorem dX13_left_18 : decode cX13_left 18 = .ok (.aload_n 2, 1) := by decide +kernel
theorem dX13_left_19 : decode cX13_left 19 = .ok (.iload_n 3, 1) := by decide +kernel
theorem dX13_left_20 : decode cX13_left 20 = .ok (.aload_n 1, 1) := by decide +kernel
theorem dX13_left_21 : decode cX13_left 21 = .ok (.iload_n 3, 1) := by decide +kernel
theorem dX13_left_22 : decode cX13_left 22 = .ok (.iaload, 1) := by decide +kernel
theorem dX13_left_23 : decode cX13_left 23 = .ok (.ifCond .ne 16, 3) := by decide +kernel
theorem dX13_left_26 : decode cX13_left 26 = .ok (.aload_n 0, 1) := by decide +kernel
theorem dX13_left_27 : decode cX13_left 27 = .ok (.getfield 20, 3) := by decide +kernel
theorem dX13_left_30 : decode cX13_left 30 = .ok (.iload_n 3, 1) := by decide +kernel
theorem dX13_left_31 : decode cX13_left 31 = .ok (.baload, 1) := by decide +kernel
theorem dX13_left_32 : decode cX13_left 32 = .ok (.ifCond .ne 7, 3) := by decide +kernel
theorem dX13_left_35 : decode cX13_left 35 = .ok (.iconst 1, 1) := by decide +kernel
theorem dX13_left_36 : decode cX13_left 36 = .ok (.goto 4, 3) := by decide +kernel
theorem dX13_left_39 : decode cX13_left 39 = .ok (.iconst 0, 1) := by decide +kernel
theorem dX13_left_40 : decode cX13_left 40 = .ok (.bastore, 1) := by decide +kernel
theorem dX13_left_41 : decode cX13_left 41 = .ok (.iinc 3 1, 3) := by decide +kernel
theorem dX13_left_44 : decode cX13_left 44 = .ok (.goto (-32), 3) := by decide +kernel
theorem dX13_left_47 : decode cX13_left 47 = .ok (.aload_n 2, 1) := by decide +kernel
theorem dX13_left_48 : decode cX13_left 48 = .ok (.areturn, 1) := by decide +kernel
theorem dX13_many_0 : decode cX13_many 0 = .ok (.iconst 0, 1) := by decide +kernel
theorem dX13_many_1 : decode cX13_many 1 = .ok (.istore_n 1, 1) := by decide +kernel
theorem dX13_many_2 : decode cX13_many 2 = .ok (.aload_n 0, 1) := by decide +kernel
theorem dX13_many_3 : decode cX13_many 3 = .ok (.astore_n 2, 1) := by decide +kernel
theorem dX13_many_4 : decode cX13_many 4 = .ok (.aload_n 2, 1) := by decide +kernel
theorem dX13_many_5 : decode cX13_many 5 = .ok (.arraylength, 1) := by decide +kernel
theorem dX13_many_6 : decode cX13_many 6 = .ok (.istore_n 3, 1) := by decide +kernel
theorem dX13_many_7 : decode cX13_many 7 = .ok (.iconst 0, 1) := by decide +kernel
theorem dX13_many_8 : decode cX13_many 8 = .ok (.istore 4, 2) := by decide +kernel
theorem dX13_many_10 : decode cX13_many 10 = .ok (.iload 4, 2) := by decide +kernel
theorem dX13_many_12 : decode cX13_many 12 = .ok (.iload_n 3, 1) := by decide +kernel
theorem dX13_many_13 : decode cX13_many 13 = .ok (.if_icmp .ge 23, 3) := by decide +kernel
theorem dX13_many_16 : decode cX13_many 16 = .ok (.aload_n 2, 1) := by decide +kernel
theorem dX13_many_17 : decode cX13_many 17 = .ok (.iload 4, 2) := by decide +kernel
theorem dX13_many_19 : decode cX13_many 19 = .ok (.baload, 1) := by decide +kernel
theorem dX13_many_20 : decode cX13_many 20 = .ok (.istore 5, 2) := by decide +kernel
theorem dX13_many_22 : decode cX13_many 22 = .ok (.iload 5, 2) := by decide +kernel
theorem dX13_many_24 : decode cX13_many 24 = .ok (.ifCond .eq 6, 3) := by decide +kernel
theorem dX13_many_27 : decode cX13_many 27 = .ok (.iinc 1 1, 3) := by decide +kernel
theorem dX13_many_30 : decode cX13_many 30 = .ok (.iinc 4 1, 3) := by decide +kernel
theorem dX13_many_33 : decode cX13_many 33 = .ok (.goto (-23), 3) := by decide +kernel
theorem dX13_many_36 : decode cX13_many 36 = .ok (.iload_n 1, 1) := by decide +kernel
theorem dX13_many_37 : decode cX13_many 37 = .ok (.ireturn, 1) := by decide +kernel
theorem dX13_far_0 : decode cX13_far 0 = .ok (.aload_n 0, 1) := by decide +kernel
theorem dX13_far_1 : decode cX13_far 1 = .ok (.getfield 7, 3) := by decide +kernel
theorem dX13_far_4 : decode cX13_far 4 = .ok (.aload_n 0, 1) := by decide +kernel
theorem dX13_far_5 : decode cX13_far 5 = .ok (.getfield 13, 3) := by decide +kernel
theorem dX13_far_8 : decode cX13_far 8 = .ok (.imul, 1) := by decide +kernel
theorem dX13_far_9 : decode cX13_far 9 = .ok (.newarray .int, 2) := by decide +kernel
theorem dX13_far_11 : decode cX13_far 11 = .ok (.astore_n 3, 1) := by decide +kernel
theorem dX13_far_12 : decode cX13_far 12 = .ok (.iconst 0, 1) := by decide +kernel
theorem dX13_far_13 : decode cX13_far 13 = .ok (.istore 4, 2) := by decide +kernel
theorem dX13_far_15 : decode cX13_far 15 = .ok (.iload 4, 2) := by decide +kernel
theorem dX13_far_17 : decode cX13_far 17 = .ok (.aload_n 3, 1) := by decide +kernel
theorem dX13_far_18 : decode cX13_far 18 = .ok (.arraylength, 1) := by decide +kernel
theorem dX13_far_19 : decode cX13_far 19 = .ok (.if_icmp .ge 26, 3) := by decide +kernel
theorem dX13_far_22 : decode cX13_far 22 = .ok (.aload_n 3, 1) := by decide +kernel
theorem dX13_far_23 : decode cX13_far 23 = .ok (.iload 4, 2) := by decide +kernel
theorem dX13_far_25 : decode cX13_far 25 = .ok (.iload 4, 2) := by decide +kernel
theorem dX13_far_27 : decode cX13_far 27 = .ok (.iload_n 1, 1) := by decide +kernel
theorem dX13_far_28 : decode cX13_far 28 = .ok (.if_icmp .ne 7, 3) := by decide +kernel
theorem dX13_far_31 : decode cX13_far 31 = .ok (.iconst 0, 1) := by decide +kernel
theorem dX13_far_32 : decode cX13_far 32 = .ok (.goto 6, 3) := by decide +kernel
theorem dX13_far_35 : decode cX13_far 35 = .ok (.sipush 9999, 3) := by decide +kernel
theorem dX13_far_38 : decode cX13_far 38 = .ok (.iastore, 1) := by decide +kernel
theorem dX13_far_39 : decode cX13_far 39 = .ok (.iinc 4 1, 3) := by decide +kernel
theorem dX13_far_42 : decode cX13_far 42 = .ok (.goto (-27), 3) := by decide +kernel
theorem dX13_far_45 : decode cX13_far 45 = .ok (.iconst 1, 1) := by decide +kernel
theorem dX13_far_46 : decode cX13_far 46 = .ok (.istore 4, 2) := by decide +kernel
theorem dX13_far_48 : decode cX13_far 48 = .ok (.iload 4, 2) := by decide +kernel
theorem dX13_far_50 : decode cX13_far 50 = .ok (.ifCond .eq 106, 3) := by decide +kernel
theorem dX13_far_53 : decode cX13_far 53 = .ok (.iconst 0, 1) := by decide +kernel
theorem dX13_far_54 : decode cX13_far 54 = .ok (.istore 4, 2) := by decide +kernel
theorem dX13_far_56 : decode cX13_far 56 = .ok (.iconst 0, 1) := by decide +kernel
theorem dX13_far_57 : decode cX13_far 57 = .ok (.istore 5, 2) := by decide +kernel
theorem dX13_far_59 : decode cX13_far 59 = .ok (.iload 5, 2) := by decide +kernel
theorem dX13_far_61 : decode cX13_far 61 = .ok (.aload_n 3, 1) := by decide +kernel
theorem dX13_far_62 : decode cX13_far 62 = .ok (.arraylength, 1) := by decide +kernel
theorem dX13_far_63 : decode cX13_far 63 = .ok (.if_icmp .ge 90, 3) := by decide +kernel
theorem dX13_far_66 : decode cX13_far 66 = .ok (.iconst 0, 1) := by decide +kernel
theorem dX13_far_67 : decode cX13_far 67 = .ok (.istore 6, 2) := by decide +kernel
theorem dX13_far_69 : decode cX13_far 69 = .ok (.iload 6, 2) := by decide +kernel
theorem dX13_far_71 : decode cX13_far 71 = .ok (.bipush 8, 2) := by decide +kernel
theorem dX13_far_73 : decode cX13_far 73 = .ok (.if_icmp .ge 74, 3) := by decide +kernel
theorem dX13_far_76 : decode cX13_far 76 = .ok (.aload_n 3, 1) := by decide +kernel
theorem dX13_far_77 : decode cX13_far 77 = .ok (.iload 5, 2) := by decide +kernel
theorem dX13_far_79 : decode cX13_far 79 = .ok (.iaload, 1) := by decide +kernel
theorem dX13_far_80 : decode cX13_far 80 = .ok (.sipush 9999, 3) := by decide +kernel
theorem dX13_far_83 : decode cX13_far 83 = .ok (.if_icmp .ge 64, 3) := by decide +kernel
theorem dX13_far_86 : decode cX13_far 86 = .ok (.aload_n 0, 1) := by decide +kernel
theorem dX13_far_87 : decode cX13_far 87 = .ok (.iload 5, 2) := by decide +kernel
theorem dX13_far_89 : decode cX13_far 89 = .ok (.iload 6, 2) := by decide +kernel
theorem dX13_far_91 : decode cX13_far 91 = .ok (.invokevirtual 72, 3) := by decide +kernel
theorem dX13_far_94 : decode cX13_far 94 = .ok (.istore 7, 2) := by decide +kernel
theorem dX13_far_96 : decode cX13_far 96 = .ok (.iload 7, 2) := by decide +kernel
theorem dX13_far_98 : decode cX13_far 98 = .ok (.ifCond .lt 43, 3) := by decide +kernel
theorem dX13_far_101 : decode cX13_far 101 = .ok (.aload_n 2, 1) := by decide +kernel
theorem dX13_far_102 : decode cX13_far 102 = .ok (.ifnull 10, 3) := by decide +kernel
theorem dX13_far_105 : decode cX13_far 105 = .ok (.aload_n 2, 1) := by decide +kernel
theorem dX13_far_106 : decode cX13_far 106 = .ok (.iload 7, 2) := by decide +kernel
theorem dX13_far_108 : decode cX13_far 108 = .ok (.baload, 1) := by decide +kernel
theorem dX13_far_109 : decode cX13_far 109 = .ok (.ifCond .eq 32, 3) := by decide +kernel
theorem dX13_far_112 : decode cX13_far 112 = .ok (.aload_n 3, 1) := by decide +kernel
theorem dX13_far_113 : decode cX13_far 113 = .ok (.iload 7, 2) := by decide +kernel
theorem dX13_far_115 : decode cX13_far 115 = .ok (.iaload, 1) := by decide +kernel
theorem dX13_far_116 : decode cX13_far 116 = .ok (.aload_n 3, 1) := by decide +kernel
theorem dX13_far_117 : decode cX13_far 117 = .ok (.iload 5, 2) := by decide +kernel
theorem dX13_far_119 : decode cX13_far 119 = .ok (.iaload, 1) := by decide +kernel
theorem dX13_far_120 : decode cX13_far 120 = .ok (.iconst 1, 1) := by decide +kernel
theorem dX13_far_121 : decode cX13_far 121 = .ok (.iadd, 1) := by decide +kernel
theorem dX13_far_122 : decode cX13_far 122 = .ok (.if_icmp .gt 6, 3) := by decide +kernel
theorem dX13_far_125 : decode cX13_far 125 = .ok (.goto 16, 3) := by decide +kernel
theorem dX13_far_128 : decode cX13_far 128 = .ok (.aload_n 3, 1) := by decide +kernel
theorem dX13_far_129 : decode cX13_far 129 = .ok (.iload 7, 2) := by decide +kernel
theorem dX13_far_131 : decode cX13_far 131 = .ok (.aload_n 3, 1) := by decide +kernel
theorem dX13_far_132 : decode cX13_far 132 = .ok (.iload 5, 2) := by decide +kernel
theorem dX13_far_134 : decode cX13_far 134 = .ok (.iaload, 1) := by decide +kernel
theorem dX13_far_135 : decode cX13_far 135 = .ok (.iconst 1, 1) := by decide +kernel
theorem dX13_far_136 : decode cX13_far 136 = .ok (.iadd, 1) := by decide +kernel
theorem dX13_far_137 : decode cX13_far 137 = .ok (.iastore, 1) := by decide +kernel
theorem dX13_far_138 : decode cX13_far 138 = .ok (.iconst 1, 1) := by decide +kernel
theorem dX13_far_139 : decode cX13_far 139 = .ok (.istore 4, 2) := by decide +kernel
theorem dX13_far_141 : decode cX13_far 141 = .ok (.iinc 6 1, 3) := by decide +kernel
theorem dX13_far_144 : decode cX13_far 144 = .ok (.goto (-75), 3) := by decide +kernel
theorem dX13_far_147 : decode cX13_far 147 = .ok (.iinc 5 1, 3) := by decide +kernel
theorem dX13_far_150 : decode cX13_far 150 = .ok (.goto (-91), 3) := by decide +kernel
theorem dX13_far_153 : decode cX13_far 153 = .ok (.goto (-105), 3) := by decide +kernel
theorem dX13_far_156 : decode cX13_far 156 = .ok (.aload_n 3, 1) := by decide +kernel
theorem dX13_far_157 : decode cX13_far 157 = .ok (.areturn, 1) := by decide +kernel
theorem dX13_parts_0 : decode cX13_parts 0 = .ok (.aload_n 1, 1) := by decide +kernel
theorem dX13_parts_1 : decode cX13_parts 1 = .ok (.arraylength, 1) := by decide +kernel
theorem dX13_parts_2 : decode cX13_parts 2 = .ok (.newarray .boolean, 2) := by decide +kernel
theorem dX13_parts_4 : decode cX13_parts 4 = .ok (.astore_n 2, 1) := by decide +kernel
theorem dX13_parts_5 : decode cX13_parts 5 = .ok (.iconst 0, 1) := by decide +kernel
theorem dX13_parts_6 : decode cX13_parts 6 = .ok (.istore_n 3, 1) := by decide +kernel
theorem dX13_parts_7 : decode cX13_parts 7 = .ok (.iconst 0, 1) := by decide +kernel
theorem dX13_parts_8 : decode cX13_parts 8 = .ok (.istore 4, 2) := by decide +kernel
theorem dX13_parts_10 : decode cX13_parts 10 = .ok (.iload 4, 2) := by decide +kernel
theorem dX13_parts_12 : decode cX13_parts 12 = .ok (.aload_n 1, 1) := by decide +kernel
theorem dX13_parts_13 : decode cX13_parts 13 = .ok (.arraylength, 1) := by decide +kernel
theorem dX13_parts_14 : decode cX13_parts 14 = .ok (.if_icmp .ge 78, 3) := by decide +kernel
theorem dX13_parts_17 : decode cX13_parts 17 = .ok (.aload_n 1, 1) := by decide +kernel
theorem dX13_parts_18 : decode cX13_parts 18 = .ok (.iload 4, 2) := by decide +kernel
theorem dX13_parts_20 : decode cX13_parts 20 = .ok (.baload, 1) := by decide +kernel
theorem dX13_parts_21 : decode cX13_parts 21 = .ok (.ifCond .eq 65, 3) := by decide +kernel
theorem dX13_parts_24 : decode cX13_parts 24 = .ok (.aload_n 2, 1) := by decide +kernel
theorem dX13_parts_25 : decode cX13_parts 25 = .ok (.iload 4, 2) := by decide +kernel
theorem dX13_parts_27 : decode cX13_parts 27 = .ok (.baload, 1) := by decide +kernel
theorem dX13_parts_28 : decode cX13_parts 28 = .ok (.ifCond .eq 6, 3) := by decide +kernel
theorem dX13_parts_31 : decode cX13_parts 31 = .ok (.goto 55, 3) := by decide +kernel
theorem dX13_parts_34 : decode cX13_parts 34 = .ok (.iinc 3 1, 3) := by decide +kernel
theorem dX13_parts_37 : decode cX13_parts 37 = .ok (.aload_n 0, 1) := by decide +kernel
theorem dX13_parts_38 : decode cX13_parts 38 = .ok (.iload 4, 2) := by decide +kernel
theorem dX13_parts_40 : decode cX13_parts 40 = .ok (.aload_n 1, 1) := by decide +kernel
theorem dX13_parts_41 : decode cX13_parts 41 = .ok (.invokevirtual 121, 3) := by decide +kernel
theorem dX13_parts_44 : decode cX13_parts 44 = .ok (.astore 5, 2) := by decide +kernel
theorem dX13_parts_46 : decode cX13_parts 46 = .ok (.iconst 0, 1) := by decide +kernel
theorem dX13_parts_47 : decode cX13_parts 47 = .ok (.istore 6, 2) := by decide +kernel
theorem dX13_parts_49 : decode cX13_parts 49 = .ok (.iload 6, 2) := by decide +kernel
theorem dX13_parts_51 : decode cX13_parts 51 = .ok (.aload 5, 2) := by decide +kernel
theorem dX13_parts_53 : decode cX13_parts 53 = .ok (.arraylength, 1) := by decide +kernel
theorem dX13_parts_54 : decode cX13_parts 54 = .ok (.if_icmp .ge 32, 3) := by decide +kernel
theorem dX13_parts_57 : decode cX13_parts 57 = .ok (.aload_n 2, 1) := by decide +kernel
theorem dX13_parts_58 : decode cX13_parts 58 = .ok (.iload 6, 2) := by decide +kernel
theorem dX13_parts_60 : decode cX13_parts 60 = .ok (.dup2, 1) := by decide +kernel
theorem dX13_parts_61 : decode cX13_parts 61 = .ok (.baload, 1) := by decide +kernel
theorem dX13_parts_62 : decode cX13_parts 62 = .ok (.aload 5, 2) := by decide +kernel
theorem dX13_parts_64 : decode cX13_parts 64 = .ok (.iload 6, 2) := by decide +kernel
theorem dX13_parts_66 : decode cX13_parts 66 = .ok (.iaload, 1) := by decide +kernel
theorem dX13_parts_67 : decode cX13_parts 67 = .ok (.sipush 9999, 3) := by decide +kernel
theorem dX13_parts_70 : decode cX13_parts 70 = .ok (.if_icmp .ge 7, 3) := by decide +kernel
theorem dX13_parts_73 : decode cX13_parts 73 = .ok (.iconst 1, 1) := by decide +kernel
theorem dX13_parts_74 : decode cX13_parts 74 = .ok (.goto 4, 3) := by decide +kernel
theorem dX13_parts_77 : decode cX13_parts 77 = .ok (.iconst 0, 1) := by decide +kernel
theorem dX13_parts_78 : decode cX13_parts 78 = .ok (.ior, 1) := by decide +kernel
theorem dX13_parts_79 : decode cX13_parts 79 = .ok (.bastore, 1) := by decide +kernel
theorem dX13_parts_80 : decode cX13_parts 80 = .ok (.iinc 6 1, 3) := by decide +kernel
theorem dX13_parts_83 : decode cX13_parts 83 = .ok (.goto (-34), 3) := by decide +kernel
theorem dX13_parts_86 : decode cX13_parts 86 = .ok (.iinc 4 1, 3) := by decide +kernel
theorem dX13_parts_89 : decode cX13_parts 89 = .ok (.goto (-79), 3) := by decide +kernel
theorem dX13_parts_92 : decode cX13_parts 92 = .ok (.iload_n 3, 1) := by decide +kernel
theorem dX13_parts_93 : decode cX13_parts 93 = .ok (.ireturn, 1) := by decide +kernel
theorem dX13_told_0 : decode cX13_told 0 = .ok (.iconst 0, 1) := by decide +kernel
theorem dX13_told_1 : decode cX13_told 1 = .ok (.istore_n 2, 1) := by decide +kernel
theorem dX13_told_2 : decode cX13_told 2 = .ok (.iload_n 1, 1) := by decide +kernel
theorem dX13_told_3 : decode cX13_told 3 = .ok (.iconst 2, 1) := by decide +kernel
theorem dX13_told_4 : decode cX13_told 4 = .ok (.if_icmp .ne 42, 3) := by decide +kernel
theorem dX13_told_7 : decode cX13_told 7 = .ok (.aload_n 0, 1) := by decide +kernel
theorem dX13_told_8 : decode cX13_told 8 = .ok (.getfield 23, 3) := by decide +kernel
theorem dX13_told_11 : decode cX13_told 11 = .ok (.astore_n 3, 1) := by decide +kernel
theorem dX13_told_12 : decode cX13_told 12 = .ok (.aload_n 3, 1) := by decide +kernel
theorem dX13_told_13 : decode cX13_told 13 = .ok (.arraylength, 1) := by decide +kernel
theorem dX13_told_14 : decode cX13_told 14 = .ok (.istore 4, 2) := by decide +kernel
theorem dX13_told_16 : decode cX13_told 16 = .ok (.iconst 0, 1) := by decide +kernel
theorem dX13_told_17 : decode cX13_told 17 = .ok (.istore 5, 2) := by decide +kernel
theorem dX13_told_19 : decode cX13_told 19 = .ok (.iload 5, 2) := by decide +kernel
theorem dX13_told_21 : decode cX13_told 21 = .ok (.iload 4, 2) := by decide +kernel
theorem dX13_told_23 : decode cX13_told 23 = .ok (.if_icmp .ge 23, 3) := by decide +kernel
theorem dX13_told_26 : decode cX13_told 26 = .ok (.aload_n 3, 1) := by decide +kernel
theorem dX13_told_27 : decode cX13_told 27 = .ok (.iload 5, 2) := by decide +kernel
theorem dX13_told_29 : decode cX13_told 29 = .ok (.iaload, 1) := by decide +kernel
theorem dX13_told_30 : decode cX13_told 30 = .ok (.istore 6, 2) := by decide +kernel
theorem dX13_told_32 : decode cX13_told 32 = .ok (.iload 6, 2) := by decide +kernel
theorem dX13_told_34 : decode cX13_told 34 = .ok (.ifCond .lt 6, 3) := by decide +kernel
theorem dX13_told_37 : decode cX13_told 37 = .ok (.iinc 2 1, 3) := by decide +kernel
theorem dX13_told_40 : decode cX13_told 40 = .ok (.iinc 5 1, 3) := by decide +kernel
theorem dX13_told_43 : decode cX13_told 43 = .ok (.goto (-24), 3) := by decide +kernel
theorem dX13_told_46 : decode cX13_told 46 = .ok (.iload_n 1, 1) := by decide +kernel
theorem dX13_told_47 : decode cX13_told 47 = .ok (.iconst 5, 1) := by decide +kernel
theorem dX13_told_48 : decode cX13_told 48 = .ok (.if_icmp .ne 45, 3) := by decide +kernel
theorem dX13_told_51 : decode cX13_told 51 = .ok (.aload_n 0, 1) := by decide +kernel
theorem dX13_told_52 : decode cX13_told 52 = .ok (.getfield 34, 3) := by decide +kernel
theorem dX13_told_55 : decode cX13_told 55 = .ok (.astore_n 3, 1) := by decide +kernel
theorem dX13_told_56 : decode cX13_told 56 = .ok (.aload_n 3, 1) := by decide +kernel
theorem dX13_told_57 : decode cX13_told 57 = .ok (.arraylength, 1) := by decide +kernel
theorem dX13_told_58 : decode cX13_told 58 = .ok (.istore 4, 2) := by decide +kernel
theorem dX13_told_60 : decode cX13_told 60 = .ok (.iconst 0, 1) := by decide +kernel
theorem dX13_told_61 : decode cX13_told 61 = .ok (.istore 5, 2) := by decide +kernel
theorem dX13_told_63 : decode cX13_told 63 = .ok (.iload 5, 2) := by decide +kernel
theorem dX13_told_65 : decode cX13_told 65 = .ok (.iload 4, 2) := by decide +kernel
theorem dX13_told_67 : decode cX13_told 67 = .ok (.if_icmp .ge 26, 3) := by decide +kernel
theorem dX13_told_70 : decode cX13_told 70 = .ok (.aload_n 3, 1) := by decide +kernel
theorem dX13_told_71 : decode cX13_told 71 = .ok (.iload 5, 2) := by decide +kernel
theorem dX13_told_73 : decode cX13_told 73 = .ok (.aaload, 1) := by decide +kernel
theorem dX13_told_74 : decode cX13_told 74 = .ok (.astore 6, 2) := by decide +kernel
theorem dX13_told_76 : decode cX13_told 76 = .ok (.aload 6, 2) := by decide +kernel
theorem dX13_told_78 : decode cX13_told 78 = .ok (.getfield 56, 3) := by decide +kernel
theorem dX13_told_81 : decode cX13_told 81 = .ok (.ifCond .eq 6, 3) := by decide +kernel
theorem dX13_told_84 : decode cX13_told 84 = .ok (.iinc 2 1, 3) := by decide +kernel
theorem dX13_told_87 : decode cX13_told 87 = .ok (.iinc 5 1, 3) := by decide +kernel
theorem dX13_told_90 : decode cX13_told 90 = .ok (.goto (-27), 3) := by decide +kernel
theorem dX13_told_93 : decode cX13_told 93 = .ok (.iload_n 1, 1) := by decide +kernel
theorem dX13_told_94 : decode cX13_told 94 = .ok (.bipush 6, 2) := by decide +kernel
theorem dX13_told_96 : decode cX13_told 96 = .ok (.if_icmp .ne 42, 3) := by decide +kernel
theorem dX13_told_99 : decode cX13_told 99 = .ok (.aload_n 0, 1) := by decide +kernel
theorem dX13_told_100 : decode cX13_told 100 = .ok (.invokevirtual 117, 3) := by decide +kernel
theorem dX13_told_103 : decode cX13_told 103 = .ok (.astore_n 3, 1) := by decide +kernel
theorem dX13_told_104 : decode cX13_told 104 = .ok (.aload_n 3, 1) := by decide +kernel
theorem dX13_told_105 : decode cX13_told 105 = .ok (.arraylength, 1) := by decide +kernel
theorem dX13_told_106 : decode cX13_told 106 = .ok (.istore 4, 2) := by decide +kernel
theorem dX13_told_108 : decode cX13_told 108 = .ok (.iconst 0, 1) := by decide +kernel
theorem dX13_told_109 : decode cX13_told 109 = .ok (.istore 5, 2) := by decide +kernel
theorem dX13_told_111 : decode cX13_told 111 = .ok (.iload 5, 2) := by decide +kernel
theorem dX13_told_113 : decode cX13_told 113 = .ok (.iload 4, 2) := by decide +kernel
theorem dX13_told_115 : decode cX13_told 115 = .ok (.if_icmp .ge 23, 3) := by decide +kernel
theorem dX13_told_118 : decode cX13_told 118 = .ok (.aload_n 3, 1) := by decide +kernel
theorem dX13_told_119 : decode cX13_told 119 = .ok (.iload 5, 2) := by decide +kernel
theorem dX13_told_121 : decode cX13_told 121 = .ok (.iaload, 1) := by decide +kernel
theorem dX13_told_122 : decode cX13_told 122 = .ok (.istore 6, 2) := by decide +kernel
theorem dX13_told_124 : decode cX13_told 124 = .ok (.iload 6, 2) := by decide +kernel
theorem dX13_told_126 : decode cX13_told 126 = .ok (.ifCond .ne 6, 3) := by decide +kernel
theorem dX13_told_129 : decode cX13_told 129 = .ok (.iinc 2 1, 3) := by decide +kernel
theorem dX13_told_132 : decode cX13_told 132 = .ok (.iinc 5 1, 3) := by decide +kernel
theorem dX13_told_135 : decode cX13_told 135 = .ok (.goto (-24), 3) := by decide +kernel
theorem dX13_told_138 : decode cX13_told 138 = .ok (.iload_n 1, 1) := by decide +kernel
theorem dX13_told_139 : decode cX13_told 139 = .ok (.bipush 8, 2) := by decide +kernel
theorem dX13_told_141 : decode cX13_told 141 = .ok (.if_icmp .ne 11, 3) := by decide +kernel
theorem dX13_told_144 : decode cX13_told 144 = .ok (.aload_n 0, 1) := by decide +kernel
theorem dX13_told_145 : decode cX13_told 145 = .ok (.getfield 20, 3) := by decide +kernel
theorem dX13_told_148 : decode cX13_told 148 = .ok (.invokestatic 125, 3) := by decide +kernel
theorem dX13_told_151 : decode cX13_told 151 = .ok (.istore_n 2, 1) := by decide +kernel
theorem dX13_told_152 : decode cX13_told 152 = .ok (.iload_n 1, 1) := by decide +kernel
theorem dX13_told_153 : decode cX13_told 153 = .ok (.ifCond .ne 10, 3) := by decide +kernel
theorem dX13_told_156 : decode cX13_told 156 = .ok (.aload_n 0, 1) := by decide +kernel
theorem dX13_told_157 : decode cX13_told 157 = .ok (.getfield 7, 3) := by decide +kernel
theorem dX13_told_160 : decode cX13_told 160 = .ok (.goto 114, 3) := by decide +kernel
theorem dX13_told_163 : decode cX13_told 163 = .ok (.iload_n 1, 1) := by decide +kernel
theorem dX13_told_164 : decode cX13_told 164 = .ok (.iconst 1, 1) := by decide +kernel
theorem dX13_told_165 : decode cX13_told 165 = .ok (.if_icmp .ne 10, 3) := by decide +kernel
theorem dX13_told_168 : decode cX13_told 168 = .ok (.aload_n 0, 1) := by decide +kernel
theorem dX13_told_169 : decode cX13_told 169 = .ok (.getfield 13, 3) := by decide +kernel
theorem dX13_told_172 : decode cX13_told 172 = .ok (.goto 102, 3) := by decide +kernel
theorem dX13_told_175 : decode cX13_told 175 = .ok (.iload_n 1, 1) := by decide +kernel
theorem dX13_told_176 : decode cX13_told 176 = .ok (.iconst 3, 1) := by decide +kernel
theorem dX13_told_177 : decode cX13_told 177 = .ok (.if_icmp .ne 11, 3) := by decide +kernel
theorem dX13_told_180 : decode cX13_told 180 = .ok (.aload_n 0, 1) := by decide +kernel
theorem dX13_told_181 : decode cX13_told 181 = .ok (.getfield 28, 3) := by decide +kernel
theorem dX13_told_184 : decode cX13_told 184 = .ok (.arraylength, 1) := by decide +kernel
theorem dX13_told_185 : decode cX13_told 185 = .ok (.goto 89, 3) := by decide +kernel
theorem dX13_told_188 : decode cX13_told 188 = .ok (.iload_n 1, 1) := by decide +kernel
theorem dX13_told_189 : decode cX13_told 189 = .ok (.iconst 4, 1) := by decide +kernel
theorem dX13_told_190 : decode cX13_told 190 = .ok (.if_icmp .ne 11, 3) := by decide +kernel
theorem dX13_told_193 : decode cX13_told 193 = .ok (.aload_n 0, 1) := by decide +kernel
theorem dX13_told_194 : decode cX13_told 194 = .ok (.getfield 34, 3) := by decide +kernel
theorem dX13_told_197 : decode cX13_told 197 = .ok (.arraylength, 1) := by decide +kernel
theorem dX13_told_198 : decode cX13_told 198 = .ok (.goto 76, 3) := by decide +kernel
theorem dX13_told_201 : decode cX13_told 201 = .ok (.iload_n 1, 1) := by decide +kernel
theorem dX13_told_202 : decode cX13_told 202 = .ok (.bipush 7, 2) := by decide +kernel
theorem dX13_told_204 : decode cX13_told 204 = .ok (.if_icmp .ne 13, 3) := by decide +kernel
theorem dX13_told_207 : decode cX13_told 207 = .ok (.aload_n 0, 1) := by decide +kernel
theorem dX13_told_208 : decode cX13_told 208 = .ok (.invokevirtual 128, 3) := by decide +kernel
theorem dX13_told_211 : decode cX13_told 211 = .ok (.invokestatic 125, 3) := by decide +kernel
theorem dX13_told_214 : decode cX13_told 214 = .ok (.goto 60, 3) := by decide +kernel
theorem dX13_told_217 : decode cX13_told 217 = .ok (.iload_n 1, 1) := by decide +kernel
theorem dX13_told_218 : decode cX13_told 218 = .ok (.bipush 9, 2) := by decide +kernel
theorem dX13_told_220 : decode cX13_told 220 = .ok (.if_icmp .ne 14, 3) := by decide +kernel
theorem dX13_told_223 : decode cX13_told 223 = .ok (.aload_n 0, 1) := by decide +kernel
theorem dX13_told_224 : decode cX13_told 224 = .ok (.aload_n 0, 1) := by decide +kernel
theorem dX13_told_225 : decode cX13_told 225 = .ok (.invokevirtual 128, 3) := by decide +kernel
theorem dX13_told_228 : decode cX13_told 228 = .ok (.invokevirtual 132, 3) := by decide +kernel
theorem dX13_told_231 : decode cX13_told 231 = .ok (.goto 43, 3) := by decide +kernel
theorem dX13_told_234 : decode cX13_told 234 = .ok (.iload_n 1, 1) := by decide +kernel
theorem dX13_told_235 : decode cX13_told 235 = .ok (.bipush 10, 2) := by decide +kernel
theorem dX13_told_237 : decode cX13_told 237 = .ok (.if_icmp .ne 10, 3) := by decide +kernel
theorem dX13_told_240 : decode cX13_told 240 = .ok (.aload_n 0, 1) := by decide +kernel
theorem dX13_told_241 : decode cX13_told 241 = .ok (.getfield 60, 3) := by decide +kernel
theorem dX13_told_244 : decode cX13_told 244 = .ok (.goto 30, 3) := by decide +kernel
theorem dX13_told_247 : decode cX13_told 247 = .ok (.iload_n 1, 1) := by decide +kernel
theorem dX13_told_248 : decode cX13_told 248 = .ok (.bipush 11, 2) := by decide +kernel
theorem dX13_told_250 : decode cX13_told 250 = .ok (.if_icmp .ne 10, 3) := by decide +kernel
theorem dX13_told_253 : decode cX13_told 253 = .ok (.aload_n 0, 1) := by decide +kernel
theorem dX13_told_254 : decode cX13_told 254 = .ok (.getfield 63, 3) := by decide +kernel
theorem dX13_told_257 : decode cX13_told 257 = .ok (.goto 17, 3) := by decide +kernel
theorem dX13_told_260 : decode cX13_told 260 = .ok (.iload_n 1, 1) := by decide +kernel
theorem dX13_told_261 : decode cX13_told 261 = .ok (.bipush 12, 2) := by decide +kernel
theorem dX13_told_263 : decode cX13_told 263 = .ok (.if_icmp .ne 10, 3) := by decide +kernel
theorem dX13_told_266 : decode cX13_told 266 = .ok (.aload_n 0, 1) := by decide +kernel
theorem dX13_told_267 : decode cX13_told 267 = .ok (.getfield 66, 3) := by decide +kernel
theorem dX13_told_270 : decode cX13_told 270 = .ok (.goto 4, 3) := by decide +kernel
theorem dX13_told_273 : decode cX13_told 273 = .ok (.iload_n 2, 1) := by decide +kernel
theorem dX13_told_274 : decode cX13_told 274 = .ok (.ireturn, 1) := by decide +kernel
theorem dX13_digs_0 : decode cX13_digs 0 = .ok (.aload_n 0, 1) := by decide +kernel
theorem dX13_digs_1 : decode cX13_digs 1 = .ok (.getfield 20, 3) := by decide +kernel
theorem dX13_digs_4 : decode cX13_digs 4 = .ok (.aload_n 0, 1) := by decide +kernel
theorem dX13_digs_5 : decode cX13_digs 5 = .ok (.getfield 60, 3) := by decide +kernel
theorem dX13_digs_8 : decode cX13_digs 8 = .ok (.baload, 1) := by decide +kernel
theorem dX13_digs_9 : decode cX13_digs 9 = .ok (.ifCond .eq 5, 3) := by decide +kernel
theorem dX13_digs_12 : decode cX13_digs 12 = .ok (.iconst 0, 1) := by decide +kernel
theorem dX13_digs_13 : decode cX13_digs 13 = .ok (.ireturn, 1) := by decide +kernel
theorem dX13_digs_14 : decode cX13_digs 14 = .ok (.aload_n 0, 1) := by decide +kernel
theorem dX13_digs_15 : decode cX13_digs 15 = .ok (.getfield 20, 3) := by decide +kernel
theorem dX13_digs_18 : decode cX13_digs 18 = .ok (.aload_n 0, 1) := by decide +kernel
theorem dX13_digs_19 : decode cX13_digs 19 = .ok (.getfield 60, 3) := by decide +kernel
theorem dX13_digs_22 : decode cX13_digs 22 = .ok (.iconst 1, 1) := by decide +kernel
theorem dX13_digs_23 : decode cX13_digs 23 = .ok (.bastore, 1) := by decide +kernel
theorem dX13_digs_24 : decode cX13_digs 24 = .ok (.aload_n 0, 1) := by decide +kernel
theorem dX13_digs_25 : decode cX13_digs 25 = .ok (.getfield 66, 3) := by decide +kernel
theorem dX13_digs_28 : decode cX13_digs 28 = .ok (.iconst 1, 1) := by decide +kernel
theorem dX13_digs_29 : decode cX13_digs 29 = .ok (.if_icmp .ne 14, 3) := by decide +kernel
theorem dX13_digs_32 : decode cX13_digs 32 = .ok (.aload_n 0, 1) := by decide +kernel
theorem dX13_digs_33 : decode cX13_digs 33 = .ok (.getfield 69, 3) := by decide +kernel
theorem dX13_digs_36 : decode cX13_digs 36 = .ok (.aload_n 0, 1) := by decide +kernel
theorem dX13_digs_37 : decode cX13_digs 37 = .ok (.getfield 60, 3) := by decide +kernel
theorem dX13_digs_40 : decode cX13_digs 40 = .ok (.if_icmp .eq 5, 3) := by decide +kernel
theorem dX13_digs_43 : decode cX13_digs 43 = .ok (.iconst 1, 1) := by decide +kernel
theorem dX13_digs_44 : decode cX13_digs 44 = .ok (.ireturn, 1) := by decide +kernel
theorem dX13_digs_45 : decode cX13_digs 45 = .ok (.aload_n 0, 1) := by decide +kernel
theorem dX13_digs_46 : decode cX13_digs 46 = .ok (.iconst 2, 1) := by decide +kernel
theorem dX13_digs_47 : decode cX13_digs 47 = .ok (.putfield 66, 3) := by decide +kernel
theorem dX13_digs_50 : decode cX13_digs 50 = .ok (.iconst 2, 1) := by decide +kernel
theorem dX13_digs_51 : decode cX13_digs 51 = .ok (.ireturn, 1) := by decide +kernel
theorem dX13_hides_0 : decode cX13_hides 0 = .ok (.aload_n 0, 1) := by decide +kernel
theorem dX13_hides_1 : decode cX13_hides 1 = .ok (.invokevirtual 128, 3) := by decide +kernel
theorem dX13_hides_4 : decode cX13_hides 4 = .ok (.astore_n 2, 1) := by decide +kernel
theorem dX13_hides_5 : decode cX13_hides 5 = .ok (.aload_n 2, 1) := by decide +kernel
theorem dX13_hides_6 : decode cX13_hides 6 = .ok (.invokestatic 125, 3) := by decide +kernel
theorem dX13_hides_9 : decode cX13_hides 9 = .ok (.istore_n 3, 1) := by decide +kernel
theorem dX13_hides_10 : decode cX13_hides 10 = .ok (.aload_n 0, 1) := by decide +kernel
theorem dX13_hides_11 : decode cX13_hides 11 = .ok (.iload_n 3, 1) := by decide +kernel
theorem dX13_hides_12 : decode cX13_hides 12 = .ok (.ifCond .ne 7, 3) := by decide +kernel
theorem dX13_hides_15 : decode cX13_hides 15 = .ok (.iconst 0, 1) := by decide +kernel
theorem dX13_hides_16 : decode cX13_hides 16 = .ok (.goto 4, 3) := by decide +kernel
theorem dX13_hides_19 : decode cX13_hides 19 = .ok (.iconst 1, 1) := by decide +kernel
theorem dX13_hides_20 : decode cX13_hides 20 = .ok (.putfield 66, 3) := by decide +kernel
theorem dX13_hides_23 : decode cX13_hides 23 = .ok (.iload_n 3, 1) := by decide +kernel
theorem dX13_hides_24 : decode cX13_hides 24 = .ok (.ifCond .ne 7, 3) := by decide +kernel
theorem dX13_hides_27 : decode cX13_hides 27 = .ok (.iconst 0, 1) := by decide +kernel
theorem dX13_hides_28 : decode cX13_hides 28 = .ok (.goto 6, 3) := by decide +kernel
theorem dX13_hides_31 : decode cX13_hides 31 = .ok (.iload_n 1, 1) := by decide +kernel
theorem dX13_hides_32 : decode cX13_hides 32 = .ok (.iload_n 3, 1) := by decide +kernel
theorem dX13_hides_33 : decode cX13_hides 33 = .ok (.irem, 1) := by decide +kernel
theorem dX13_hides_34 : decode cX13_hides 34 = .ok (.istore 4, 2) := by decide +kernel
theorem dX13_hides_36 : decode cX13_hides 36 = .ok (.aload_n 2, 1) := by decide +kernel
theorem dX13_hides_37 : decode cX13_hides 37 = .ok (.arraylength, 1) := by decide +kernel
theorem dX13_hides_38 : decode cX13_hides 38 = .ok (.iconst 1, 1) := by decide +kernel
theorem dX13_hides_39 : decode cX13_hides 39 = .ok (.isub, 1) := by decide +kernel
theorem dX13_hides_40 : decode cX13_hides 40 = .ok (.istore 5, 2) := by decide +kernel
theorem dX13_hides_42 : decode cX13_hides 42 = .ok (.iload_n 3, 1) := by decide +kernel
theorem dX13_hides_43 : decode cX13_hides 43 = .ok (.istore 6, 2) := by decide +kernel
theorem dX13_hides_45 : decode cX13_hides 45 = .ok (.iload 5, 2) := by decide +kernel
theorem dX13_hides_47 : decode cX13_hides 47 = .ok (.ifCond .lt 35, 3) := by decide +kernel
theorem dX13_hides_50 : decode cX13_hides 50 = .ok (.aload_n 2, 1) := by decide +kernel
theorem dX13_hides_51 : decode cX13_hides 51 = .ok (.iload 5, 2) := by decide +kernel
theorem dX13_hides_53 : decode cX13_hides 53 = .ok (.baload, 1) := by decide +kernel
theorem dX13_hides_54 : decode cX13_hides 54 = .ok (.ifCond .ne 6, 3) := by decide +kernel
theorem dX13_hides_57 : decode cX13_hides 57 = .ok (.goto 19, 3) := by decide +kernel
theorem dX13_hides_60 : decode cX13_hides 60 = .ok (.iinc 6 (-1), 3) := by decide +kernel
theorem dX13_hides_63 : decode cX13_hides 63 = .ok (.iload 6, 2) := by decide +kernel
theorem dX13_hides_65 : decode cX13_hides 65 = .ok (.iload 4, 2) := by decide +kernel
theorem dX13_hides_67 : decode cX13_hides 67 = .ok (.if_icmp .ne 9, 3) := by decide +kernel
theorem dX13_hides_70 : decode cX13_hides 70 = .ok (.aload_n 0, 1) := by decide +kernel
theorem dX13_hides_71 : decode cX13_hides 71 = .ok (.iload 5, 2) := by decide +kernel
theorem dX13_hides_73 : decode cX13_hides 73 = .ok (.putfield 69, 3) := by decide +kernel
theorem dX13_hides_76 : decode cX13_hides 76 = .ok (.iinc 5 (-1), 3) := by decide +kernel
theorem dX13_hides_79 : decode cX13_hides 79 = .ok (.goto (-34), 3) := by decide +kernel
theorem dX13_hides_82 : decode cX13_hides 82 = .ok (.iload_n 3, 1) := by decide +kernel
theorem dX13_hides_83 : decode cX13_hides 83 = .ok (.ireturn, 1) := by decide +kernel
theorem dX13_checksum_0 : decode cX13_checksum 0 = .ok (.lconst 0, 1) := by decide +kernel
theorem dX13_checksum_1 : decode cX13_checksum 1 = .ok (.lstore_n 1, 1) := by decide +kernel
theorem dX13_checksum_2 : decode cX13_checksum 2 = .ok (.iconst 0, 1) := by decide +kernel
theorem dX13_checksum_3 : decode cX13_checksum 3 = .ok (.istore_n 3, 1) := by decide +kernel
theorem dX13_checksum_4 : decode cX13_checksum 4 = .ok (.iload_n 3, 1) := by decide +kernel
theorem dX13_checksum_5 : decode cX13_checksum 5 = .ok (.bipush 13, 2) := by decide +kernel
theorem dX13_checksum_7 : decode cX13_checksum 7 = .ok (.if_icmp .ge 22, 3) := by decide +kernel
theorem dX13_checksum_10 : decode cX13_checksum 10 = .ok (.ldc2_w 135, 3) := by decide +kernel
theorem dX13_checksum_13 : decode cX13_checksum 13 = .ok (.lload_n 1, 1) := by decide +kernel
theorem dX13_checksum_14 : decode cX13_checksum 14 = .ok (.lmul, 1) := by decide +kernel
theorem dX13_checksum_15 : decode cX13_checksum 15 = .ok (.aload_n 0, 1) := by decide +kernel
theorem dX13_checksum_16 : decode cX13_checksum 16 = .ok (.iload_n 3, 1) := by decide +kernel
theorem dX13_checksum_17 : decode cX13_checksum 17 = .ok (.invokevirtual 137, 3) := by decide +kernel
theorem dX13_checksum_20 : decode cX13_checksum 20 = .ok (.i2l, 1) := by decide +kernel
theorem dX13_checksum_21 : decode cX13_checksum 21 = .ok (.ladd, 1) := by decide +kernel
theorem dX13_checksum_22 : decode cX13_checksum 22 = .ok (.lstore_n 1, 1) := by decide +kernel
theorem dX13_checksum_23 : decode cX13_checksum 23 = .ok (.iinc 3 1, 3) := by decide +kernel
theorem dX13_checksum_26 : decode cX13_checksum 26 = .ok (.goto (-22), 3) := by decide +kernel
theorem dX13_checksum_29 : decode cX13_checksum 29 = .ok (.aload_n 0, 1) := by decide +kernel
theorem dX13_checksum_30 : decode cX13_checksum 30 = .ok (.invokevirtual 117, 3) := by decide +kernel
theorem dX13_checksum_33 : decode cX13_checksum 33 = .ok (.astore_n 3, 1) := by decide +kernel
theorem dX13_checksum_34 : decode cX13_checksum 34 = .ok (.iconst 0, 1) := by decide +kernel
theorem dX13_checksum_35 : decode cX13_checksum 35 = .ok (.istore 4, 2) := by decide +kernel
theorem dX13_checksum_37 : decode cX13_checksum 37 = .ok (.iload 4, 2) := by decide +kernel
theorem dX13_checksum_39 : decode cX13_checksum 39 = .ok (.aload_n 3, 1) := by decide +kernel
theorem dX13_checksum_40 : decode cX13_checksum 40 = .ok (.arraylength, 1) := by decide +kernel
theorem dX13_checksum_41 : decode cX13_checksum 41 = .ok (.if_icmp .ge 59, 3) := by decide +kernel
theorem dX13_checksum_44 : decode cX13_checksum 44 = .ok (.ldc2_w 135, 3) := by decide +kernel
theorem dX13_checksum_47 : decode cX13_checksum 47 = .ok (.lload_n 1, 1) := by decide +kernel
theorem dX13_checksum_48 : decode cX13_checksum 48 = .ok (.lmul, 1) := by decide +kernel
theorem dX13_checksum_49 : decode cX13_checksum 49 = .ok (.aload_n 0, 1) := by decide +kernel
theorem dX13_checksum_50 : decode cX13_checksum 50 = .ok (.getfield 16, 3) := by decide +kernel
theorem dX13_checksum_53 : decode cX13_checksum 53 = .ok (.iload 4, 2) := by decide +kernel
theorem dX13_checksum_55 : decode cX13_checksum 55 = .ok (.baload, 1) := by decide +kernel
theorem dX13_checksum_56 : decode cX13_checksum 56 = .ok (.ifCond .eq 7, 3) := by decide +kernel
theorem dX13_checksum_59 : decode cX13_checksum 59 = .ok (.iconst 0, 1) := by decide +kernel
theorem dX13_checksum_60 : decode cX13_checksum 60 = .ok (.goto 31, 3) := by decide +kernel
theorem dX13_checksum_63 : decode cX13_checksum 63 = .ok (.aload_n 3, 1) := by decide +kernel
theorem dX13_checksum_64 : decode cX13_checksum 64 = .ok (.iload 4, 2) := by decide +kernel
theorem dX13_checksum_66 : decode cX13_checksum 66 = .ok (.iaload, 1) := by decide +kernel
theorem dX13_checksum_67 : decode cX13_checksum 67 = .ok (.ifCond .ne 7, 3) := by decide +kernel
theorem dX13_checksum_70 : decode cX13_checksum 70 = .ok (.iconst 3, 1) := by decide +kernel
theorem dX13_checksum_71 : decode cX13_checksum 71 = .ok (.goto 4, 3) := by decide +kernel
theorem dX13_checksum_74 : decode cX13_checksum 74 = .ok (.iconst 1, 1) := by decide +kernel
theorem dX13_checksum_75 : decode cX13_checksum 75 = .ok (.aload_n 0, 1) := by decide +kernel
theorem dX13_checksum_76 : decode cX13_checksum 76 = .ok (.getfield 20, 3) := by decide +kernel
theorem dX13_checksum_79 : decode cX13_checksum 79 = .ok (.iload 4, 2) := by decide +kernel
theorem dX13_checksum_81 : decode cX13_checksum 81 = .ok (.baload, 1) := by decide +kernel
theorem dX13_checksum_82 : decode cX13_checksum 82 = .ok (.ifCond .eq 7, 3) := by decide +kernel
theorem dX13_checksum_85 : decode cX13_checksum 85 = .ok (.iconst 1, 1) := by decide +kernel
theorem dX13_checksum_86 : decode cX13_checksum 86 = .ok (.goto 4, 3) := by decide +kernel
theorem dX13_checksum_89 : decode cX13_checksum 89 = .ok (.iconst 0, 1) := by decide +kernel
theorem dX13_checksum_90 : decode cX13_checksum 90 = .ok (.iadd, 1) := by decide +kernel
theorem dX13_checksum_91 : decode cX13_checksum 91 = .ok (.i2l, 1) := by decide +kernel
theorem dX13_checksum_92 : decode cX13_checksum 92 = .ok (.ladd, 1) := by decide +kernel
theorem dX13_checksum_93 : decode cX13_checksum 93 = .ok (.lstore_n 1, 1) := by decide +kernel
theorem dX13_checksum_94 : decode cX13_checksum 94 = .ok (.iinc 4 1, 3) := by decide +kernel
theorem dX13_checksum_97 : decode cX13_checksum 97 = .ok (.goto (-60), 3) := by decide +kernel
theorem dX13_checksum_100 : decode cX13_checksum 100 = .ok (.iconst 0, 1) := by decide +kernel
theorem dX13_checksum_101 : decode cX13_checksum 101 = .ok (.istore 4, 2) := by decide +kernel
theorem dX13_checksum_103 : decode cX13_checksum 103 = .ok (.iload 4, 2) := by decide +kernel
theorem dX13_checksum_105 : decode cX13_checksum 105 = .ok (.aload_n 0, 1) := by decide +kernel
theorem dX13_checksum_106 : decode cX13_checksum 106 = .ok (.getfield 34, 3) := by decide +kernel
theorem dX13_checksum_109 : decode cX13_checksum 109 = .ok (.arraylength, 1) := by decide +kernel
theorem dX13_checksum_110 : decode cX13_checksum 110 = .ok (.if_icmp .ge 77, 3) := by decide +kernel
theorem dX13_checksum_113 : decode cX13_checksum 113 = .ok (.ldc2_w 135, 3) := by decide +kernel
theorem dX13_checksum_116 : decode cX13_checksum 116 = .ok (.lload_n 1, 1) := by decide +kernel
theorem dX13_checksum_117 : decode cX13_checksum 117 = .ok (.lmul, 1) := by decide +kernel
theorem dX13_checksum_118 : decode cX13_checksum 118 = .ok (.aload_n 0, 1) := by decide +kernel
theorem dX13_checksum_119 : decode cX13_checksum 119 = .ok (.getfield 34, 3) := by decide +kernel
theorem dX13_checksum_122 : decode cX13_checksum 122 = .ok (.iload 4, 2) := by decide +kernel
theorem dX13_checksum_124 : decode cX13_checksum 124 = .ok (.aaload, 1) := by decide +kernel
theorem dX13_checksum_125 : decode cX13_checksum 125 = .ok (.getfield 56, 3) := by decide +kernel
theorem dX13_checksum_128 : decode cX13_checksum 128 = .ok (.ifCond .eq 7, 3) := by decide +kernel
theorem dX13_checksum_131 : decode cX13_checksum 131 = .ok (.iconst 1, 1) := by decide +kernel
theorem dX13_checksum_132 : decode cX13_checksum 132 = .ok (.goto 4, 3) := by decide +kernel
theorem dX13_checksum_135 : decode cX13_checksum 135 = .ok (.iconst 0, 1) := by decide +kernel
theorem dX13_checksum_136 : decode cX13_checksum 136 = .ok (.i2l, 1) := by decide +kernel
theorem dX13_checksum_137 : decode cX13_checksum 137 = .ok (.ladd, 1) := by decide +kernel
theorem dX13_checksum_138 : decode cX13_checksum 138 = .ok (.lstore_n 1, 1) := by decide +kernel
theorem dX13_checksum_139 : decode cX13_checksum 139 = .ok (.iconst 0, 1) := by decide +kernel
theorem dX13_checksum_140 : decode cX13_checksum 140 = .ok (.istore 5, 2) := by decide +kernel
theorem dX13_checksum_142 : decode cX13_checksum 142 = .ok (.iload 5, 2) := by decide +kernel
theorem dX13_checksum_144 : decode cX13_checksum 144 = .ok (.aload_n 0, 1) := by decide +kernel
theorem dX13_checksum_145 : decode cX13_checksum 145 = .ok (.getfield 34, 3) := by decide +kernel
theorem dX13_checksum_148 : decode cX13_checksum 148 = .ok (.iload 4, 2) := by decide +kernel
theorem dX13_checksum_150 : decode cX13_checksum 150 = .ok (.aaload, 1) := by decide +kernel
theorem dX13_checksum_151 : decode cX13_checksum 151 = .ok (.getfield 52, 3) := by decide +kernel
theorem dX13_checksum_154 : decode cX13_checksum 154 = .ok (.arraylength, 1) := by decide +kernel
theorem dX13_checksum_155 : decode cX13_checksum 155 = .ok (.if_icmp .gt 26, 3) := by decide +kernel
theorem dX13_checksum_158 : decode cX13_checksum 158 = .ok (.ldc2_w 135, 3) := by decide +kernel
theorem dX13_checksum_161 : decode cX13_checksum 161 = .ok (.lload_n 1, 1) := by decide +kernel
theorem dX13_checksum_162 : decode cX13_checksum 162 = .ok (.lmul, 1) := by decide +kernel
theorem dX13_checksum_163 : decode cX13_checksum 163 = .ok (.aload_n 0, 1) := by decide +kernel
theorem dX13_checksum_164 : decode cX13_checksum 164 = .ok (.iload 4, 2) := by decide +kernel
theorem dX13_checksum_166 : decode cX13_checksum 166 = .ok (.iload 5, 2) := by decide +kernel
theorem dX13_checksum_168 : decode cX13_checksum 168 = .ok (.iconst (-1), 1) := by decide +kernel
theorem dX13_checksum_169 : decode cX13_checksum 169 = .ok (.invokevirtual 113, 3) := by decide +kernel
theorem dX13_checksum_172 : decode cX13_checksum 172 = .ok (.i2l, 1) := by decide +kernel
theorem dX13_checksum_173 : decode cX13_checksum 173 = .ok (.ladd, 1) := by decide +kernel
theorem dX13_checksum_174 : decode cX13_checksum 174 = .ok (.lstore_n 1, 1) := by decide +kernel
theorem dX13_checksum_175 : decode cX13_checksum 175 = .ok (.iinc 5 1, 3) := by decide +kernel
theorem dX13_checksum_178 : decode cX13_checksum 178 = .ok (.goto (-36), 3) := by decide +kernel
theorem dX13_checksum_181 : decode cX13_checksum 181 = .ok (.iinc 4 1, 3) := by decide +kernel
theorem dX13_checksum_184 : decode cX13_checksum 184 = .ok (.goto (-81), 3) := by decide +kernel
theorem dX13_checksum_187 : decode cX13_checksum 187 = .ok (.lload_n 1, 1) := by decide +kernel
theorem dX13_checksum_188 : decode cX13_checksum 188 = .ok (.lreturn, 1) := by decide +kernel
theorem dX14_init_0 : decode cX14_init 0 = .ok (.aload_n 0, 1) := by decide +kernel
theorem dX14_init_1 : decode cX14_init 1 = .ok (.invokespecial 1, 3) := by decide +kernel
theorem dX14_init_4 : decode cX14_init 4 = .ok (.return_, 1) := by decide +kernel
theorem dX15_init_0 : decode cX15_init 0 = .ok (.aload_n 0, 1) := by decide +kernel
theorem dX15_init_1 : decode cX15_init 1 = .ok (.invokespecial 1, 3) := by decide +kernel
theorem dX15_init_4 : decode cX15_init 4 = .ok (.aload_n 0, 1) := by decide +kernel
theorem dX15_init_5 : decode cX15_init 5 = .ok (.iload_n 1, 1) := by decide +kernel
theorem dX15_init_6 : decode cX15_init 6 = .ok (.putfield 7, 3) := by decide +kernel
theorem dX15_init_9 : decode cX15_init 9 = .ok (.return_, 1) := by decide +kernel
theorem dX15_below_0 : decode cX15_below 0 = .ok (.aload_n 0, 1) := by decide +kernel
theorem dX15_below_1 : decode cX15_below 1 = .ok (.ldc 13, 2) := by decide +kernel
theorem dX15_below_3 : decode cX15_below 3 = .ok (.aload_n 0, 1) := by decide +kernel
theorem dX15_below_4 : decode cX15_below 4 = .ok (.getfield 7, 3) := by decide +kernel
theorem dX15_below_7 : decode cX15_below 7 = .ok (.imul, 1) := by decide +kernel
theorem dX15_below_8 : decode cX15_below 8 = .ok (.sipush 12345, 3) := by decide +kernel
theorem dX15_below_11 : decode cX15_below 11 = .ok (.iadd, 1) := by decide +kernel
theorem dX15_below_12 : decode cX15_below 12 = .ok (.putfield 7, 3) := by decide +kernel
theorem dX15_below_15 : decode cX15_below 15 = .ok (.aload_n 0, 1) := by decide +kernel
theorem dX15_below_16 : decode cX15_below 16 = .ok (.getfield 7, 3) := by decide +kernel
theorem dX15_below_19 : decode cX15_below 19 = .ok (.bipush 16, 2) := by decide +kernel
theorem dX15_below_21 : decode cX15_below 21 = .ok (.iushr, 1) := by decide +kernel
theorem dX15_below_22 : decode cX15_below 22 = .ok (.iload_n 1, 1) := by decide +kernel
theorem dX15_below_23 : decode cX15_below 23 = .ok (.irem, 1) := by decide +kernel
theorem dX15_below_24 : decode cX15_below 24 = .ok (.ireturn, 1) := by decide +kernel
theorem dJ5_init_d00df_0 : decode cJ5_init_d00df 0 = .ok (.aload_n 0, 1) := by decide +kernel
theorem dJ5_init_d00df_1 : decode cJ5_init_d00df 1 = .ok (.invokespecial 3, 3) := by decide +kernel
theorem dJ5_init_d00df_4 : decode cJ5_init_d00df 4 = .ok (.getstatic 18, 3) := by decide +kernel
theorem dJ5_init_d00df_7 : decode cJ5_init_d00df 7 = .ok (.ifCond .eq 18, 3) := by decide +kernel
theorem dJ5_init_d00df_10 : decode cJ5_init_d00df 10 = .ok (.aload_n 0, 1) := by decide +kernel
theorem dJ5_init_d00df_11 : decode cJ5_init_d00df 11 = .ok (.iload_n 1, 1) := by decide +kernel
theorem dJ5_init_d00df_12 : decode cJ5_init_d00df 12 = .ok (.newarray .byte, 2) := by decide +kernel
theorem dJ5_init_d00df_14 : decode cJ5_init_d00df 14 = .ok (.putfield 15, 3) := by decide +kernel
theorem dJ5_init_d00df_17 : decode cJ5_init_d00df 17 = .ok (.aload_n 0, 1) := by decide +kernel
theorem dJ5_init_d00df_18 : decode cJ5_init_d00df 18 = .ok (.iconst 0, 1) := by decide +kernel
theorem dJ5_init_d00df_19 : decode cJ5_init_d00df 19 = .ok (.putfield 22, 3) := by decide +kernel
theorem dJ5_init_d00df_22 : decode cJ5_init_d00df 22 = .ok (.goto 16, 3) := by decide +kernel
theorem dJ5_init_d00df_25 : decode cJ5_init_d00df 25 = .ok (.aload_n 0, 1) := by decide +kernel
theorem dJ5_init_d00df_26 : decode cJ5_init_d00df 26 = .ok (.iload_n 1, 1) := by decide +kernel
theorem dJ5_init_d00df_27 : decode cJ5_init_d00df 27 = .ok (.invokestatic 26, 3) := by decide +kernel
theorem dJ5_init_d00df_30 : decode cJ5_init_d00df 30 = .ok (.putfield 15, 3) := by decide +kernel
theorem dJ5_init_d00df_33 : decode cJ5_init_d00df 33 = .ok (.aload_n 0, 1) := by decide +kernel
theorem dJ5_init_d00df_34 : decode cJ5_init_d00df 34 = .ok (.iconst 1, 1) := by decide +kernel
theorem dJ5_init_d00df_35 : decode cJ5_init_d00df 35 = .ok (.putfield 22, 3) := by decide +kernel
theorem dJ5_init_d00df_38 : decode cJ5_init_d00df 38 = .ok (.return_, 1) := by decide +kernel
theorem dJ5_length_8abf5_0 : decode cJ5_length_8abf5 0 = .ok (.aload_n 0, 1) := by decide +kernel
theorem dJ5_length_8abf5_1 : decode cJ5_length_8abf5 1 = .ok (.getfield 79, 3) := by decide +kernel
theorem dJ5_length_8abf5_4 : decode cJ5_length_8abf5 4 = .ok (.ireturn, 1) := by decide +kernel
theorem dJ5_ensureCapacityInternal_d00df_0 : decode cJ5_ensureCapacityInternal_d00df 0 = .ok (.aload_n 0, 1) := by decide +kernel
theorem dJ5_ensureCapacityInternal_d00df_1 : decode cJ5_ensureCapacityInternal_d00df 1 = .ok (.getfield 15, 3) := by decide +kernel
theorem dJ5_ensureCapacityInternal_d00df_4 : decode cJ5_ensureCapacityInternal_d00df 4 = .ok (.arraylength, 1) := by decide +kernel
theorem dJ5_ensureCapacityInternal_d00df_5 : decode cJ5_ensureCapacityInternal_d00df 5 = .ok (.aload_n 0, 1) := by decide +kernel
theorem dJ5_ensureCapacityInternal_d00df_6 : decode cJ5_ensureCapacityInternal_d00df 6 = .ok (.getfield 22, 3) := by decide +kernel
theorem dJ5_ensureCapacityInternal_d00df_9 : decode cJ5_ensureCapacityInternal_d00df 9 = .ok (.ishr, 1) := by decide +kernel
theorem dJ5_ensureCapacityInternal_d00df_10 : decode cJ5_ensureCapacityInternal_d00df 10 = .ok (.istore_n 2, 1) := by decide +kernel
theorem dJ5_ensureCapacityInternal_d00df_11 : decode cJ5_ensureCapacityInternal_d00df 11 = .ok (.iload_n 1, 1) := by decide +kernel
theorem dJ5_ensureCapacityInternal_d00df_12 : decode cJ5_ensureCapacityInternal_d00df 12 = .ok (.iload_n 2, 1) := by decide +kernel
theorem dJ5_ensureCapacityInternal_d00df_13 : decode cJ5_ensureCapacityInternal_d00df 13 = .ok (.isub, 1) := by decide +kernel
theorem dJ5_ensureCapacityInternal_d00df_14 : decode cJ5_ensureCapacityInternal_d00df 14 = .ok (.ifCond .le 24, 3) := by decide +kernel
theorem dJ5_ensureCapacityInternal_d00df_17 : decode cJ5_ensureCapacityInternal_d00df 17 = .ok (.aload_n 0, 1) := by decide +kernel
theorem dJ5_ensureCapacityInternal_d00df_18 : decode cJ5_ensureCapacityInternal_d00df 18 = .ok (.aload_n 0, 1) := by decide +kernel
theorem dJ5_ensureCapacityInternal_d00df_19 : decode cJ5_ensureCapacityInternal_d00df 19 = .ok (.getfield 15, 3) := by decide +kernel
theorem dJ5_ensureCapacityInternal_d00df_22 : decode cJ5_ensureCapacityInternal_d00df 22 = .ok (.aload_n 0, 1) := by decide +kernel
theorem dJ5_ensureCapacityInternal_d00df_23 : decode cJ5_ensureCapacityInternal_d00df 23 = .ok (.iload_n 1, 1) := by decide +kernel
theorem dJ5_ensureCapacityInternal_d00df_24 : decode cJ5_ensureCapacityInternal_d00df 24 = .ok (.invokevirtual 104, 3) := by decide +kernel
theorem dJ5_ensureCapacityInternal_d00df_27 : decode cJ5_ensureCapacityInternal_d00df 27 = .ok (.aload_n 0, 1) := by decide +kernel
theorem dJ5_ensureCapacityInternal_d00df_28 : decode cJ5_ensureCapacityInternal_d00df 28 = .ok (.getfield 22, 3) := by decide +kernel
theorem dJ5_ensureCapacityInternal_d00df_31 : decode cJ5_ensureCapacityInternal_d00df 31 = .ok (.ishl, 1) := by decide +kernel
theorem dJ5_ensureCapacityInternal_d00df_32 : decode cJ5_ensureCapacityInternal_d00df 32 = .ok (.invokestatic 108, 3) := by decide +kernel
theorem dJ5_ensureCapacityInternal_d00df_35 : decode cJ5_ensureCapacityInternal_d00df 35 = .ok (.putfield 15, 3) := by decide +kernel
theorem dJ5_ensureCapacityInternal_d00df_38 : decode cJ5_ensureCapacityInternal_d00df 38 = .ok (.return_, 1) := by decide +kernel
theorem dJ5_append_cf1ce_0 : decode cJ5_append_cf1ce 0 = .ok (.aload_n 1, 1) := by decide +kernel
theorem dJ5_append_cf1ce_1 : decode cJ5_append_cf1ce 1 = .ok (.ifnonnull 8, 3) := by decide +kernel
theorem dJ5_append_cf1ce_4 : decode cJ5_append_cf1ce 4 = .ok (.aload_n 0, 1) := by decide +kernel
theorem dJ5_append_cf1ce_5 : decode cJ5_append_cf1ce 5 = .ok (.invokevirtual 204, 3) := by decide +kernel
theorem dJ5_append_cf1ce_8 : decode cJ5_append_cf1ce 8 = .ok (.areturn, 1) := by decide +kernel
theorem dJ5_append_cf1ce_9 : decode cJ5_append_cf1ce 9 = .ok (.aload_n 1, 1) := by decide +kernel
theorem dJ5_append_cf1ce_10 : decode cJ5_append_cf1ce 10 = .ok (.invokevirtual 32, 3) := by decide +kernel
theorem dJ5_append_cf1ce_13 : decode cJ5_append_cf1ce 13 = .ok (.istore_n 2, 1) := by decide +kernel
theorem dJ5_append_cf1ce_14 : decode cJ5_append_cf1ce 14 = .ok (.aload_n 0, 1) := by decide +kernel
theorem dJ5_append_cf1ce_15 : decode cJ5_append_cf1ce 15 = .ok (.aload_n 0, 1) := by decide +kernel
theorem dJ5_append_cf1ce_16 : decode cJ5_append_cf1ce 16 = .ok (.getfield 79, 3) := by decide +kernel
theorem dJ5_append_cf1ce_19 : decode cJ5_append_cf1ce 19 = .ok (.iload_n 2, 1) := by decide +kernel
theorem dJ5_append_cf1ce_20 : decode cJ5_append_cf1ce 20 = .ok (.iadd, 1) := by decide +kernel
theorem dJ5_append_cf1ce_21 : decode cJ5_append_cf1ce 21 = .ok (.invokevirtual 100, 3) := by decide +kernel
theorem dJ5_append_cf1ce_24 : decode cJ5_append_cf1ce 24 = .ok (.aload_n 0, 1) := by decide +kernel
theorem dJ5_append_cf1ce_25 : decode cJ5_append_cf1ce 25 = .ok (.aload_n 0, 1) := by decide +kernel
theorem dJ5_append_cf1ce_26 : decode cJ5_append_cf1ce 26 = .ok (.getfield 79, 3) := by decide +kernel
theorem dJ5_append_cf1ce_29 : decode cJ5_append_cf1ce 29 = .ok (.aload_n 1, 1) := by decide +kernel
theorem dJ5_append_cf1ce_30 : decode cJ5_append_cf1ce 30 = .ok (.invokevirtual 208, 3) := by decide +kernel
theorem dJ5_append_cf1ce_33 : decode cJ5_append_cf1ce 33 = .ok (.aload_n 0, 1) := by decide +kernel
theorem dJ5_append_cf1ce_34 : decode cJ5_append_cf1ce 34 = .ok (.dup, 1) := by decide +kernel
theorem dJ5_append_cf1ce_35 : decode cJ5_append_cf1ce 35 = .ok (.getfield 79, 3) := by decide +kernel
theorem dJ5_append_cf1ce_38 : decode cJ5_append_cf1ce 38 = .ok (.iload_n 2, 1) := by decide +kernel
theorem dJ5_append_cf1ce_39 : decode cJ5_append_cf1ce 39 = .ok (.iadd, 1) := by decide +kernel
theorem dJ5_append_cf1ce_40 : decode cJ5_append_cf1ce 40 = .ok (.putfield 79, 3) := by decide +kernel
theorem dJ5_append_cf1ce_43 : decode cJ5_append_cf1ce 43 = .ok (.aload_n 0, 1) := by decide +kernel
theorem dJ5_append_cf1ce_44 : decode cJ5_append_cf1ce 44 = .ok (.areturn, 1) := by decide +kernel
theorem dJ5_appendNull_278bc_0 : decode cJ5_appendNull_278bc 0 = .ok (.aload_n 0, 1) := by decide +kernel
theorem dJ5_appendNull_278bc_1 : decode cJ5_appendNull_278bc 1 = .ok (.aload_n 0, 1) := by decide +kernel
theorem dJ5_appendNull_278bc_2 : decode cJ5_appendNull_278bc 2 = .ok (.getfield 79, 3) := by decide +kernel
theorem dJ5_appendNull_278bc_5 : decode cJ5_appendNull_278bc 5 = .ok (.iconst 4, 1) := by decide +kernel
theorem dJ5_appendNull_278bc_6 : decode cJ5_appendNull_278bc 6 = .ok (.iadd, 1) := by decide +kernel
theorem dJ5_appendNull_278bc_7 : decode cJ5_appendNull_278bc 7 = .ok (.invokevirtual 100, 3) := by decide +kernel
theorem dJ5_appendNull_278bc_10 : decode cJ5_appendNull_278bc 10 = .ok (.aload_n 0, 1) := by decide +kernel
theorem dJ5_appendNull_278bc_11 : decode cJ5_appendNull_278bc 11 = .ok (.getfield 79, 3) := by decide +kernel
theorem dJ5_appendNull_278bc_14 : decode cJ5_appendNull_278bc 14 = .ok (.istore_n 1, 1) := by decide +kernel
theorem dJ5_appendNull_278bc_15 : decode cJ5_appendNull_278bc 15 = .ok (.aload_n 0, 1) := by decide +kernel
theorem dJ5_appendNull_278bc_16 : decode cJ5_appendNull_278bc 16 = .ok (.getfield 15, 3) := by decide +kernel
theorem dJ5_appendNull_278bc_19 : decode cJ5_appendNull_278bc 19 = .ok (.astore_n 2, 1) := by decide +kernel
theorem dJ5_appendNull_278bc_20 : decode cJ5_appendNull_278bc 20 = .ok (.aload_n 0, 1) := by decide +kernel
theorem dJ5_appendNull_278bc_21 : decode cJ5_appendNull_278bc 21 = .ok (.invokevirtual 83, 3) := by decide +kernel
theorem dJ5_appendNull_278bc_24 : decode cJ5_appendNull_278bc 24 = .ok (.ifCond .eq 38, 3) := by decide +kernel
theorem dJ5_appendNull_278bc_27 : decode cJ5_appendNull_278bc 27 = .ok (.aload_n 2, 1) := by decide +kernel
theorem dJ5_appendNull_278bc_28 : decode cJ5_appendNull_278bc 28 = .ok (.iload_n 1, 1) := by decide +kernel
theorem dJ5_appendNull_278bc_29 : decode cJ5_appendNull_278bc 29 = .ok (.iinc 1 1, 3) := by decide +kernel
theorem dJ5_appendNull_278bc_32 : decode cJ5_appendNull_278bc 32 = .ok (.bipush 110, 2) := by decide +kernel
theorem dJ5_appendNull_278bc_34 : decode cJ5_appendNull_278bc 34 = .ok (.bastore, 1) := by decide +kernel
theorem dJ5_appendNull_278bc_35 : decode cJ5_appendNull_278bc 35 = .ok (.aload_n 2, 1) := by decide +kernel
theorem dJ5_appendNull_278bc_36 : decode cJ5_appendNull_278bc 36 = .ok (.iload_n 1, 1) := by decide +kernel
theorem dJ5_appendNull_278bc_37 : decode cJ5_appendNull_278bc 37 = .ok (.iinc 1 1, 3) := by decide +kernel
theorem dJ5_appendNull_278bc_40 : decode cJ5_appendNull_278bc 40 = .ok (.bipush 117, 2) := by decide +kernel
theorem dJ5_appendNull_278bc_42 : decode cJ5_appendNull_278bc 42 = .ok (.bastore, 1) := by decide +kernel
theorem dJ5_appendNull_278bc_43 : decode cJ5_appendNull_278bc 43 = .ok (.aload_n 2, 1) := by decide +kernel
theorem dJ5_appendNull_278bc_44 : decode cJ5_appendNull_278bc 44 = .ok (.iload_n 1, 1) := by decide +kernel
theorem dJ5_appendNull_278bc_45 : decode cJ5_appendNull_278bc 45 = .ok (.iinc 1 1, 3) := by decide +kernel
theorem dJ5_appendNull_278bc_48 : decode cJ5_appendNull_278bc 48 = .ok (.bipush 108, 2) := by decide +kernel
theorem dJ5_appendNull_278bc_50 : decode cJ5_appendNull_278bc 50 = .ok (.bastore, 1) := by decide +kernel
theorem dJ5_appendNull_278bc_51 : decode cJ5_appendNull_278bc 51 = .ok (.aload_n 2, 1) := by decide +kernel
theorem dJ5_appendNull_278bc_52 : decode cJ5_appendNull_278bc 52 = .ok (.iload_n 1, 1) := by decide +kernel
theorem dJ5_appendNull_278bc_53 : decode cJ5_appendNull_278bc 53 = .ok (.iinc 1 1, 3) := by decide +kernel
theorem dJ5_appendNull_278bc_56 : decode cJ5_appendNull_278bc 56 = .ok (.bipush 108, 2) := by decide +kernel
theorem dJ5_appendNull_278bc_58 : decode cJ5_appendNull_278bc 58 = .ok (.bastore, 1) := by decide +kernel
theorem dJ5_appendNull_278bc_59 : decode cJ5_appendNull_278bc 59 = .ok (.goto 17, 3) := by decide +kernel
theorem dJ5_appendNull_278bc_62 : decode cJ5_appendNull_278bc 62 = .ok (.aload_n 2, 1) := by decide +kernel
theorem dJ5_appendNull_278bc_63 : decode cJ5_appendNull_278bc 63 = .ok (.iload_n 1, 1) := by decide +kernel
theorem dJ5_appendNull_278bc_64 : decode cJ5_appendNull_278bc 64 = .ok (.bipush 110, 2) := by decide +kernel
theorem dJ5_appendNull_278bc_66 : decode cJ5_appendNull_278bc 66 = .ok (.bipush 117, 2) := by decide +kernel
theorem dJ5_appendNull_278bc_68 : decode cJ5_appendNull_278bc 68 = .ok (.bipush 108, 2) := by decide +kernel
theorem dJ5_appendNull_278bc_70 : decode cJ5_appendNull_278bc 70 = .ok (.bipush 108, 2) := by decide +kernel
theorem dJ5_appendNull_278bc_72 : decode cJ5_appendNull_278bc 72 = .ok (.invokestatic 226, 3) := by decide +kernel
theorem dJ5_appendNull_278bc_75 : decode cJ5_appendNull_278bc 75 = .ok (.istore_n 1, 1) := by decide +kernel
theorem dJ5_appendNull_278bc_76 : decode cJ5_appendNull_278bc 76 = .ok (.aload_n 0, 1) := by decide +kernel
theorem dJ5_appendNull_278bc_77 : decode cJ5_appendNull_278bc 77 = .ok (.iload_n 1, 1) := by decide +kernel
theorem dJ5_appendNull_278bc_78 : decode cJ5_appendNull_278bc 78 = .ok (.putfield 79, 3) := by decide +kernel
theorem dJ5_appendNull_278bc_81 : decode cJ5_appendNull_278bc 81 = .ok (.aload_n 0, 1) := by decide +kernel
theorem dJ5_appendNull_278bc_82 : decode cJ5_appendNull_278bc 82 = .ok (.areturn, 1) := by decide +kernel
theorem dJ5_append_3fe6f_0 : decode cJ5_append_3fe6f 0 = .ok (.aload_n 0, 1) := by decide +kernel
theorem dJ5_append_3fe6f_1 : decode cJ5_append_3fe6f 1 = .ok (.aload_n 0, 1) := by decide +kernel
theorem dJ5_append_3fe6f_2 : decode cJ5_append_3fe6f 2 = .ok (.getfield 79, 3) := by decide +kernel
theorem dJ5_append_3fe6f_5 : decode cJ5_append_3fe6f 5 = .ok (.iconst 1, 1) := by decide +kernel
theorem dJ5_append_3fe6f_6 : decode cJ5_append_3fe6f 6 = .ok (.iadd, 1) := by decide +kernel
theorem dJ5_append_3fe6f_7 : decode cJ5_append_3fe6f 7 = .ok (.invokevirtual 100, 3) := by decide +kernel
theorem dJ5_append_3fe6f_10 : decode cJ5_append_3fe6f 10 = .ok (.aload_n 0, 1) := by decide +kernel
theorem dJ5_append_3fe6f_11 : decode cJ5_append_3fe6f 11 = .ok (.invokevirtual 83, 3) := by decide +kernel
theorem dJ5_append_3fe6f_14 : decode cJ5_append_3fe6f 14 = .ok (.ifCond .eq 31, 3) := by decide +kernel
theorem dJ5_append_3fe6f_17 : decode cJ5_append_3fe6f 17 = .ok (.iload_n 1, 1) := by decide +kernel
theorem dJ5_append_3fe6f_18 : decode cJ5_append_3fe6f 18 = .ok (.invokestatic 191, 3) := by decide +kernel
theorem dJ5_append_3fe6f_21 : decode cJ5_append_3fe6f 21 = .ok (.ifCond .eq 24, 3) := by decide +kernel
theorem dJ5_append_3fe6f_24 : decode cJ5_append_3fe6f 24 = .ok (.aload_n 0, 1) := by decide +kernel
theorem dJ5_append_3fe6f_25 : decode cJ5_append_3fe6f 25 = .ok (.getfield 15, 3) := by decide +kernel
theorem dJ5_append_3fe6f_28 : decode cJ5_append_3fe6f 28 = .ok (.aload_n 0, 1) := by decide +kernel
theorem dJ5_append_3fe6f_29 : decode cJ5_append_3fe6f 29 = .ok (.dup, 1) := by decide +kernel
theorem dJ5_append_3fe6f_30 : decode cJ5_append_3fe6f 30 = .ok (.getfield 79, 3) := by decide +kernel
theorem dJ5_append_3fe6f_33 : decode cJ5_append_3fe6f 33 = .ok (.dup_x1, 1) := by decide +kernel
theorem dJ5_append_3fe6f_34 : decode cJ5_append_3fe6f 34 = .ok (.iconst 1, 1) := by decide +kernel
theorem dJ5_append_3fe6f_35 : decode cJ5_append_3fe6f 35 = .ok (.iadd, 1) := by decide +kernel
theorem dJ5_append_3fe6f_36 : decode cJ5_append_3fe6f 36 = .ok (.putfield 79, 3) := by decide +kernel
theorem dJ5_append_3fe6f_39 : decode cJ5_append_3fe6f 39 = .ok (.iload_n 1, 1) := by decide +kernel
theorem dJ5_append_3fe6f_40 : decode cJ5_append_3fe6f 40 = .ok (.i2b, 1) := by decide +kernel
theorem dJ5_append_3fe6f_41 : decode cJ5_append_3fe6f 41 = .ok (.bastore, 1) := by decide +kernel
theorem dJ5_append_3fe6f_42 : decode cJ5_append_3fe6f 42 = .ok (.goto 33, 3) := by decide +kernel
theorem dJ5_append_3fe6f_45 : decode cJ5_append_3fe6f 45 = .ok (.aload_n 0, 1) := by decide +kernel
theorem dJ5_append_3fe6f_46 : decode cJ5_append_3fe6f 46 = .ok (.invokevirtual 83, 3) := by decide +kernel
theorem dJ5_append_3fe6f_49 : decode cJ5_append_3fe6f 49 = .ok (.ifCond .eq 7, 3) := by decide +kernel
theorem dJ5_append_3fe6f_52 : decode cJ5_append_3fe6f 52 = .ok (.aload_n 0, 1) := by decide +kernel
theorem dJ5_append_3fe6f_53 : decode cJ5_append_3fe6f 53 = .ok (.invokevirtual 195, 3) := by decide +kernel
theorem dJ5_append_3fe6f_56 : decode cJ5_append_3fe6f 56 = .ok (.aload_n 0, 1) := by decide +kernel
theorem dJ5_append_3fe6f_57 : decode cJ5_append_3fe6f 57 = .ok (.getfield 15, 3) := by decide +kernel
theorem dJ5_append_3fe6f_60 : decode cJ5_append_3fe6f 60 = .ok (.aload_n 0, 1) := by decide +kernel
theorem dJ5_append_3fe6f_61 : decode cJ5_append_3fe6f 61 = .ok (.dup, 1) := by decide +kernel
theorem dJ5_append_3fe6f_62 : decode cJ5_append_3fe6f 62 = .ok (.getfield 79, 3) := by decide +kernel
theorem dJ5_append_3fe6f_65 : decode cJ5_append_3fe6f 65 = .ok (.dup_x1, 1) := by decide +kernel
theorem dJ5_append_3fe6f_66 : decode cJ5_append_3fe6f 66 = .ok (.iconst 1, 1) := by decide +kernel
theorem dJ5_append_3fe6f_67 : decode cJ5_append_3fe6f 67 = .ok (.iadd, 1) := by decide +kernel
theorem dJ5_append_3fe6f_68 : decode cJ5_append_3fe6f 68 = .ok (.putfield 79, 3) := by decide +kernel
theorem dJ5_append_3fe6f_71 : decode cJ5_append_3fe6f 71 = .ok (.iload_n 1, 1) := by decide +kernel
theorem dJ5_append_3fe6f_72 : decode cJ5_append_3fe6f 72 = .ok (.invokestatic 197, 3) := by decide +kernel
theorem dJ5_append_3fe6f_75 : decode cJ5_append_3fe6f 75 = .ok (.aload_n 0, 1) := by decide +kernel
theorem dJ5_append_3fe6f_76 : decode cJ5_append_3fe6f 76 = .ok (.areturn, 1) := by decide +kernel
theorem dJ5_getValue_6d5f1_0 : decode cJ5_getValue_6d5f1 0 = .ok (.aload_n 0, 1) := by decide +kernel
theorem dJ5_getValue_6d5f1_1 : decode cJ5_getValue_6d5f1 1 = .ok (.getfield 15, 3) := by decide +kernel
theorem dJ5_getValue_6d5f1_4 : decode cJ5_getValue_6d5f1 4 = .ok (.areturn, 1) := by decide +kernel
theorem dJ5_isLatin1_aae02_0 : decode cJ5_isLatin1_aae02 0 = .ok (.getstatic 18, 3) := by decide +kernel
theorem dJ5_isLatin1_aae02_3 : decode cJ5_isLatin1_aae02 3 = .ok (.ifCond .eq 14, 3) := by decide +kernel
theorem dJ5_isLatin1_aae02_6 : decode cJ5_isLatin1_aae02 6 = .ok (.aload_n 0, 1) := by decide +kernel
theorem dJ5_isLatin1_aae02_7 : decode cJ5_isLatin1_aae02 7 = .ok (.getfield 22, 3) := by decide +kernel
theorem dJ5_isLatin1_aae02_10 : decode cJ5_isLatin1_aae02 10 = .ok (.ifCond .ne 7, 3) := by decide +kernel
theorem dJ5_isLatin1_aae02_13 : decode cJ5_isLatin1_aae02 13 = .ok (.iconst 1, 1) := by decide +kernel
theorem dJ5_isLatin1_aae02_14 : decode cJ5_isLatin1_aae02 14 = .ok (.goto 4, 3) := by decide +kernel
theorem dJ5_isLatin1_aae02_17 : decode cJ5_isLatin1_aae02 17 = .ok (.iconst 0, 1) := by decide +kernel
theorem dJ5_isLatin1_aae02_18 : decode cJ5_isLatin1_aae02 18 = .ok (.ireturn, 1) := by decide +kernel
theorem dJ5_putStringAt_47b60_0 : decode cJ5_putStringAt_47b60 0 = .ok (.aload_n 0, 1) := by decide +kernel
theorem dJ5_putStringAt_47b60_1 : decode cJ5_putStringAt_47b60 1 = .ok (.aload_n 2, 1) := by decide +kernel
theorem dJ5_putStringAt_47b60_2 : decode cJ5_putStringAt_47b60 2 = .ok (.invokevirtual 397, 3) := by decide +kernel
theorem dJ5_putStringAt_47b60_5 : decode cJ5_putStringAt_47b60 5 = .ok (.aload_n 2, 1) := by decide +kernel
theorem dJ5_putStringAt_47b60_6 : decode cJ5_putStringAt_47b60 6 = .ok (.aload_n 0, 1) := by decide +kernel
theorem dJ5_putStringAt_47b60_7 : decode cJ5_putStringAt_47b60 7 = .ok (.getfield 15, 3) := by decide +kernel
theorem dJ5_putStringAt_47b60_10 : decode cJ5_putStringAt_47b60 10 = .ok (.iload_n 1, 1) := by decide +kernel
theorem dJ5_putStringAt_47b60_11 : decode cJ5_putStringAt_47b60 11 = .ok (.aload_n 0, 1) := by decide +kernel
theorem dJ5_putStringAt_47b60_12 : decode cJ5_putStringAt_47b60 12 = .ok (.getfield 22, 3) := by decide +kernel
theorem dJ5_putStringAt_47b60_15 : decode cJ5_putStringAt_47b60 15 = .ok (.invokevirtual 399, 3) := by decide +kernel
theorem dJ5_putStringAt_47b60_18 : decode cJ5_putStringAt_47b60 18 = .ok (.return_, 1) := by decide +kernel
theorem dJ6_bitCount_0f7a4_0 : decode cJ6_bitCount_0f7a4 0 = .ok (.iload_n 0, 1) := by decide +kernel
theorem dJ6_bitCount_0f7a4_1 : decode cJ6_bitCount_0f7a4 1 = .ok (.iload_n 0, 1) := by decide +kernel
theorem dJ6_bitCount_0f7a4_2 : decode cJ6_bitCount_0f7a4 2 = .ok (.iconst 1, 1) := by decide +kernel
theorem dJ6_bitCount_0f7a4_3 : decode cJ6_bitCount_0f7a4 3 = .ok (.iushr, 1) := by decide +kernel
theorem dJ6_bitCount_0f7a4_4 : decode cJ6_bitCount_0f7a4 4 = .ok (.ldc_w 265, 3) := by decide +kernel
theorem dJ6_bitCount_0f7a4_7 : decode cJ6_bitCount_0f7a4 7 = .ok (.iand, 1) := by decide +kernel
theorem dJ6_bitCount_0f7a4_8 : decode cJ6_bitCount_0f7a4 8 = .ok (.isub, 1) := by decide +kernel
theorem dJ6_bitCount_0f7a4_9 : decode cJ6_bitCount_0f7a4 9 = .ok (.istore_n 0, 1) := by decide +kernel
theorem dJ6_bitCount_0f7a4_10 : decode cJ6_bitCount_0f7a4 10 = .ok (.iload_n 0, 1) := by decide +kernel
theorem dJ6_bitCount_0f7a4_11 : decode cJ6_bitCount_0f7a4 11 = .ok (.ldc_w 266, 3) := by decide +kernel
theorem dJ6_bitCount_0f7a4_14 : decode cJ6_bitCount_0f7a4 14 = .ok (.iand, 1) := by decide +kernel
theorem dJ6_bitCount_0f7a4_15 : decode cJ6_bitCount_0f7a4 15 = .ok (.iload_n 0, 1) := by decide +kernel
theorem dJ6_bitCount_0f7a4_16 : decode cJ6_bitCount_0f7a4 16 = .ok (.iconst 2, 1) := by decide +kernel
theorem dJ6_bitCount_0f7a4_17 : decode cJ6_bitCount_0f7a4 17 = .ok (.iushr, 1) := by decide +kernel
theorem dJ6_bitCount_0f7a4_18 : decode cJ6_bitCount_0f7a4 18 = .ok (.ldc_w 266, 3) := by decide +kernel
theorem dJ6_bitCount_0f7a4_21 : decode cJ6_bitCount_0f7a4 21 = .ok (.iand, 1) := by decide +kernel
theorem dJ6_bitCount_0f7a4_22 : decode cJ6_bitCount_0f7a4 22 = .ok (.iadd, 1) := by decide +kernel
theorem dJ6_bitCount_0f7a4_23 : decode cJ6_bitCount_0f7a4 23 = .ok (.istore_n 0, 1) := by decide +kernel
theorem dJ6_bitCount_0f7a4_24 : decode cJ6_bitCount_0f7a4 24 = .ok (.iload_n 0, 1) := by decide +kernel
theorem dJ6_bitCount_0f7a4_25 : decode cJ6_bitCount_0f7a4 25 = .ok (.iload_n 0, 1) := by decide +kernel
theorem dJ6_bitCount_0f7a4_26 : decode cJ6_bitCount_0f7a4 26 = .ok (.iconst 4, 1) := by decide +kernel
theorem dJ6_bitCount_0f7a4_27 : decode cJ6_bitCount_0f7a4 27 = .ok (.iushr, 1) := by decide +kernel
theorem dJ6_bitCount_0f7a4_28 : decode cJ6_bitCount_0f7a4 28 = .ok (.iadd, 1) := by decide +kernel
theorem dJ6_bitCount_0f7a4_29 : decode cJ6_bitCount_0f7a4 29 = .ok (.ldc_w 267, 3) := by decide +kernel
theorem dJ6_bitCount_0f7a4_32 : decode cJ6_bitCount_0f7a4 32 = .ok (.iand, 1) := by decide +kernel
theorem dJ6_bitCount_0f7a4_33 : decode cJ6_bitCount_0f7a4 33 = .ok (.istore_n 0, 1) := by decide +kernel
theorem dJ6_bitCount_0f7a4_34 : decode cJ6_bitCount_0f7a4 34 = .ok (.iload_n 0, 1) := by decide +kernel
theorem dJ6_bitCount_0f7a4_35 : decode cJ6_bitCount_0f7a4 35 = .ok (.iload_n 0, 1) := by decide +kernel
theorem dJ6_bitCount_0f7a4_36 : decode cJ6_bitCount_0f7a4 36 = .ok (.bipush 8, 2) := by decide +kernel
theorem dJ6_bitCount_0f7a4_38 : decode cJ6_bitCount_0f7a4 38 = .ok (.iushr, 1) := by decide +kernel
theorem dJ6_bitCount_0f7a4_39 : decode cJ6_bitCount_0f7a4 39 = .ok (.iadd, 1) := by decide +kernel
theorem dJ6_bitCount_0f7a4_40 : decode cJ6_bitCount_0f7a4 40 = .ok (.istore_n 0, 1) := by decide +kernel
theorem dJ6_bitCount_0f7a4_41 : decode cJ6_bitCount_0f7a4 41 = .ok (.iload_n 0, 1) := by decide +kernel
theorem dJ6_bitCount_0f7a4_42 : decode cJ6_bitCount_0f7a4 42 = .ok (.iload_n 0, 1) := by decide +kernel
theorem dJ6_bitCount_0f7a4_43 : decode cJ6_bitCount_0f7a4 43 = .ok (.bipush 16, 2) := by decide +kernel
theorem dJ6_bitCount_0f7a4_45 : decode cJ6_bitCount_0f7a4 45 = .ok (.iushr, 1) := by decide +kernel
theorem dJ6_bitCount_0f7a4_46 : decode cJ6_bitCount_0f7a4 46 = .ok (.iadd, 1) := by decide +kernel
theorem dJ6_bitCount_0f7a4_47 : decode cJ6_bitCount_0f7a4 47 = .ok (.istore_n 0, 1) := by decide +kernel
theorem dJ6_bitCount_0f7a4_48 : decode cJ6_bitCount_0f7a4 48 = .ok (.iload_n 0, 1) := by decide +kernel
theorem dJ6_bitCount_0f7a4_49 : decode cJ6_bitCount_0f7a4 49 = .ok (.bipush 63, 2) := by decide +kernel
theorem dJ6_bitCount_0f7a4_51 : decode cJ6_bitCount_0f7a4 51 = .ok (.iand, 1) := by decide +kernel
theorem dJ6_bitCount_0f7a4_52 : decode cJ6_bitCount_0f7a4 52 = .ok (.ireturn, 1) := by decide +kernel
theorem dJ9_abs_0f7a4_0 : decode cJ9_abs_0f7a4 0 = .ok (.iload_n 0, 1) := by decide +kernel
theorem dJ9_abs_0f7a4_1 : decode cJ9_abs_0f7a4 1 = .ok (.ifCond .ge 8, 3) := by decide +kernel
theorem dJ9_abs_0f7a4_4 : decode cJ9_abs_0f7a4 4 = .ok (.iload_n 0, 1) := by decide +kernel
theorem dJ9_abs_0f7a4_5 : decode cJ9_abs_0f7a4 5 = .ok (.ineg, 1) := by decide +kernel
theorem dJ9_abs_0f7a4_6 : decode cJ9_abs_0f7a4 6 = .ok (.goto 4, 3) := by decide +kernel
theorem dJ9_abs_0f7a4_9 : decode cJ9_abs_0f7a4 9 = .ok (.iload_n 0, 1) := by decide +kernel
theorem dJ9_abs_0f7a4_10 : decode cJ9_abs_0f7a4 10 = .ok (.ireturn, 1) := by decide +kernel
theorem dJ9_max_7cf53_0 : decode cJ9_max_7cf53 0 = .ok (.iload_n 0, 1) := by decide +kernel
theorem dJ9_max_7cf53_1 : decode cJ9_max_7cf53 1 = .ok (.iload_n 1, 1) := by decide +kernel
theorem dJ9_max_7cf53_2 : decode cJ9_max_7cf53 2 = .ok (.if_icmp .lt 7, 3) := by decide +kernel
theorem dJ9_max_7cf53_5 : decode cJ9_max_7cf53 5 = .ok (.iload_n 0, 1) := by decide +kernel
theorem dJ9_max_7cf53_6 : decode cJ9_max_7cf53 6 = .ok (.goto 4, 3) := by decide +kernel
theorem dJ9_max_7cf53_9 : decode cJ9_max_7cf53 9 = .ok (.iload_n 1, 1) := by decide +kernel
theorem dJ9_max_7cf53_10 : decode cJ9_max_7cf53 10 = .ok (.ireturn, 1) := by decide +kernel
theorem dJ9_min_7cf53_0 : decode cJ9_min_7cf53 0 = .ok (.iload_n 0, 1) := by decide +kernel
theorem dJ9_min_7cf53_1 : decode cJ9_min_7cf53 1 = .ok (.iload_n 1, 1) := by decide +kernel
theorem dJ9_min_7cf53_2 : decode cJ9_min_7cf53 2 = .ok (.if_icmp .gt 7, 3) := by decide +kernel
theorem dJ9_min_7cf53_5 : decode cJ9_min_7cf53 5 = .ok (.iload_n 0, 1) := by decide +kernel
theorem dJ9_min_7cf53_6 : decode cJ9_min_7cf53 6 = .ok (.goto 4, 3) := by decide +kernel
theorem dJ9_min_7cf53_9 : decode cJ9_min_7cf53 9 = .ok (.iload_n 1, 1) := by decide +kernel
theorem dJ9_min_7cf53_10 : decode cJ9_min_7cf53 10 = .ok (.ireturn, 1) := by decide +kernel
theorem dJ0_init_81219_0 : decode cJ0_init_81219 0 = .ok (.aload_n 0, 1) := by decide +kernel
theorem dJ0_init_81219_1 : decode cJ0_init_81219 1 = .ok (.aload_n 1, 1) := by decide +kernel
theorem dJ0_init_81219_2 : decode cJ0_init_81219 2 = .ok (.aconst_null, 1) := by decide +kernel
theorem dJ0_init_81219_3 : decode cJ0_init_81219 3 = .ok (.invokespecial 489, 3) := by decide +kernel
theorem dJ0_init_81219_6 : decode cJ0_init_81219 6 = .ok (.return_, 1) := by decide +kernel
theorem dJ0_length_8abf5_0 : decode cJ0_length_8abf5 0 = .ok (.aload_n 0, 1) := by decide +kernel
theorem dJ0_length_8abf5_1 : decode cJ0_length_8abf5 1 = .ok (.getfield 9, 3) := by decide +kernel
theorem dJ0_length_8abf5_4 : decode cJ0_length_8abf5 4 = .ok (.arraylength, 1) := by decide +kernel
theorem dJ0_length_8abf5_5 : decode cJ0_length_8abf5 5 = .ok (.aload_n 0, 1) := by decide +kernel
theorem dJ0_length_8abf5_6 : decode cJ0_length_8abf5 6 = .ok (.invokevirtual 335, 3) := by decide +kernel
theorem dJ0_length_8abf5_9 : decode cJ0_length_8abf5 9 = .ok (.ishr, 1) := by decide +kernel
theorem dJ0_length_8abf5_10 : decode cJ0_length_8abf5 10 = .ok (.ireturn, 1) := by decide +kernel
theorem dJ0_charAt_5068e_0 : decode cJ0_charAt_5068e 0 = .ok (.aload_n 0, 1) := by decide +kernel
theorem dJ0_charAt_5068e_1 : decode cJ0_charAt_5068e 1 = .ok (.invokevirtual 492, 3) := by decide +kernel
theorem dJ0_charAt_5068e_4 : decode cJ0_charAt_5068e 4 = .ok (.ifCond .eq 12, 3) := by decide +kernel
theorem dJ0_charAt_5068e_7 : decode cJ0_charAt_5068e 7 = .ok (.aload_n 0, 1) := by decide +kernel
theorem dJ0_charAt_5068e_8 : decode cJ0_charAt_5068e 8 = .ok (.getfield 9, 3) := by decide +kernel
theorem dJ0_charAt_5068e_11 : decode cJ0_charAt_5068e 11 = .ok (.iload_n 1, 1) := by decide +kernel
theorem dJ0_charAt_5068e_12 : decode cJ0_charAt_5068e 12 = .ok (.invokestatic 495, 3) := by decide +kernel
theorem dJ0_charAt_5068e_15 : decode cJ0_charAt_5068e 15 = .ok (.ireturn, 1) := by decide +kernel
theorem dJ0_charAt_5068e_16 : decode cJ0_charAt_5068e 16 = .ok (.aload_n 0, 1) := by decide +kernel
theorem dJ0_charAt_5068e_17 : decode cJ0_charAt_5068e 17 = .ok (.getfield 9, 3) := by decide +kernel
theorem dJ0_charAt_5068e_20 : decode cJ0_charAt_5068e 20 = .ok (.iload_n 1, 1) := by decide +kernel
theorem dJ0_charAt_5068e_21 : decode cJ0_charAt_5068e 21 = .ok (.invokestatic 498, 3) := by decide +kernel
theorem dJ0_charAt_5068e_24 : decode cJ0_charAt_5068e 24 = .ok (.ireturn, 1) := by decide +kernel
theorem dJ0_getBytes_840e7_0 : decode cJ0_getBytes_840e7 0 = .ok (.aload_n 0, 1) := by decide +kernel
theorem dJ0_getBytes_840e7_1 : decode cJ0_getBytes_840e7 1 = .ok (.invokevirtual 335, 3) := by decide +kernel
theorem dJ0_getBytes_840e7_4 : decode cJ0_getBytes_840e7 4 = .ok (.iload_n 3, 1) := by decide +kernel
theorem dJ0_getBytes_840e7_5 : decode cJ0_getBytes_840e7 5 = .ok (.if_icmp .ne 23, 3) := by decide +kernel
theorem dJ0_getBytes_840e7_8 : decode cJ0_getBytes_840e7 8 = .ok (.aload_n 0, 1) := by decide +kernel
theorem dJ0_getBytes_840e7_9 : decode cJ0_getBytes_840e7 9 = .ok (.getfield 9, 3) := by decide +kernel
theorem dJ0_getBytes_840e7_12 : decode cJ0_getBytes_840e7 12 = .ok (.iconst 0, 1) := by decide +kernel
theorem dJ0_getBytes_840e7_13 : decode cJ0_getBytes_840e7 13 = .ok (.aload_n 1, 1) := by decide +kernel
theorem dJ0_getBytes_840e7_14 : decode cJ0_getBytes_840e7 14 = .ok (.iload_n 2, 1) := by decide +kernel
theorem dJ0_getBytes_840e7_15 : decode cJ0_getBytes_840e7 15 = .ok (.iload_n 3, 1) := by decide +kernel
theorem dJ0_getBytes_840e7_16 : decode cJ0_getBytes_840e7 16 = .ok (.ishl, 1) := by decide +kernel
theorem dJ0_getBytes_840e7_17 : decode cJ0_getBytes_840e7 17 = .ok (.aload_n 0, 1) := by decide +kernel
theorem dJ0_getBytes_840e7_18 : decode cJ0_getBytes_840e7 18 = .ok (.getfield 9, 3) := by decide +kernel
theorem dJ0_getBytes_840e7_21 : decode cJ0_getBytes_840e7 21 = .ok (.arraylength, 1) := by decide +kernel
theorem dJ0_getBytes_840e7_22 : decode cJ0_getBytes_840e7 22 = .ok (.invokestatic 212, 3) := by decide +kernel
theorem dJ0_getBytes_840e7_25 : decode cJ0_getBytes_840e7 25 = .ok (.goto 18, 3) := by decide +kernel
theorem dJ0_getBytes_840e7_28 : decode cJ0_getBytes_840e7 28 = .ok (.aload_n 0, 1) := by decide +kernel
theorem dJ0_getBytes_840e7_29 : decode cJ0_getBytes_840e7 29 = .ok (.getfield 9, 3) := by decide +kernel
theorem dJ0_getBytes_840e7_32 : decode cJ0_getBytes_840e7 32 = .ok (.iconst 0, 1) := by decide +kernel
theorem dJ0_getBytes_840e7_33 : decode cJ0_getBytes_840e7 33 = .ok (.aload_n 1, 1) := by decide +kernel
theorem dJ0_getBytes_840e7_34 : decode cJ0_getBytes_840e7 34 = .ok (.iload_n 2, 1) := by decide +kernel
theorem dJ0_getBytes_840e7_35 : decode cJ0_getBytes_840e7 35 = .ok (.aload_n 0, 1) := by decide +kernel
theorem dJ0_getBytes_840e7_36 : decode cJ0_getBytes_840e7 36 = .ok (.getfield 9, 3) := by decide +kernel
theorem dJ0_getBytes_840e7_39 : decode cJ0_getBytes_840e7 39 = .ok (.arraylength, 1) := by decide +kernel
theorem dJ0_getBytes_840e7_40 : decode cJ0_getBytes_840e7 40 = .ok (.invokestatic 106, 3) := by decide +kernel
theorem dJ0_getBytes_840e7_43 : decode cJ0_getBytes_840e7 43 = .ok (.return_, 1) := by decide +kernel
theorem dJ0_init_db425_0 : decode cJ0_init_db425 0 = .ok (.aload_n 0, 1) := by decide +kernel
theorem dJ0_init_db425_1 : decode cJ0_init_db425 1 = .ok (.invokespecial 1, 3) := by decide +kernel
theorem dJ0_init_db425_4 : decode cJ0_init_db425 4 = .ok (.aload_n 1, 1) := by decide +kernel
theorem dJ0_init_db425_5 : decode cJ0_init_db425 5 = .ok (.invokevirtual 552, 3) := by decide +kernel
theorem dJ0_init_db425_8 : decode cJ0_init_db425 8 = .ok (.astore_n 3, 1) := by decide +kernel
theorem dJ0_init_db425_9 : decode cJ0_init_db425 9 = .ok (.aload_n 1, 1) := by decide +kernel
theorem dJ0_init_db425_10 : decode cJ0_init_db425 10 = .ok (.invokevirtual 549, 3) := by decide +kernel
theorem dJ0_init_db425_13 : decode cJ0_init_db425 13 = .ok (.istore 4, 2) := by decide +kernel
theorem dJ0_init_db425_15 : decode cJ0_init_db425 15 = .ok (.aload_n 1, 1) := by decide +kernel
theorem dJ0_init_db425_16 : decode cJ0_init_db425 16 = .ok (.invokevirtual 1047, 3) := by decide +kernel
theorem dJ0_init_db425_19 : decode cJ0_init_db425 19 = .ok (.ifCond .eq 22, 3) := by decide +kernel
theorem dJ0_init_db425_22 : decode cJ0_init_db425 22 = .ok (.aload_n 0, 1) := by decide +kernel
theorem dJ0_init_db425_23 : decode cJ0_init_db425 23 = .ok (.iconst 0, 1) := by decide +kernel
theorem dJ0_init_db425_24 : decode cJ0_init_db425 24 = .ok (.putfield 15, 3) := by decide +kernel
theorem dJ0_init_db425_27 : decode cJ0_init_db425 27 = .ok (.aload_n 0, 1) := by decide +kernel
theorem dJ0_init_db425_28 : decode cJ0_init_db425 28 = .ok (.aload_n 3, 1) := by decide +kernel
theorem dJ0_init_db425_29 : decode cJ0_init_db425 29 = .ok (.iconst 0, 1) := by decide +kernel
theorem dJ0_init_db425_30 : decode cJ0_init_db425 30 = .ok (.iload 4, 2) := by decide +kernel
theorem dJ0_init_db425_32 : decode cJ0_init_db425 32 = .ok (.invokestatic 54, 3) := by decide +kernel
theorem dJ0_init_db425_35 : decode cJ0_init_db425 35 = .ok (.putfield 9, 3) := by decide +kernel
theorem dJ0_init_db425_38 : decode cJ0_init_db425 38 = .ok (.goto 59, 3) := by decide +kernel
theorem dJ0_init_db425_41 : decode cJ0_init_db425 41 = .ok (.getstatic 38, 3) := by decide +kernel
theorem dJ0_init_db425_44 : decode cJ0_init_db425 44 = .ok (.ifCond .eq 35, 3) := by decide +kernel
theorem dJ0_init_db425_47 : decode cJ0_init_db425 47 = .ok (.aload_n 1, 1) := by decide +kernel
theorem dJ0_init_db425_48 : decode cJ0_init_db425 48 = .ok (.getfield 1048, 3) := by decide +kernel
theorem dJ0_init_db425_51 : decode cJ0_init_db425 51 = .ok (.ifCond .eq 28, 3) := by decide +kernel
theorem dJ0_init_db425_54 : decode cJ0_init_db425 54 = .ok (.aload_n 0, 1) := by decide +kernel
theorem dJ0_init_db425_55 : decode cJ0_init_db425 55 = .ok (.aload_n 3, 1) := by decide +kernel
theorem dJ0_init_db425_56 : decode cJ0_init_db425 56 = .ok (.iconst 0, 1) := by decide +kernel
theorem dJ0_init_db425_57 : decode cJ0_init_db425 57 = .ok (.iload 4, 2) := by decide +kernel
theorem dJ0_init_db425_59 : decode cJ0_init_db425 59 = .ok (.invokestatic 1051, 3) := by decide +kernel
theorem dJ0_init_db425_62 : decode cJ0_init_db425 62 = .ok (.putfield 9, 3) := by decide +kernel
theorem dJ0_init_db425_65 : decode cJ0_init_db425 65 = .ok (.aload_n 0, 1) := by decide +kernel
theorem dJ0_init_db425_66 : decode cJ0_init_db425 66 = .ok (.aload_n 0, 1) := by decide +kernel
theorem dJ0_init_db425_67 : decode cJ0_init_db425 67 = .ok (.getfield 9, 3) := by decide +kernel
theorem dJ0_init_db425_70 : decode cJ0_init_db425 70 = .ok (.iload 4, 2) := by decide +kernel
theorem dJ0_init_db425_72 : decode cJ0_init_db425 72 = .ok (.invokestatic 47, 3) := by decide +kernel
theorem dJ0_init_db425_75 : decode cJ0_init_db425 75 = .ok (.putfield 15, 3) := by decide +kernel
theorem dJ0_init_db425_78 : decode cJ0_init_db425 78 = .ok (.return_, 1) := by decide +kernel
theorem dJ0_init_db425_79 : decode cJ0_init_db425 79 = .ok (.aload_n 0, 1) := by decide +kernel
theorem dJ0_init_db425_80 : decode cJ0_init_db425 80 = .ok (.iconst 1, 1) := by decide +kernel
theorem dJ0_init_db425_81 : decode cJ0_init_db425 81 = .ok (.putfield 15, 3) := by decide +kernel
theorem dJ0_init_db425_84 : decode cJ0_init_db425 84 = .ok (.aload_n 0, 1) := by decide +kernel
theorem dJ0_init_db425_85 : decode cJ0_init_db425 85 = .ok (.aload_n 3, 1) := by decide +kernel
theorem dJ0_init_db425_86 : decode cJ0_init_db425 86 = .ok (.iconst 0, 1) := by decide +kernel
theorem dJ0_init_db425_87 : decode cJ0_init_db425 87 = .ok (.iload 4, 2) := by decide +kernel
theorem dJ0_init_db425_89 : decode cJ0_init_db425 89 = .ok (.iconst 1, 1) := by decide +kernel
theorem dJ0_init_db425_90 : decode cJ0_init_db425 90 = .ok (.ishl, 1) := by decide +kernel
theorem dJ0_init_db425_91 : decode cJ0_init_db425 91 = .ok (.invokestatic 54, 3) := by decide +kernel
theorem dJ0_init_db425_94 : decode cJ0_init_db425 94 = .ok (.putfield 9, 3) := by decide +kernel
theorem dJ0_init_db425_97 : decode cJ0_init_db425 97 = .ok (.return_, 1) := by decide +kernel
theorem dJ0_coder_7d493_0 : decode cJ0_coder_7d493 0 = .ok (.getstatic 38, 3) := by decide +kernel
theorem dJ0_coder_7d493_3 : decode cJ0_coder_7d493 3 = .ok (.ifCond .eq 10, 3) := by decide +kernel
theorem dJ0_coder_7d493_6 : decode cJ0_coder_7d493 6 = .ok (.aload_n 0, 1) := by decide +kernel
theorem dJ0_coder_7d493_7 : decode cJ0_coder_7d493 7 = .ok (.getfield 15, 3) := by decide +kernel
theorem dJ0_coder_7d493_10 : decode cJ0_coder_7d493 10 = .ok (.goto 4, 3) := by decide +kernel
theorem dJ0_coder_7d493_13 : decode cJ0_coder_7d493 13 = .ok (.iconst 1, 1) := by decide +kernel
theorem dJ0_coder_7d493_14 : decode cJ0_coder_7d493 14 = .ok (.ireturn, 1) := by decide +kernel
theorem dJ0_isLatin1_aae02_0 : decode cJ0_isLatin1_aae02 0 = .ok (.getstatic 38, 3) := by decide +kernel
theorem dJ0_isLatin1_aae02_3 : decode cJ0_isLatin1_aae02 3 = .ok (.ifCond .eq 14, 3) := by decide +kernel
theorem dJ0_isLatin1_aae02_6 : decode cJ0_isLatin1_aae02 6 = .ok (.aload_n 0, 1) := by decide +kernel
theorem dJ0_isLatin1_aae02_7 : decode cJ0_isLatin1_aae02 7 = .ok (.getfield 15, 3) := by decide +kernel
theorem dJ0_isLatin1_aae02_10 : decode cJ0_isLatin1_aae02 10 = .ok (.ifCond .ne 7, 3) := by decide +kernel
theorem dJ0_isLatin1_aae02_13 : decode cJ0_isLatin1_aae02 13 = .ok (.iconst 1, 1) := by decide +kernel
theorem dJ0_isLatin1_aae02_14 : decode cJ0_isLatin1_aae02 14 = .ok (.goto 4, 3) := by decide +kernel
theorem dJ0_isLatin1_aae02_17 : decode cJ0_isLatin1_aae02 17 = .ok (.iconst 0, 1) := by decide +kernel
theorem dJ0_isLatin1_aae02_18 : decode cJ0_isLatin1_aae02 18 = .ok (.ireturn, 1) := by decide +kernel
theorem dJ0_checkIndex_df160_0 : decode cJ0_checkIndex_df160 0 = .ok (.iload_n 0, 1) := by decide +kernel
theorem dJ0_checkIndex_df160_1 : decode cJ0_checkIndex_df160 1 = .ok (.iload_n 1, 1) := by decide +kernel
theorem dJ0_checkIndex_df160_2 : decode cJ0_checkIndex_df160 2 = .ok (.getstatic 1053, 3) := by decide +kernel
theorem dJ0_checkIndex_df160_5 : decode cJ0_checkIndex_df160 5 = .ok (.invokestatic 1059, 3) := by decide +kernel
theorem dJ0_checkIndex_df160_8 : decode cJ0_checkIndex_df160 8 = .ok (.pop, 1) := by decide +kernel
theorem dJ0_checkIndex_df160_9 : decode cJ0_checkIndex_df160 9 = .ok (.return_, 1) := by decide +kernel
theorem dJ0_checkBoundsOffCount_cabcc_0 : decode cJ0_checkBoundsOffCount_cabcc 0 = .ok (.iload_n 0, 1) := by decide +kernel
theorem dJ0_checkBoundsOffCount_cabcc_1 : decode cJ0_checkBoundsOffCount_cabcc 1 = .ok (.iload_n 1, 1) := by decide +kernel
theorem dJ0_checkBoundsOffCount_cabcc_2 : decode cJ0_checkBoundsOffCount_cabcc 2 = .ok (.iload_n 2, 1) := by decide +kernel
theorem dJ0_checkBoundsOffCount_cabcc_3 : decode cJ0_checkBoundsOffCount_cabcc 3 = .ok (.getstatic 1053, 3) := by decide +kernel
theorem dJ0_checkBoundsOffCount_cabcc_6 : decode cJ0_checkBoundsOffCount_cabcc 6 = .ok (.invokestatic 1065, 3) := by decide +kernel
theorem dJ0_checkBoundsOffCount_cabcc_9 : decode cJ0_checkBoundsOffCount_cabcc 9 = .ok (.ireturn, 1) := by decide +kernel
theorem dJ0_checkBoundsBeginEnd_23922_0 : decode cJ0_checkBoundsBeginEnd_23922 0 = .ok (.iload_n 0, 1) := by decide +kernel
theorem dJ0_checkBoundsBeginEnd_23922_1 : decode cJ0_checkBoundsBeginEnd_23922 1 = .ok (.iload_n 1, 1) := by decide +kernel
theorem dJ0_checkBoundsBeginEnd_23922_2 : decode cJ0_checkBoundsBeginEnd_23922 2 = .ok (.iload_n 2, 1) := by decide +kernel
theorem dJ0_checkBoundsBeginEnd_23922_3 : decode cJ0_checkBoundsBeginEnd_23922 3 = .ok (.getstatic 1053, 3) := by decide +kernel
theorem dJ0_checkBoundsBeginEnd_23922_6 : decode cJ0_checkBoundsBeginEnd_23922 6 = .ok (.invokestatic 1062, 3) := by decide +kernel
theorem dJ0_checkBoundsBeginEnd_23922_9 : decode cJ0_checkBoundsBeginEnd_23922 9 = .ok (.pop, 1) := by decide +kernel
theorem dJ0_checkBoundsBeginEnd_23922_10 : decode cJ0_checkBoundsBeginEnd_23922 10 = .ok (.return_, 1) := by decide +kernel
theorem dJ4_init_da8c8_0 : decode cJ4_init_da8c8 0 = .ok (.aload_n 0, 1) := by decide +kernel
theorem dJ4_init_da8c8_1 : decode cJ4_init_da8c8 1 = .ok (.bipush 16, 2) := by decide +kernel
theorem dJ4_init_da8c8_3 : decode cJ4_init_da8c8 3 = .ok (.invokespecial 1, 3) := by decide +kernel
theorem dJ4_init_da8c8_6 : decode cJ4_init_da8c8 6 = .ok (.return_, 1) := by decide +kernel
theorem dJ4_append_15ec4_0 : decode cJ4_append_15ec4 0 = .ok (.aload_n 0, 1) := by decide +kernel
theorem dJ4_append_15ec4_1 : decode cJ4_append_15ec4 1 = .ok (.aload_n 1, 1) := by decide +kernel
theorem dJ4_append_15ec4_2 : decode cJ4_append_15ec4 2 = .ok (.invokespecial 29, 3) := by decide +kernel
theorem dJ4_append_15ec4_5 : decode cJ4_append_15ec4 5 = .ok (.pop, 1) := by decide +kernel
theorem dJ4_append_15ec4_6 : decode cJ4_append_15ec4 6 = .ok (.aload_n 0, 1) := by decide +kernel
theorem dJ4_append_15ec4_7 : decode cJ4_append_15ec4 7 = .ok (.areturn, 1) := by decide +kernel
theorem dJ4_append_cf468_0 : decode cJ4_append_cf468 0 = .ok (.aload_n 0, 1) := by decide +kernel
theorem dJ4_append_cf468_1 : decode cJ4_append_cf468 1 = .ok (.iload_n 1, 1) := by decide +kernel
theorem dJ4_append_cf468_2 : decode cJ4_append_cf468 2 = .ok (.invokespecial 50, 3) := by decide +kernel
theorem dJ4_append_cf468_5 : decode cJ4_append_cf468 5 = .ok (.pop, 1) := by decide +kernel
theorem dJ4_append_cf468_6 : decode cJ4_append_cf468 6 = .ok (.aload_n 0, 1) := by decide +kernel
theorem dJ4_append_cf468_7 : decode cJ4_append_cf468 7 = .ok (.areturn, 1) := by decide +kernel
theorem dJ4_toString_0e30d_0 : decode cJ4_toString_0e30d 0 = .ok (.new 18, 3) := by decide +kernel
theorem dJ4_toString_0e30d_3 : decode cJ4_toString_0e30d 3 = .ok (.dup, 1) := by decide +kernel
theorem dJ4_toString_0e30d_4 : decode cJ4_toString_0e30d 4 = .ok (.aload_n 0, 1) := by decide +kernel
theorem dJ4_toString_0e30d_5 : decode cJ4_toString_0e30d 5 = .ok (.invokespecial 137, 3) := by decide +kernel
theorem dJ4_toString_0e30d_8 : decode cJ4_toString_0e30d 8 = .ok (.areturn, 1) := by decide +kernel
theorem dJ4_length_8abf5_0 : decode cJ4_length_8abf5 0 = .ok (.aload_n 0, 1) := by decide +kernel
theorem dJ4_length_8abf5_1 : decode cJ4_length_8abf5 1 = .ok (.invokespecial 343, 3) := by decide +kernel
theorem dJ4_length_8abf5_4 : decode cJ4_length_8abf5 4 = .ok (.ireturn, 1) := by decide +kernel
theorem dJ1_charAt_3b067_0 : decode cJ1_charAt_3b067 0 = .ok (.iload_n 1, 1) := by decide +kernel
theorem dJ1_charAt_3b067_1 : decode cJ1_charAt_3b067 1 = .ok (.aload_n 0, 1) := by decide +kernel
theorem dJ1_charAt_3b067_2 : decode cJ1_charAt_3b067 2 = .ok (.arraylength, 1) := by decide +kernel
theorem dJ1_charAt_3b067_3 : decode cJ1_charAt_3b067 3 = .ok (.invokestatic 9, 3) := by decide +kernel
theorem dJ1_charAt_3b067_6 : decode cJ1_charAt_3b067 6 = .ok (.aload_n 0, 1) := by decide +kernel
theorem dJ1_charAt_3b067_7 : decode cJ1_charAt_3b067 7 = .ok (.iload_n 1, 1) := by decide +kernel
theorem dJ1_charAt_3b067_8 : decode cJ1_charAt_3b067 8 = .ok (.baload, 1) := by decide +kernel
theorem dJ1_charAt_3b067_9 : decode cJ1_charAt_3b067 9 = .ok (.sipush 255, 3) := by decide +kernel
theorem dJ1_charAt_3b067_12 : decode cJ1_charAt_3b067 12 = .ok (.iand, 1) := by decide +kernel
theorem dJ1_charAt_3b067_13 : decode cJ1_charAt_3b067 13 = .ok (.i2c, 1) := by decide +kernel
theorem dJ1_charAt_3b067_14 : decode cJ1_charAt_3b067 14 = .ok (.ireturn, 1) := by decide +kernel
theorem dJ1_canEncode_fc78d_0 : decode cJ1_canEncode_fc78d 0 = .ok (.iload_n 0, 1) := by decide +kernel
theorem dJ1_canEncode_fc78d_1 : decode cJ1_canEncode_fc78d 1 = .ok (.sipush 255, 3) := by decide +kernel
theorem dJ1_canEncode_fc78d_4 : decode cJ1_canEncode_fc78d 4 = .ok (.if_icmp .gt 7, 3) := by decide +kernel
theorem dJ1_canEncode_fc78d_7 : decode cJ1_canEncode_fc78d 7 = .ok (.iconst 1, 1) := by decide +kernel
theorem dJ1_canEncode_fc78d_8 : decode cJ1_canEncode_fc78d 8 = .ok (.goto 4, 3) := by decide +kernel
theorem dJ1_canEncode_fc78d_11 : decode cJ1_canEncode_fc78d 11 = .ok (.iconst 0, 1) := by decide +kernel
theorem dJ1_canEncode_fc78d_12 : decode cJ1_canEncode_fc78d 12 = .ok (.ireturn, 1) := by decide +kernel
theorem dJ1_inflate_0e8fd_0 : decode cJ1_inflate_0e8fd 0 = .ok (.aload_n 0, 1) := by decide +kernel
theorem dJ1_inflate_0e8fd_1 : decode cJ1_inflate_0e8fd 1 = .ok (.iload_n 1, 1) := by decide +kernel
theorem dJ1_inflate_0e8fd_2 : decode cJ1_inflate_0e8fd 2 = .ok (.aload_n 2, 1) := by decide +kernel
theorem dJ1_inflate_0e8fd_3 : decode cJ1_inflate_0e8fd 3 = .ok (.iload_n 3, 1) := by decide +kernel
theorem dJ1_inflate_0e8fd_4 : decode cJ1_inflate_0e8fd 4 = .ok (.iload 4, 2) := by decide +kernel
theorem dJ1_inflate_0e8fd_6 : decode cJ1_inflate_0e8fd 6 = .ok (.invokestatic 240, 3) := by decide +kernel
theorem dJ1_inflate_0e8fd_9 : decode cJ1_inflate_0e8fd 9 = .ok (.return_, 1) := by decide +kernel
theorem dJ7_fill_53178_0 : decode cJ7_fill_53178 0 = .ok (.iconst 0, 1) := by decide +kernel
theorem dJ7_fill_53178_1 : decode cJ7_fill_53178 1 = .ok (.istore_n 2, 1) := by decide +kernel
theorem dJ7_fill_53178_2 : decode cJ7_fill_53178 2 = .ok (.aload_n 0, 1) := by decide +kernel
theorem dJ7_fill_53178_3 : decode cJ7_fill_53178 3 = .ok (.arraylength, 1) := by decide +kernel
theorem dJ7_fill_53178_4 : decode cJ7_fill_53178 4 = .ok (.istore_n 3, 1) := by decide +kernel
theorem dJ7_fill_53178_5 : decode cJ7_fill_53178 5 = .ok (.iload_n 2, 1) := by decide +kernel
theorem dJ7_fill_53178_6 : decode cJ7_fill_53178 6 = .ok (.iload_n 3, 1) := by decide +kernel
theorem dJ7_fill_53178_7 : decode cJ7_fill_53178 7 = .ok (.if_icmp .ge 13, 3) := by decide +kernel
theorem dJ7_fill_53178_10 : decode cJ7_fill_53178 10 = .ok (.aload_n 0, 1) := by decide +kernel
theorem dJ7_fill_53178_11 : decode cJ7_fill_53178 11 = .ok (.iload_n 2, 1) := by decide +kernel
theorem dJ7_fill_53178_12 : decode cJ7_fill_53178 12 = .ok (.iload_n 1, 1) := by decide +kernel
theorem dJ7_fill_53178_13 : decode cJ7_fill_53178 13 = .ok (.iastore, 1) := by decide +kernel
theorem dJ7_fill_53178_14 : decode cJ7_fill_53178 14 = .ok (.iinc 2 1, 3) := by decide +kernel
theorem dJ7_fill_53178_17 : decode cJ7_fill_53178 17 = .ok (.goto (-12), 3) := by decide +kernel
theorem dJ7_fill_53178_20 : decode cJ7_fill_53178 20 = .ok (.return_, 1) := by decide +kernel
theorem dJ7_copyOf_9075b_0 : decode cJ7_copyOf_9075b 0 = .ok (.iload_n 1, 1) := by decide +kernel
theorem dJ7_copyOf_9075b_1 : decode cJ7_copyOf_9075b 1 = .ok (.aload_n 0, 1) := by decide +kernel
theorem dJ7_copyOf_9075b_2 : decode cJ7_copyOf_9075b 2 = .ok (.arraylength, 1) := by decide +kernel
theorem dJ7_copyOf_9075b_3 : decode cJ7_copyOf_9075b 3 = .ok (.if_icmp .ne 11, 3) := by decide +kernel
theorem dJ7_copyOf_9075b_6 : decode cJ7_copyOf_9075b 6 = .ok (.aload_n 0, 1) := by decide +kernel
theorem dJ7_copyOf_9075b_7 : decode cJ7_copyOf_9075b 7 = .ok (.invokevirtual 310, 3) := by decide +kernel
theorem dJ7_copyOf_9075b_10 : decode cJ7_copyOf_9075b 10 = .ok (.checkcast 311, 3) := by decide +kernel
theorem dJ7_copyOf_9075b_13 : decode cJ7_copyOf_9075b 13 = .ok (.areturn, 1) := by decide +kernel
theorem dJ7_copyOf_9075b_14 : decode cJ7_copyOf_9075b 14 = .ok (.iload_n 1, 1) := by decide +kernel
theorem dJ7_copyOf_9075b_15 : decode cJ7_copyOf_9075b 15 = .ok (.newarray .byte, 2) := by decide +kernel
theorem dJ7_copyOf_9075b_17 : decode cJ7_copyOf_9075b 17 = .ok (.astore_n 2, 1) := by decide +kernel
theorem dJ7_copyOf_9075b_18 : decode cJ7_copyOf_9075b 18 = .ok (.aload_n 0, 1) := by decide +kernel
theorem dJ7_copyOf_9075b_19 : decode cJ7_copyOf_9075b 19 = .ok (.iconst 0, 1) := by decide +kernel
theorem dJ7_copyOf_9075b_20 : decode cJ7_copyOf_9075b 20 = .ok (.aload_n 2, 1) := by decide +kernel
theorem dJ7_copyOf_9075b_21 : decode cJ7_copyOf_9075b 21 = .ok (.iconst 0, 1) := by decide +kernel
theorem dJ7_copyOf_9075b_22 : decode cJ7_copyOf_9075b 22 = .ok (.aload_n 0, 1) := by decide +kernel
theorem dJ7_copyOf_9075b_23 : decode cJ7_copyOf_9075b 23 = .ok (.arraylength, 1) := by decide +kernel
theorem dJ7_copyOf_9075b_24 : decode cJ7_copyOf_9075b 24 = .ok (.iload_n 1, 1) := by decide +kernel
theorem dJ7_copyOf_9075b_25 : decode cJ7_copyOf_9075b 25 = .ok (.invokestatic 304, 3) := by decide +kernel
theorem dJ7_copyOf_9075b_28 : decode cJ7_copyOf_9075b 28 = .ok (.invokestatic 150, 3) := by decide +kernel
theorem dJ7_copyOf_9075b_31 : decode cJ7_copyOf_9075b 31 = .ok (.aload_n 2, 1) := by decide +kernel
theorem dJ7_copyOf_9075b_32 : decode cJ7_copyOf_9075b 32 = .ok (.areturn, 1) := by decide +kernel
theorem dJ7_checkLength_df160_0 : decode cJ7_checkLength_df160 0 = .ok (.iload_n 1, 1) := by decide +kernel
theorem dJ7_checkLength_df160_1 : decode cJ7_checkLength_df160 1 = .ok (.iload_n 0, 1) := by decide +kernel
theorem dJ7_checkLength_df160_2 : decode cJ7_checkLength_df160 2 = .ok (.if_icmp .ge 35, 3) := by decide +kernel
theorem dJ7_checkLength_df160_5 : decode cJ7_checkLength_df160 5 = .ok (.new 43, 3) := by decide +kernel
theorem dJ7_checkLength_df160_8 : decode cJ7_checkLength_df160 8 = .ok (.dup, 1) := by decide +kernel
theorem dJ7_checkLength_df160_9 : decode cJ7_checkLength_df160 9 = .ok (.new 45, 3) := by decide +kernel
theorem dJ7_checkLength_df160_12 : decode cJ7_checkLength_df160 12 = .ok (.dup, 1) := by decide +kernel
theorem dJ7_checkLength_df160_13 : decode cJ7_checkLength_df160 13 = .ok (.invokespecial 47, 3) := by decide +kernel
theorem dJ7_checkLength_df160_16 : decode cJ7_checkLength_df160 16 = .ok (.iload_n 0, 1) := by decide +kernel
theorem dJ7_checkLength_df160_17 : decode cJ7_checkLength_df160 17 = .ok (.invokevirtual 54, 3) := by decide +kernel
theorem dJ7_checkLength_df160_20 : decode cJ7_checkLength_df160 20 = .ok (.ldc_w 337, 3) := by decide +kernel
theorem dJ7_checkLength_df160_23 : decode cJ7_checkLength_df160 23 = .ok (.invokevirtual 50, 3) := by decide +kernel
theorem dJ7_checkLength_df160_26 : decode cJ7_checkLength_df160 26 = .ok (.iload_n 1, 1) := by decide +kernel
theorem dJ7_checkLength_df160_27 : decode cJ7_checkLength_df160 27 = .ok (.invokevirtual 54, 3) := by decide +kernel
theorem dJ7_checkLength_df160_30 : decode cJ7_checkLength_df160 30 = .ok (.invokevirtual 61, 3) := by decide +kernel
theorem dJ7_checkLength_df160_33 : decode cJ7_checkLength_df160 33 = .ok (.invokespecial 65, 3) := by decide +kernel
theorem dJ7_checkLength_df160_36 : decode cJ7_checkLength_df160 36 = .ok (.athrow, 1) := by decide +kernel
theorem dJ7_checkLength_df160_37 : decode cJ7_checkLength_df160 37 = .ok (.return_, 1) := by decide +kernel
theorem dJ7_copyOfRange_39247_0 : decode cJ7_copyOfRange_39247 0 = .ok (.iload_n 1, 1) := by decide +kernel
theorem dJ7_copyOfRange_39247_1 : decode cJ7_copyOfRange_39247 1 = .ok (.ifCond .ne 9, 3) := by decide +kernel
theorem dJ7_copyOfRange_39247_4 : decode cJ7_copyOfRange_39247 4 = .ok (.iload_n 2, 1) := by decide +kernel
theorem dJ7_copyOfRange_39247_5 : decode cJ7_copyOfRange_39247 5 = .ok (.aload_n 0, 1) := by decide +kernel
theorem dJ7_copyOfRange_39247_6 : decode cJ7_copyOfRange_39247 6 = .ok (.arraylength, 1) := by decide +kernel
theorem dJ7_copyOfRange_39247_7 : decode cJ7_copyOfRange_39247 7 = .ok (.if_icmp .eq 10, 3) := by decide +kernel
theorem dJ7_copyOfRange_39247_10 : decode cJ7_copyOfRange_39247 10 = .ok (.aload_n 0, 1) := by decide +kernel
theorem dJ7_copyOfRange_39247_11 : decode cJ7_copyOfRange_39247 11 = .ok (.iload_n 1, 1) := by decide +kernel
theorem dJ7_copyOfRange_39247_12 : decode cJ7_copyOfRange_39247 12 = .ok (.iload_n 2, 1) := by decide +kernel
theorem dJ7_copyOfRange_39247_13 : decode cJ7_copyOfRange_39247 13 = .ok (.invokestatic 339, 3) := by decide +kernel
theorem dJ7_copyOfRange_39247_16 : decode cJ7_copyOfRange_39247 16 = .ok (.areturn, 1) := by decide +kernel
theorem dJ7_copyOfRange_39247_17 : decode cJ7_copyOfRange_39247 17 = .ok (.aload_n 0, 1) := by decide +kernel
theorem dJ7_copyOfRange_39247_18 : decode cJ7_copyOfRange_39247 18 = .ok (.invokevirtual 310, 3) := by decide +kernel
theorem dJ7_copyOfRange_39247_21 : decode cJ7_copyOfRange_39247 21 = .ok (.checkcast 311, 3) := by decide +kernel
theorem dJ7_copyOfRange_39247_24 : decode cJ7_copyOfRange_39247 24 = .ok (.areturn, 1) := by decide +kernel
theorem dJ7_copyOfRangeByte_39247_0 : decode cJ7_copyOfRangeByte_39247 0 = .ok (.iload_n 1, 1) := by decide +kernel
theorem dJ7_copyOfRangeByte_39247_1 : decode cJ7_copyOfRangeByte_39247 1 = .ok (.iload_n 2, 1) := by decide +kernel
theorem dJ7_copyOfRangeByte_39247_2 : decode cJ7_copyOfRangeByte_39247 2 = .ok (.invokestatic 343, 3) := by decide +kernel
theorem dJ7_copyOfRangeByte_39247_5 : decode cJ7_copyOfRangeByte_39247 5 = .ok (.iload_n 2, 1) := by decide +kernel
theorem dJ7_copyOfRangeByte_39247_6 : decode cJ7_copyOfRangeByte_39247 6 = .ok (.iload_n 1, 1) := by decide +kernel
theorem dJ7_copyOfRangeByte_39247_7 : decode cJ7_copyOfRangeByte_39247 7 = .ok (.isub, 1) := by decide +kernel
theorem dJ7_copyOfRangeByte_39247_8 : decode cJ7_copyOfRangeByte_39247 8 = .ok (.istore_n 3, 1) := by decide +kernel
theorem dJ7_copyOfRangeByte_39247_9 : decode cJ7_copyOfRangeByte_39247 9 = .ok (.iload_n 3, 1) := by decide +kernel
theorem dJ7_copyOfRangeByte_39247_10 : decode cJ7_copyOfRangeByte_39247 10 = .ok (.newarray .byte, 2) := by decide +kernel
theorem dJ7_copyOfRangeByte_39247_12 : decode cJ7_copyOfRangeByte_39247 12 = .ok (.astore 4, 2) := by decide +kernel
theorem dJ7_copyOfRangeByte_39247_14 : decode cJ7_copyOfRangeByte_39247 14 = .ok (.aload_n 0, 1) := by decide +kernel
theorem dJ7_copyOfRangeByte_39247_15 : decode cJ7_copyOfRangeByte_39247 15 = .ok (.iload_n 1, 1) := by decide +kernel
theorem dJ7_copyOfRangeByte_39247_16 : decode cJ7_copyOfRangeByte_39247 16 = .ok (.aload 4, 2) := by decide +kernel
theorem dJ7_copyOfRangeByte_39247_18 : decode cJ7_copyOfRangeByte_39247 18 = .ok (.iconst 0, 1) := by decide +kernel
theorem dJ7_copyOfRangeByte_39247_19 : decode cJ7_copyOfRangeByte_39247 19 = .ok (.aload_n 0, 1) := by decide +kernel
theorem dJ7_copyOfRangeByte_39247_20 : decode cJ7_copyOfRangeByte_39247 20 = .ok (.arraylength, 1) := by decide +kernel
theorem dJ7_copyOfRangeByte_39247_21 : decode cJ7_copyOfRangeByte_39247 21 = .ok (.iload_n 1, 1) := by decide +kernel
theorem dJ7_copyOfRangeByte_39247_22 : decode cJ7_copyOfRangeByte_39247 22 = .ok (.isub, 1) := by decide +kernel
theorem dJ7_copyOfRangeByte_39247_23 : decode cJ7_copyOfRangeByte_39247 23 = .ok (.iload_n 3, 1) := by decide +kernel
theorem dJ7_copyOfRangeByte_39247_24 : decode cJ7_copyOfRangeByte_39247 24 = .ok (.invokestatic 304, 3) := by decide +kernel
theorem dJ7_copyOfRangeByte_39247_27 : decode cJ7_copyOfRangeByte_39247 27 = .ok (.invokestatic 150, 3) := by decide +kernel
theorem dJ7_copyOfRangeByte_39247_30 : decode cJ7_copyOfRangeByte_39247 30 = .ok (.aload 4, 2) := by decide +kernel
theorem dJ7_copyOfRangeByte_39247_32 : decode cJ7_copyOfRangeByte_39247 32 = .ok (.areturn, 1) := by decide +kernel
theorem dJ3_checkIndex_8e157_0 : decode cJ3_checkIndex_8e157 0 = .ok (.iload_n 0, 1) := by decide +kernel
theorem dJ3_checkIndex_8e157_1 : decode cJ3_checkIndex_8e157 1 = .ok (.ifCond .lt 8, 3) := by decide +kernel
theorem dJ3_checkIndex_8e157_4 : decode cJ3_checkIndex_8e157 4 = .ok (.iload_n 0, 1) := by decide +kernel
theorem dJ3_checkIndex_8e157_5 : decode cJ3_checkIndex_8e157 5 = .ok (.iload_n 1, 1) := by decide +kernel
theorem dJ3_checkIndex_8e157_6 : decode cJ3_checkIndex_8e157 6 = .ok (.if_icmp .lt 10, 3) := by decide +kernel
theorem dJ3_checkIndex_8e157_9 : decode cJ3_checkIndex_8e157 9 = .ok (.aload_n 2, 1) := by decide +kernel
theorem dJ3_checkIndex_8e157_10 : decode cJ3_checkIndex_8e157 10 = .ok (.iload_n 0, 1) := by decide +kernel
theorem dJ3_checkIndex_8e157_11 : decode cJ3_checkIndex_8e157 11 = .ok (.iload_n 1, 1) := by decide +kernel
theorem dJ3_checkIndex_8e157_12 : decode cJ3_checkIndex_8e157 12 = .ok (.invokestatic 95, 3) := by decide +kernel
theorem dJ3_checkIndex_8e157_15 : decode cJ3_checkIndex_8e157 15 = .ok (.athrow, 1) := by decide +kernel
theorem dJ3_checkIndex_8e157_16 : decode cJ3_checkIndex_8e157 16 = .ok (.iload_n 0, 1) := by decide +kernel
theorem dJ3_checkIndex_8e157_17 : decode cJ3_checkIndex_8e157 17 = .ok (.ireturn, 1) := by decide +kernel
theorem dL_put_0 : decode cL_put 0 = .ok (.aload_n 1, 1) := by decide +kernel
theorem dL_put_1 : decode cL_put 1 = .ok (.iconst 1, 1) := by decide +kernel
theorem dL_put_2 : decode cL_put 2 = .ok (.aload_n 1, 1) := by decide +kernel
theorem dL_put_3 : decode cL_put 3 = .ok (.iconst 0, 1) := by decide +kernel
theorem dL_put_4 : decode cL_put 4 = .ok (.iaload, 1) := by decide +kernel
theorem dL_put_5 : decode cL_put 5 = .ok (.bipush 20, 2) := by decide +kernel
theorem dL_put_7 : decode cL_put 7 = .ok (.irem, 1) := by decide +kernel
theorem dL_put_8 : decode cL_put 8 = .ok (.iconst 4, 1) := by decide +kernel
theorem dL_put_9 : decode cL_put 9 = .ok (.idiv, 1) := by decide +kernel
theorem dL_put_10 : decode cL_put 10 = .ok (.iadd, 1) := by decide +kernel
theorem dL_put_11 : decode cL_put 11 = .ok (.dup2, 1) := by decide +kernel
theorem dL_put_12 : decode cL_put 12 = .ok (.iaload, 1) := by decide +kernel
theorem dL_put_13 : decode cL_put 13 = .ok (.iload_n 2, 1) := by decide +kernel
theorem dL_put_14 : decode cL_put 14 = .ok (.bipush 24, 2) := by decide +kernel
theorem dL_put_16 : decode cL_put 16 = .ok (.bipush 8, 2) := by decide +kernel
theorem dL_put_18 : decode cL_put 18 = .ok (.aload_n 1, 1) := by decide +kernel
theorem dL_put_19 : decode cL_put 19 = .ok (.iconst 0, 1) := by decide +kernel
theorem dL_put_20 : decode cL_put 20 = .ok (.iaload, 1) := by decide +kernel
theorem dL_put_21 : decode cL_put 21 = .ok (.iconst 4, 1) := by decide +kernel
theorem dL_put_22 : decode cL_put 22 = .ok (.irem, 1) := by decide +kernel
theorem dL_put_23 : decode cL_put 23 = .ok (.imul, 1) := by decide +kernel
theorem dL_put_24 : decode cL_put 24 = .ok (.isub, 1) := by decide +kernel
theorem dL_put_25 : decode cL_put 25 = .ok (.ishl, 1) := by decide +kernel
theorem dL_put_26 : decode cL_put 26 = .ok (.ior, 1) := by decide +kernel
theorem dL_put_27 : decode cL_put 27 = .ok (.iastore, 1) := by decide +kernel
theorem dL_put_28 : decode cL_put 28 = .ok (.aload_n 1, 1) := by decide +kernel
theorem dL_put_29 : decode cL_put 29 = .ok (.iconst 0, 1) := by decide +kernel
theorem dL_put_30 : decode cL_put 30 = .ok (.dup2, 1) := by decide +kernel
theorem dL_put_31 : decode cL_put 31 = .ok (.iaload, 1) := by decide +kernel
theorem dL_put_32 : decode cL_put 32 = .ok (.iconst 1, 1) := by decide +kernel
theorem dL_put_33 : decode cL_put 33 = .ok (.iadd, 1) := by decide +kernel
theorem dL_put_34 : decode cL_put 34 = .ok (.iastore, 1) := by decide +kernel
theorem dL_put_35 : decode cL_put 35 = .ok (.aload_n 1, 1) := by decide +kernel
theorem dL_put_36 : decode cL_put 36 = .ok (.iconst 0, 1) := by decide +kernel
theorem dL_put_37 : decode cL_put 37 = .ok (.iaload, 1) := by decide +kernel
theorem dL_put_38 : decode cL_put 38 = .ok (.bipush 20, 2) := by decide +kernel
theorem dL_put_40 : decode cL_put 40 = .ok (.irem, 1) := by decide +kernel
theorem dL_put_41 : decode cL_put 41 = .ok (.ifCond .ne 8, 3) := by decide +kernel
theorem dL_put_44 : decode cL_put 44 = .ok (.aload_n 0, 1) := by decide +kernel
theorem dL_put_45 : decode cL_put 45 = .ok (.aload_n 1, 1) := by decide +kernel
theorem dL_put_46 : decode cL_put 46 = .ok (.invokestatic 7, 3) := by decide +kernel
theorem dL_put_49 : decode cL_put 49 = .ok (.return_, 1) := by decide +kernel
theorem dL_flush_0 : decode cL_flush 0 = .ok (.aload_n 0, 1) := by decide +kernel
theorem dL_flush_1 : decode cL_flush 1 = .ok (.aload_n 1, 1) := by decide +kernel
theorem dL_flush_2 : decode cL_flush 2 = .ok (.iconst 1, 1) := by decide +kernel
theorem dL_flush_3 : decode cL_flush 3 = .ok (.iaload, 1) := by decide +kernel
theorem dL_flush_4 : decode cL_flush 4 = .ok (.aload_n 1, 1) := by decide +kernel
theorem dL_flush_5 : decode cL_flush 5 = .ok (.iconst 2, 1) := by decide +kernel
theorem dL_flush_6 : decode cL_flush 6 = .ok (.iaload, 1) := by decide +kernel
theorem dL_flush_7 : decode cL_flush 7 = .ok (.aload_n 1, 1) := by decide +kernel
theorem dL_flush_8 : decode cL_flush 8 = .ok (.iconst 3, 1) := by decide +kernel
theorem dL_flush_9 : decode cL_flush 9 = .ok (.iaload, 1) := by decide +kernel
theorem dL_flush_10 : decode cL_flush 10 = .ok (.aload_n 1, 1) := by decide +kernel
theorem dL_flush_11 : decode cL_flush 11 = .ok (.iconst 4, 1) := by decide +kernel
theorem dL_flush_12 : decode cL_flush 12 = .ok (.iaload, 1) := by decide +kernel
theorem dL_flush_13 : decode cL_flush 13 = .ok (.aload_n 1, 1) := by decide +kernel
theorem dL_flush_14 : decode cL_flush 14 = .ok (.iconst 5, 1) := by decide +kernel
theorem dL_flush_15 : decode cL_flush 15 = .ok (.iaload, 1) := by decide +kernel
theorem dL_flush_16 : decode cL_flush 16 = .ok (.invokevirtual 13, 3) := by decide +kernel
theorem dL_flush_19 : decode cL_flush 19 = .ok (.pop, 1) := by decide +kernel
theorem dL_flush_20 : decode cL_flush 20 = .ok (.iconst 1, 1) := by decide +kernel
theorem dL_flush_21 : decode cL_flush 21 = .ok (.istore_n 2, 1) := by decide +kernel
theorem dL_flush_22 : decode cL_flush 22 = .ok (.iload_n 2, 1) := by decide +kernel
theorem dL_flush_23 : decode cL_flush 23 = .ok (.bipush 6, 2) := by decide +kernel
theorem dL_flush_25 : decode cL_flush 25 = .ok (.if_icmp .ge 13, 3) := by decide +kernel
theorem dL_flush_28 : decode cL_flush 28 = .ok (.aload_n 1, 1) := by decide +kernel
theorem dL_flush_29 : decode cL_flush 29 = .ok (.iload_n 2, 1) := by decide +kernel
theorem dL_flush_30 : decode cL_flush 30 = .ok (.iconst 0, 1) := by decide +kernel
theorem dL_flush_31 : decode cL_flush 31 = .ok (.iastore, 1) := by decide +kernel
theorem dL_flush_32 : decode cL_flush 32 = .ok (.iinc 2 1, 3) := by decide +kernel
theorem dL_flush_35 : decode cL_flush 35 = .ok (.goto (-13), 3) := by decide +kernel
theorem dL_flush_38 : decode cL_flush 38 = .ok (.return_, 1) := by decide +kernel
theorem dL_loadText_0 : decode cL_loadText 0 = .ok (.aload_n 1, 1) := by decide +kernel
theorem dL_loadText_1 : decode cL_loadText 1 = .ok (.iconst 0, 1) := by decide +kernel
theorem dL_loadText_2 : decode cL_loadText 2 = .ok (.iaload, 1) := by decide +kernel
theorem dL_loadText_3 : decode cL_loadText 3 = .ok (.istore_n 2, 1) := by decide +kernel
theorem dL_loadText_4 : decode cL_loadText 4 = .ok (.iload_n 2, 1) := by decide +kernel
theorem dL_loadText_5 : decode cL_loadText 5 = .ok (.bipush 20, 2) := by decide +kernel
theorem dL_loadText_7 : decode cL_loadText 7 = .ok (.irem, 1) := by decide +kernel
theorem dL_loadText_8 : decode cL_loadText 8 = .ok (.ifCond .le 8, 3) := by decide +kernel
theorem dL_loadText_11 : decode cL_loadText 11 = .ok (.aload_n 0, 1) := by decide +kernel
theorem dL_loadText_12 : decode cL_loadText 12 = .ok (.aload_n 1, 1) := by decide +kernel
theorem dL_loadText_13 : decode cL_loadText 13 = .ok (.invokestatic 7, 3) := by decide +kernel
theorem dL_loadText_16 : decode cL_loadText 16 = .ok (.aload_n 1, 1) := by decide +kernel
theorem dL_loadText_17 : decode cL_loadText 17 = .ok (.iconst 0, 1) := by decide +kernel
theorem dL_loadText_18 : decode cL_loadText 18 = .ok (.iconst 0, 1) := by decide +kernel
theorem dL_loadText_19 : decode cL_loadText 19 = .ok (.iastore, 1) := by decide +kernel
theorem dL_loadText_20 : decode cL_loadText 20 = .ok (.aload_n 0, 1) := by decide +kernel
theorem dL_loadText_21 : decode cL_loadText 21 = .ok (.iload_n 2, 1) := by decide +kernel
theorem dL_loadText_22 : decode cL_loadText 22 = .ok (.invokestatic 19, 3) := by decide +kernel
theorem dL_loadText_25 : decode cL_loadText 25 = .ok (.ireturn, 1) := by decide +kernel
theorem dL_write_0 : decode cL_write 0 = .ok (.iconst 0, 1) := by decide +kernel
theorem dL_write_1 : decode cL_write 1 = .ok (.istore_n 3, 1) := by decide +kernel
theorem dL_write_2 : decode cL_write 2 = .ok (.iload_n 3, 1) := by decide +kernel
theorem dL_write_3 : decode cL_write 3 = .ok (.aload_n 2, 1) := by decide +kernel
theorem dL_write_4 : decode cL_write 4 = .ok (.invokevirtual 23, 3) := by decide +kernel
theorem dL_write_7 : decode cL_write 7 = .ok (.if_icmp .ge 19, 3) := by decide +kernel
theorem dL_write_10 : decode cL_write 10 = .ok (.aload_n 0, 1) := by decide +kernel
theorem dL_write_11 : decode cL_write 11 = .ok (.aload_n 1, 1) := by decide +kernel
theorem dL_write_12 : decode cL_write 12 = .ok (.aload_n 2, 1) := by decide +kernel
theorem dL_write_13 : decode cL_write 13 = .ok (.iload_n 3, 1) := by decide +kernel
theorem dL_write_14 : decode cL_write 14 = .ok (.invokevirtual 29, 3) := by decide +kernel
theorem dL_write_17 : decode cL_write 17 = .ok (.invokestatic 33, 3) := by decide +kernel
theorem dL_write_20 : decode cL_write 20 = .ok (.iinc 3 1, 3) := by decide +kernel
theorem dL_write_23 : decode cL_write 23 = .ok (.goto (-21), 3) := by decide +kernel
theorem dL_write_26 : decode cL_write 26 = .ok (.return_, 1) := by decide +kernel
theorem dL_writeNumber_0 : decode cL_writeNumber 0 = .ok (.iconst 1, 1) := by decide +kernel
theorem dL_writeNumber_1 : decode cL_writeNumber 1 = .ok (.istore_n 3, 1) := by decide +kernel
theorem dL_writeNumber_2 : decode cL_writeNumber 2 = .ok (.iload_n 3, 1) := by decide +kernel
theorem dL_writeNumber_3 : decode cL_writeNumber 3 = .ok (.iload_n 2, 1) := by decide +kernel
theorem dL_writeNumber_4 : decode cL_writeNumber 4 = .ok (.bipush 10, 2) := by decide +kernel
theorem dL_writeNumber_6 : decode cL_writeNumber 6 = .ok (.idiv, 1) := by decide +kernel
theorem dL_writeNumber_7 : decode cL_writeNumber 7 = .ok (.if_icmp .gt 11, 3) := by decide +kernel
theorem dL_writeNumber_10 : decode cL_writeNumber 10 = .ok (.iload_n 3, 1) := by decide +kernel
theorem dL_writeNumber_11 : decode cL_writeNumber 11 = .ok (.bipush 10, 2) := by decide +kernel
theorem dL_writeNumber_13 : decode cL_writeNumber 13 = .ok (.imul, 1) := by decide +kernel
theorem dL_writeNumber_14 : decode cL_writeNumber 14 = .ok (.istore_n 3, 1) := by decide +kernel
theorem dL_writeNumber_15 : decode cL_writeNumber 15 = .ok (.goto (-13), 3) := by decide +kernel
theorem dL_writeNumber_18 : decode cL_writeNumber 18 = .ok (.iload_n 3, 1) := by decide +kernel
theorem dL_writeNumber_19 : decode cL_writeNumber 19 = .ok (.ifCond .le 25, 3) := by decide +kernel
theorem dL_writeNumber_22 : decode cL_writeNumber 22 = .ok (.aload_n 0, 1) := by decide +kernel
theorem dL_writeNumber_23 : decode cL_writeNumber 23 = .ok (.aload_n 1, 1) := by decide +kernel
theorem dL_writeNumber_24 : decode cL_writeNumber 24 = .ok (.bipush 48, 2) := by decide +kernel
theorem dL_writeNumber_26 : decode cL_writeNumber 26 = .ok (.iload_n 2, 1) := by decide +kernel
theorem dL_writeNumber_27 : decode cL_writeNumber 27 = .ok (.iload_n 3, 1) := by decide +kernel
theorem dL_writeNumber_28 : decode cL_writeNumber 28 = .ok (.idiv, 1) := by decide +kernel
theorem dL_writeNumber_29 : decode cL_writeNumber 29 = .ok (.bipush 10, 2) := by decide +kernel
theorem dL_writeNumber_31 : decode cL_writeNumber 31 = .ok (.irem, 1) := by decide +kernel
theorem dL_writeNumber_32 : decode cL_writeNumber 32 = .ok (.iadd, 1) := by decide +kernel
theorem dL_writeNumber_33 : decode cL_writeNumber 33 = .ok (.invokestatic 33, 3) := by decide +kernel
theorem dL_writeNumber_36 : decode cL_writeNumber 36 = .ok (.iload_n 3, 1) := by decide +kernel
theorem dL_writeNumber_37 : decode cL_writeNumber 37 = .ok (.bipush 10, 2) := by decide +kernel
theorem dL_writeNumber_39 : decode cL_writeNumber 39 = .ok (.idiv, 1) := by decide +kernel
theorem dL_writeNumber_40 : decode cL_writeNumber 40 = .ok (.istore_n 3, 1) := by decide +kernel
theorem dL_writeNumber_41 : decode cL_writeNumber 41 = .ok (.goto (-23), 3) := by decide +kernel
theorem dL_writeNumber_44 : decode cL_writeNumber 44 = .ok (.return_, 1) := by decide +kernel
theorem dL_load_0 : decode cL_load 0 = .ok (.aload_n 0, 1) := by decide +kernel
theorem dL_load_1 : decode cL_load 1 = .ok (.iload_n 1, 1) := by decide +kernel
theorem dL_load_2 : decode cL_load 2 = .ok (.invokevirtual 37, 3) := by decide +kernel
theorem dL_load_5 : decode cL_load 5 = .ok (.ireturn, 1) := by decide +kernel
theorem dL_load_6 : decode cL_load 6 = .ok (.astore_n 2, 1) := by decide +kernel
theorem dL_load_7 : decode cL_load 7 = .ok (.ldc 42, 2) := by decide +kernel
theorem dL_load_9 : decode cL_load 9 = .ok (.ireturn, 1) := by decide +kernel
theorem dL_state_0 : decode cL_state 0 = .ok (.aload_n 0, 1) := by decide +kernel
theorem dL_state_1 : decode cL_state 1 = .ok (.iload_n 1, 1) := by decide +kernel
theorem dL_state_2 : decode cL_state 2 = .ok (.invokevirtual 43, 3) := by decide +kernel
theorem dL_state_5 : decode cL_state 5 = .ok (.ireturn, 1) := by decide +kernel
theorem dL_state_6 : decode cL_state 6 = .ok (.astore_n 2, 1) := by decide +kernel
theorem dL_state_7 : decode cL_state 7 = .ok (.ldc 42, 2) := by decide +kernel
theorem dL_state_9 : decode cL_state 9 = .ok (.ireturn, 1) := by decide +kernel
theorem dL_cell_0 : decode cL_cell 0 = .ok (.aload_n 0, 1) := by decide +kernel
theorem dL_cell_1 : decode cL_cell 1 = .ok (.iload_n 1, 1) := by decide +kernel
theorem dL_cell_2 : decode cL_cell 2 = .ok (.iload_n 2, 1) := by decide +kernel
theorem dL_cell_3 : decode cL_cell 3 = .ok (.invokevirtual 46, 3) := by decide +kernel
theorem dL_cell_6 : decode cL_cell 6 = .ok (.ireturn, 1) := by decide +kernel
theorem dL_cell_7 : decode cL_cell 7 = .ok (.astore_n 3, 1) := by decide +kernel
theorem dL_cell_8 : decode cL_cell 8 = .ok (.ldc 52, 2) := by decide +kernel
theorem dL_cell_10 : decode cL_cell 10 = .ok (.ireturn, 1) := by decide +kernel
theorem dL_pace_0 : decode cL_pace 0 = .ok (.aload_n 0, 1) := by decide +kernel
theorem dL_pace_1 : decode cL_pace 1 = .ok (.iload_n 1, 1) := by decide +kernel
theorem dL_pace_2 : decode cL_pace 2 = .ok (.iload_n 2, 1) := by decide +kernel
theorem dL_pace_3 : decode cL_pace 3 = .ok (.iload_n 3, 1) := by decide +kernel
theorem dL_pace_4 : decode cL_pace 4 = .ok (.invokevirtual 53, 3) := by decide +kernel
theorem dL_pace_7 : decode cL_pace 7 = .ok (.ireturn, 1) := by decide +kernel
theorem dL_pace_8 : decode cL_pace 8 = .ok (.astore 4, 2) := by decide +kernel
theorem dL_pace_10 : decode cL_pace 10 = .ok (.ldc 52, 2) := by decide +kernel
theorem dL_pace_12 : decode cL_pace 12 = .ok (.ireturn, 1) := by decide +kernel
theorem dL_pace_13 : decode cL_pace 13 = .ok (.astore 4, 2) := by decide +kernel
theorem dL_pace_15 : decode cL_pace 15 = .ok (.ldc 42, 2) := by decide +kernel
theorem dL_pace_17 : decode cL_pace 17 = .ok (.ireturn, 1) := by decide +kernel
theorem dL_reached_0 : decode cL_reached 0 = .ok (.aload_n 0, 1) := by decide +kernel
theorem dL_reached_1 : decode cL_reached 1 = .ok (.iload_n 1, 1) := by decide +kernel
theorem dL_reached_2 : decode cL_reached 2 = .ok (.iload_n 2, 1) := by decide +kernel
theorem dL_reached_3 : decode cL_reached 3 = .ok (.invokevirtual 57, 3) := by decide +kernel
theorem dL_reached_6 : decode cL_reached 6 = .ok (.ireturn, 1) := by decide +kernel
theorem dL_reached_7 : decode cL_reached 7 = .ok (.astore_n 3, 1) := by decide +kernel
theorem dL_reached_8 : decode cL_reached 8 = .ok (.ldc 52, 2) := by decide +kernel
theorem dL_reached_10 : decode cL_reached 10 = .ok (.ireturn, 1) := by decide +kernel
theorem dL_reached_11 : decode cL_reached 11 = .ok (.astore_n 3, 1) := by decide +kernel
theorem dL_reached_12 : decode cL_reached 12 = .ok (.ldc 42, 2) := by decide +kernel
theorem dL_reached_14 : decode cL_reached 14 = .ok (.ireturn, 1) := by decide +kernel
theorem dL_why_0 : decode cL_why 0 = .ok (.aload_n 0, 1) := by decide +kernel
theorem dL_why_1 : decode cL_why 1 = .ok (.iload_n 1, 1) := by decide +kernel
theorem dL_why_2 : decode cL_why 2 = .ok (.iload_n 2, 1) := by decide +kernel
theorem dL_why_3 : decode cL_why 3 = .ok (.invokevirtual 64, 3) := by decide +kernel
theorem dL_why_6 : decode cL_why 6 = .ok (.ireturn, 1) := by decide +kernel
theorem dL_why_7 : decode cL_why 7 = .ok (.astore_n 3, 1) := by decide +kernel
theorem dL_why_8 : decode cL_why 8 = .ok (.ldc 52, 2) := by decide +kernel
theorem dL_why_10 : decode cL_why 10 = .ok (.ireturn, 1) := by decide +kernel
theorem dL_walk_0 : decode cL_walk 0 = .ok (.aload_n 0, 1) := by decide +kernel
theorem dL_walk_1 : decode cL_walk 1 = .ok (.iload_n 1, 1) := by decide +kernel
theorem dL_walk_2 : decode cL_walk 2 = .ok (.iload_n 2, 1) := by decide +kernel
theorem dL_walk_3 : decode cL_walk 3 = .ok (.iload_n 3, 1) := by decide +kernel
theorem dL_walk_4 : decode cL_walk 4 = .ok (.iload 4, 2) := by decide +kernel
theorem dL_walk_6 : decode cL_walk 6 = .ok (.invokevirtual 67, 3) := by decide +kernel
theorem dL_walk_9 : decode cL_walk 9 = .ok (.ireturn, 1) := by decide +kernel
theorem dL_walk_10 : decode cL_walk 10 = .ok (.astore 5, 2) := by decide +kernel
theorem dL_walk_12 : decode cL_walk 12 = .ok (.ldc 52, 2) := by decide +kernel
theorem dL_walk_14 : decode cL_walk 14 = .ok (.ireturn, 1) := by decide +kernel
theorem dL_walk_15 : decode cL_walk 15 = .ok (.astore 5, 2) := by decide +kernel
theorem dL_walk_17 : decode cL_walk 17 = .ok (.ldc 73, 2) := by decide +kernel
theorem dL_walk_19 : decode cL_walk 19 = .ok (.ireturn, 1) := by decide +kernel
theorem dL_starts_0 : decode cL_starts 0 = .ok (.aload_n 0, 1) := by decide +kernel
theorem dL_starts_1 : decode cL_starts 1 = .ok (.iload_n 1, 1) := by decide +kernel
theorem dL_starts_2 : decode cL_starts 2 = .ok (.iload_n 2, 1) := by decide +kernel
theorem dL_starts_3 : decode cL_starts 3 = .ok (.iload_n 3, 1) := by decide +kernel
theorem dL_starts_4 : decode cL_starts 4 = .ok (.invokevirtual 74, 3) := by decide +kernel
theorem dL_starts_7 : decode cL_starts 7 = .ok (.ireturn, 1) := by decide +kernel
theorem dL_starts_8 : decode cL_starts 8 = .ok (.astore 4, 2) := by decide +kernel
theorem dL_starts_10 : decode cL_starts 10 = .ok (.ldc 52, 2) := by decide +kernel
theorem dL_starts_12 : decode cL_starts 12 = .ok (.ireturn, 1) := by decide +kernel
theorem dL_distance_0 : decode cL_distance 0 = .ok (.aload_n 0, 1) := by decide +kernel
theorem dL_distance_1 : decode cL_distance 1 = .ok (.iload_n 1, 1) := by decide +kernel
theorem dL_distance_2 : decode cL_distance 2 = .ok (.iload_n 2, 1) := by decide +kernel
theorem dL_distance_3 : decode cL_distance 3 = .ok (.invokevirtual 77, 3) := by decide +kernel
theorem dL_distance_6 : decode cL_distance 6 = .ok (.ireturn, 1) := by decide +kernel
theorem dL_distance_7 : decode cL_distance 7 = .ok (.astore_n 3, 1) := by decide +kernel
theorem dL_distance_8 : decode cL_distance 8 = .ok (.ldc 52, 2) := by decide +kernel
theorem dL_distance_10 : decode cL_distance 10 = .ok (.ireturn, 1) := by decide +kernel
theorem dL_part_0 : decode cL_part 0 = .ok (.aload_n 0, 1) := by decide +kernel
theorem dL_part_1 : decode cL_part 1 = .ok (.iload_n 1, 1) := by decide +kernel
theorem dL_part_2 : decode cL_part 2 = .ok (.iload_n 2, 1) := by decide +kernel
theorem dL_part_3 : decode cL_part 3 = .ok (.invokevirtual 80, 3) := by decide +kernel

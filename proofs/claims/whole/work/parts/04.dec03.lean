theorem dX12_nearest_61 : decode cX12_nearest 61 = .ok (.iaload, 1) := by decide +kernel
theorem dX12_nearest_62 : decode cX12_nearest 62 = .ok (.if_icmp .ge 5, 3) := by decide +kernel
theorem dX12_nearest_65 : decode cX12_nearest 65 = .ok (.iload_n 2, 1) := by decide +kernel
theorem dX12_nearest_66 : decode cX12_nearest 66 = .ok (.istore_n 1, 1) := by decide +kernel
theorem dX12_nearest_67 : decode cX12_nearest 67 = .ok (.iinc 2 1, 3) := by decide +kernel
theorem dX12_nearest_70 : decode cX12_nearest 70 = .ok (.goto (-51), 3) := by decide +kernel
theorem dX12_nearest_73 : decode cX12_nearest 73 = .ok (.iload_n 1, 1) := by decide +kernel
theorem dX12_nearest_74 : decode cX12_nearest 74 = .ok (.ireturn, 1) := by decide +kernel
theorem dX12_tour_0 : decode cX12_tour 0 = .ok (.aload_n 0, 1) := by decide +kernel
theorem dX12_tour_1 : decode cX12_tour 1 = .ok (.iconst 0, 1) := by decide +kernel
theorem dX12_tour_2 : decode cX12_tour 2 = .ok (.putfield 69, 3) := by decide +kernel
theorem dX12_tour_5 : decode cX12_tour 5 = .ok (.iconst 0, 1) := by decide +kernel
theorem dX12_tour_6 : decode cX12_tour 6 = .ok (.istore_n 1, 1) := by decide +kernel
theorem dX12_tour_7 : decode cX12_tour 7 = .ok (.aload_n 0, 1) := by decide +kernel
theorem dX12_tour_8 : decode cX12_tour 8 = .ok (.iconst 1, 1) := by decide +kernel
theorem dX12_tour_9 : decode cX12_tour 9 = .ok (.invokevirtual 331, 3) := by decide +kernel
theorem dX12_tour_12 : decode cX12_tour 12 = .ok (.bipush 9, 2) := by decide +kernel
theorem dX12_tour_14 : decode cX12_tour 14 = .ok (.if_icmp .le 6, 3) := by decide +kernel
theorem dX12_tour_17 : decode cX12_tour 17 = .ok (.bipush (-2), 2) := by decide +kernel
theorem dX12_tour_19 : decode cX12_tour 19 = .ok (.ireturn, 1) := by decide +kernel
theorem dX12_tour_20 : decode cX12_tour 20 = .ok (.aload_n 0, 1) := by decide +kernel
theorem dX12_tour_21 : decode cX12_tour 21 = .ok (.aload_n 0, 1) := by decide +kernel
theorem dX12_tour_22 : decode cX12_tour 22 = .ok (.getfield 17, 3) := by decide +kernel
theorem dX12_tour_25 : decode cX12_tour 25 = .ok (.iconst 4, 1) := by decide +kernel
theorem dX12_tour_26 : decode cX12_tour 26 = .ok (.iaload, 1) := by decide +kernel
theorem dX12_tour_27 : decode cX12_tour 27 = .ok (.invokevirtual 355, 3) := by decide +kernel
theorem dX12_tour_30 : decode cX12_tour 30 = .ok (.iconst 0, 1) := by decide +kernel
theorem dX12_tour_31 : decode cX12_tour 31 = .ok (.istore_n 2, 1) := by decide +kernel
theorem dX12_tour_32 : decode cX12_tour 32 = .ok (.iload_n 2, 1) := by decide +kernel
theorem dX12_tour_33 : decode cX12_tour 33 = .ok (.aload_n 0, 1) := by decide +kernel
theorem dX12_tour_34 : decode cX12_tour 34 = .ok (.invokevirtual 290, 3) := by decide +kernel
theorem dX12_tour_37 : decode cX12_tour 37 = .ok (.if_icmp .ge 54, 3) := by decide +kernel
theorem dX12_tour_40 : decode cX12_tour 40 = .ok (.aload_n 0, 1) := by decide +kernel
theorem dX12_tour_41 : decode cX12_tour 41 = .ok (.iload_n 2, 1) := by decide +kernel
theorem dX12_tour_42 : decode cX12_tour 42 = .ok (.invokevirtual 322, 3) := by decide +kernel
theorem dX12_tour_45 : decode cX12_tour 45 = .ok (.ifCond .ne 6, 3) := by decide +kernel
theorem dX12_tour_48 : decode cX12_tour 48 = .ok (.goto 37, 3) := by decide +kernel
theorem dX12_tour_51 : decode cX12_tour 51 = .ok (.aload_n 0, 1) := by decide +kernel
theorem dX12_tour_52 : decode cX12_tour 52 = .ok (.getfield 44, 3) := by decide +kernel
theorem dX12_tour_55 : decode cX12_tour 55 = .ok (.iload_n 2, 1) := by decide +kernel
theorem dX12_tour_56 : decode cX12_tour 56 = .ok (.iaload, 1) := by decide +kernel
theorem dX12_tour_57 : decode cX12_tour 57 = .ok (.iconst (-1), 1) := by decide +kernel
theorem dX12_tour_58 : decode cX12_tour 58 = .ok (.if_icmp .ne 5, 3) := by decide +kernel
theorem dX12_tour_61 : decode cX12_tour 61 = .ok (.iconst (-1), 1) := by decide +kernel
theorem dX12_tour_62 : decode cX12_tour 62 = .ok (.ireturn, 1) := by decide +kernel
theorem dX12_tour_63 : decode cX12_tour 63 = .ok (.aload_n 0, 1) := by decide +kernel
theorem dX12_tour_64 : decode cX12_tour 64 = .ok (.getfield 53, 3) := by decide +kernel
theorem dX12_tour_67 : decode cX12_tour 67 = .ok (.iload_n 1, 1) := by decide +kernel
theorem dX12_tour_68 : decode cX12_tour 68 = .ok (.iload_n 2, 1) := by decide +kernel
theorem dX12_tour_69 : decode cX12_tour 69 = .ok (.iastore, 1) := by decide +kernel
theorem dX12_tour_70 : decode cX12_tour 70 = .ok (.aload_n 0, 1) := by decide +kernel
theorem dX12_tour_71 : decode cX12_tour 71 = .ok (.getfield 56, 3) := by decide +kernel
theorem dX12_tour_74 : decode cX12_tour 74 = .ok (.iload_n 1, 1) := by decide +kernel
theorem dX12_tour_75 : decode cX12_tour 75 = .ok (.aload_n 0, 1) := by decide +kernel
theorem dX12_tour_76 : decode cX12_tour 76 = .ok (.getfield 44, 3) := by decide +kernel
theorem dX12_tour_79 : decode cX12_tour 79 = .ok (.iload_n 2, 1) := by decide +kernel
theorem dX12_tour_80 : decode cX12_tour 80 = .ok (.iaload, 1) := by decide +kernel
theorem dX12_tour_81 : decode cX12_tour 81 = .ok (.iastore, 1) := by decide +kernel
theorem dX12_tour_82 : decode cX12_tour 82 = .ok (.iinc 1 1, 3) := by decide +kernel
theorem dX12_tour_85 : decode cX12_tour 85 = .ok (.iinc 2 1, 3) := by decide +kernel
theorem dX12_tour_88 : decode cX12_tour 88 = .ok (.goto (-56), 3) := by decide +kernel
theorem dX12_tour_91 : decode cX12_tour 91 = .ok (.iconst 0, 1) := by decide +kernel
theorem dX12_tour_92 : decode cX12_tour 92 = .ok (.istore_n 2, 1) := by decide +kernel
theorem dX12_tour_93 : decode cX12_tour 93 = .ok (.iload_n 2, 1) := by decide +kernel
theorem dX12_tour_94 : decode cX12_tour 94 = .ok (.iload_n 1, 1) := by decide +kernel
theorem dX12_tour_95 : decode cX12_tour 95 = .ok (.if_icmp .ge 51, 3) := by decide +kernel
theorem dX12_tour_98 : decode cX12_tour 98 = .ok (.aload_n 0, 1) := by decide +kernel
theorem dX12_tour_99 : decode cX12_tour 99 = .ok (.aload_n 0, 1) := by decide +kernel
theorem dX12_tour_100 : decode cX12_tour 100 = .ok (.getfield 53, 3) := by decide +kernel
theorem dX12_tour_103 : decode cX12_tour 103 = .ok (.iload_n 2, 1) := by decide +kernel
theorem dX12_tour_104 : decode cX12_tour 104 = .ok (.iaload, 1) := by decide +kernel
theorem dX12_tour_105 : decode cX12_tour 105 = .ok (.invokevirtual 355, 3) := by decide +kernel
theorem dX12_tour_108 : decode cX12_tour 108 = .ok (.iconst 0, 1) := by decide +kernel
theorem dX12_tour_109 : decode cX12_tour 109 = .ok (.istore_n 3, 1) := by decide +kernel
theorem dX12_tour_110 : decode cX12_tour 110 = .ok (.iload_n 3, 1) := by decide +kernel
theorem dX12_tour_111 : decode cX12_tour 111 = .ok (.iload_n 1, 1) := by decide +kernel
theorem dX12_tour_112 : decode cX12_tour 112 = .ok (.if_icmp .ge 28, 3) := by decide +kernel
theorem dX12_tour_115 : decode cX12_tour 115 = .ok (.aload_n 0, 1) := by decide +kernel
theorem dX12_tour_116 : decode cX12_tour 116 = .ok (.getfield 59, 3) := by decide +kernel
theorem dX12_tour_119 : decode cX12_tour 119 = .ok (.iload_n 2, 1) := by decide +kernel
theorem dX12_tour_120 : decode cX12_tour 120 = .ok (.aaload, 1) := by decide +kernel
theorem dX12_tour_121 : decode cX12_tour 121 = .ok (.iload_n 3, 1) := by decide +kernel
theorem dX12_tour_122 : decode cX12_tour 122 = .ok (.aload_n 0, 1) := by decide +kernel
theorem dX12_tour_123 : decode cX12_tour 123 = .ok (.getfield 44, 3) := by decide +kernel
theorem dX12_tour_126 : decode cX12_tour 126 = .ok (.aload_n 0, 1) := by decide +kernel
theorem dX12_tour_127 : decode cX12_tour 127 = .ok (.getfield 53, 3) := by decide +kernel
theorem dX12_tour_130 : decode cX12_tour 130 = .ok (.iload_n 3, 1) := by decide +kernel
theorem dX12_tour_131 : decode cX12_tour 131 = .ok (.iaload, 1) := by decide +kernel
theorem dX12_tour_132 : decode cX12_tour 132 = .ok (.iaload, 1) := by decide +kernel
theorem dX12_tour_133 : decode cX12_tour 133 = .ok (.iastore, 1) := by decide +kernel
theorem dX12_tour_134 : decode cX12_tour 134 = .ok (.iinc 3 1, 3) := by decide +kernel
theorem dX12_tour_137 : decode cX12_tour 137 = .ok (.goto (-27), 3) := by decide +kernel
theorem dX12_tour_140 : decode cX12_tour 140 = .ok (.iinc 2 1, 3) := by decide +kernel
theorem dX12_tour_143 : decode cX12_tour 143 = .ok (.goto (-50), 3) := by decide +kernel
theorem dX12_tour_146 : decode cX12_tour 146 = .ok (.iload_n 1, 1) := by decide +kernel
theorem dX12_tour_147 : decode cX12_tour 147 = .ok (.ifCond .ne 7, 3) := by decide +kernel
theorem dX12_tour_150 : decode cX12_tour 150 = .ok (.iconst 0, 1) := by decide +kernel
theorem dX12_tour_151 : decode cX12_tour 151 = .ok (.goto 8, 3) := by decide +kernel
theorem dX12_tour_154 : decode cX12_tour 154 = .ok (.aload_n 0, 1) := by decide +kernel
theorem dX12_tour_155 : decode cX12_tour 155 = .ok (.iload_n 1, 1) := by decide +kernel
theorem dX12_tour_156 : decode cX12_tour 156 = .ok (.invokevirtual 358, 3) := by decide +kernel
theorem dX12_tour_159 : decode cX12_tour 159 = .ok (.ireturn, 1) := by decide +kernel
theorem dX12_shortest_0 : decode cX12_shortest 0 = .ok (.iconst 1, 1) := by decide +kernel
theorem dX12_shortest_1 : decode cX12_shortest 1 = .ok (.iload_n 1, 1) := by decide +kernel
theorem dX12_shortest_2 : decode cX12_shortest 2 = .ok (.ishl, 1) := by decide +kernel
theorem dX12_shortest_3 : decode cX12_shortest 3 = .ok (.iconst 1, 1) := by decide +kernel
theorem dX12_shortest_4 : decode cX12_shortest 4 = .ok (.isub, 1) := by decide +kernel
theorem dX12_shortest_5 : decode cX12_shortest 5 = .ok (.istore_n 2, 1) := by decide +kernel
theorem dX12_shortest_6 : decode cX12_shortest 6 = .ok (.ldc_w 361, 3) := by decide +kernel
theorem dX12_shortest_9 : decode cX12_shortest 9 = .ok (.istore_n 3, 1) := by decide +kernel
theorem dX12_shortest_10 : decode cX12_shortest 10 = .ok (.iconst 1, 1) := by decide +kernel
theorem dX12_shortest_11 : decode cX12_shortest 11 = .ok (.istore 4, 2) := by decide +kernel
theorem dX12_shortest_13 : decode cX12_shortest 13 = .ok (.iload 4, 2) := by decide +kernel
theorem dX12_shortest_15 : decode cX12_shortest 15 = .ok (.iload_n 2, 1) := by decide +kernel
theorem dX12_shortest_16 : decode cX12_shortest 16 = .ok (.if_icmp .gt 153, 3) := by decide +kernel
theorem dX12_shortest_19 : decode cX12_shortest 19 = .ok (.iconst 0, 1) := by decide +kernel
theorem dX12_shortest_20 : decode cX12_shortest 20 = .ok (.istore 5, 2) := by decide +kernel
theorem dX12_shortest_22 : decode cX12_shortest 22 = .ok (.iload 5, 2) := by decide +kernel
theorem dX12_shortest_24 : decode cX12_shortest 24 = .ok (.iload_n 1, 1) := by decide +kernel
theorem dX12_shortest_25 : decode cX12_shortest 25 = .ok (.if_icmp .ge 138, 3) := by decide +kernel
theorem dX12_shortest_28 : decode cX12_shortest 28 = .ok (.iload 4, 2) := by decide +kernel
theorem dX12_shortest_30 : decode cX12_shortest 30 = .ok (.iconst 1, 1) := by decide +kernel
theorem dX12_shortest_31 : decode cX12_shortest 31 = .ok (.iload 5, 2) := by decide +kernel
theorem dX12_shortest_33 : decode cX12_shortest 33 = .ok (.ishl, 1) := by decide +kernel
theorem dX12_shortest_34 : decode cX12_shortest 34 = .ok (.iconst (-1), 1) := by decide +kernel
theorem dX12_shortest_35 : decode cX12_shortest 35 = .ok (.ixor, 1) := by decide +kernel
theorem dX12_shortest_36 : decode cX12_shortest 36 = .ok (.iand, 1) := by decide +kernel
theorem dX12_shortest_37 : decode cX12_shortest 37 = .ok (.istore 6, 2) := by decide +kernel
theorem dX12_shortest_39 : decode cX12_shortest 39 = .ok (.aload_n 0, 1) := by decide +kernel
theorem dX12_shortest_40 : decode cX12_shortest 40 = .ok (.getfield 62, 3) := by decide +kernel
theorem dX12_shortest_43 : decode cX12_shortest 43 = .ok (.iload 4, 2) := by decide +kernel
theorem dX12_shortest_45 : decode cX12_shortest 45 = .ok (.aaload, 1) := by decide +kernel
theorem dX12_shortest_46 : decode cX12_shortest 46 = .ok (.iload 5, 2) := by decide +kernel
theorem dX12_shortest_48 : decode cX12_shortest 48 = .ok (.iload 6, 2) := by decide +kernel
theorem dX12_shortest_50 : decode cX12_shortest 50 = .ok (.iload 4, 2) := by decide +kernel
theorem dX12_shortest_52 : decode cX12_shortest 52 = .ok (.if_icmp .ne 9, 3) := by decide +kernel
theorem dX12_shortest_55 : decode cX12_shortest 55 = .ok (.ldc_w 361, 3) := by decide +kernel
theorem dX12_shortest_58 : decode cX12_shortest 58 = .ok (.goto 21, 3) := by decide +kernel
theorem dX12_shortest_61 : decode cX12_shortest 61 = .ok (.iload 6, 2) := by decide +kernel
theorem dX12_shortest_63 : decode cX12_shortest 63 = .ok (.ifCond .ne 13, 3) := by decide +kernel
theorem dX12_shortest_66 : decode cX12_shortest 66 = .ok (.aload_n 0, 1) := by decide +kernel
theorem dX12_shortest_67 : decode cX12_shortest 67 = .ok (.getfield 56, 3) := by decide +kernel
theorem dX12_shortest_70 : decode cX12_shortest 70 = .ok (.iload 5, 2) := by decide +kernel
theorem dX12_shortest_72 : decode cX12_shortest 72 = .ok (.iaload, 1) := by decide +kernel
theorem dX12_shortest_73 : decode cX12_shortest 73 = .ok (.goto 6, 3) := by decide +kernel
theorem dX12_shortest_76 : decode cX12_shortest 76 = .ok (.ldc_w 361, 3) := by decide +kernel
theorem dX12_shortest_79 : decode cX12_shortest 79 = .ok (.iastore, 1) := by decide +kernel
theorem dX12_shortest_80 : decode cX12_shortest 80 = .ok (.iconst 0, 1) := by decide +kernel
theorem dX12_shortest_81 : decode cX12_shortest 81 = .ok (.istore 7, 2) := by decide +kernel
theorem dX12_shortest_83 : decode cX12_shortest 83 = .ok (.iload 7, 2) := by decide +kernel
theorem dX12_shortest_85 : decode cX12_shortest 85 = .ok (.iload_n 1, 1) := by decide +kernel
theorem dX12_shortest_86 : decode cX12_shortest 86 = .ok (.if_icmp .ge 71, 3) := by decide +kernel
theorem dX12_shortest_89 : decode cX12_shortest 89 = .ok (.iload 6, 2) := by decide +kernel
theorem dX12_shortest_91 : decode cX12_shortest 91 = .ok (.iload 4, 2) := by decide +kernel
theorem dX12_shortest_93 : decode cX12_shortest 93 = .ok (.if_icmp .eq 64, 3) := by decide +kernel
theorem dX12_shortest_96 : decode cX12_shortest 96 = .ok (.iload 6, 2) := by decide +kernel
theorem dX12_shortest_98 : decode cX12_shortest 98 = .ok (.iload 7, 2) := by decide +kernel
theorem dX12_shortest_100 : decode cX12_shortest 100 = .ok (.ishr, 1) := by decide +kernel
theorem dX12_shortest_101 : decode cX12_shortest 101 = .ok (.iconst 1, 1) := by decide +kernel
theorem dX12_shortest_102 : decode cX12_shortest 102 = .ok (.iand, 1) := by decide +kernel
theorem dX12_shortest_103 : decode cX12_shortest 103 = .ok (.iconst 1, 1) := by decide +kernel
theorem dX12_shortest_104 : decode cX12_shortest 104 = .ok (.if_icmp .ne 47, 3) := by decide +kernel
theorem dX12_shortest_107 : decode cX12_shortest 107 = .ok (.aload_n 0, 1) := by decide +kernel
theorem dX12_shortest_108 : decode cX12_shortest 108 = .ok (.getfield 62, 3) := by decide +kernel
theorem dX12_shortest_111 : decode cX12_shortest 111 = .ok (.iload 4, 2) := by decide +kernel
theorem dX12_shortest_113 : decode cX12_shortest 113 = .ok (.aaload, 1) := by decide +kernel
theorem dX12_shortest_114 : decode cX12_shortest 114 = .ok (.iload 5, 2) := by decide +kernel
theorem dX12_shortest_116 : decode cX12_shortest 116 = .ok (.aload_n 0, 1) := by decide +kernel
theorem dX12_shortest_117 : decode cX12_shortest 117 = .ok (.getfield 62, 3) := by decide +kernel
theorem dX12_shortest_120 : decode cX12_shortest 120 = .ok (.iload 4, 2) := by decide +kernel
theorem dX12_shortest_122 : decode cX12_shortest 122 = .ok (.aaload, 1) := by decide +kernel
theorem dX12_shortest_123 : decode cX12_shortest 123 = .ok (.iload 5, 2) := by decide +kernel
theorem dX12_shortest_125 : decode cX12_shortest 125 = .ok (.iaload, 1) := by decide +kernel
theorem dX12_shortest_126 : decode cX12_shortest 126 = .ok (.aload_n 0, 1) := by decide +kernel
theorem dX12_shortest_127 : decode cX12_shortest 127 = .ok (.getfield 62, 3) := by decide +kernel
theorem dX12_shortest_130 : decode cX12_shortest 130 = .ok (.iload 6, 2) := by decide +kernel
theorem dX12_shortest_132 : decode cX12_shortest 132 = .ok (.aaload, 1) := by decide +kernel
theorem dX12_shortest_133 : decode cX12_shortest 133 = .ok (.iload 7, 2) := by decide +kernel
theorem dX12_shortest_135 : decode cX12_shortest 135 = .ok (.iaload, 1) := by decide +kernel
theorem dX12_shortest_136 : decode cX12_shortest 136 = .ok (.aload_n 0, 1) := by decide +kernel
theorem dX12_shortest_137 : decode cX12_shortest 137 = .ok (.getfield 59, 3) := by decide +kernel
theorem dX12_shortest_140 : decode cX12_shortest 140 = .ok (.iload 7, 2) := by decide +kernel
theorem dX12_shortest_142 : decode cX12_shortest 142 = .ok (.aaload, 1) := by decide +kernel
theorem dX12_shortest_143 : decode cX12_shortest 143 = .ok (.iload 5, 2) := by decide +kernel
theorem dX12_shortest_145 : decode cX12_shortest 145 = .ok (.iaload, 1) := by decide +kernel
theorem dX12_shortest_146 : decode cX12_shortest 146 = .ok (.iadd, 1) := by decide +kernel
theorem dX12_shortest_147 : decode cX12_shortest 147 = .ok (.invokestatic 124, 3) := by decide +kernel
theorem dX12_shortest_150 : decode cX12_shortest 150 = .ok (.iastore, 1) := by decide +kernel
theorem dX12_shortest_151 : decode cX12_shortest 151 = .ok (.iinc 7 1, 3) := by decide +kernel
theorem dX12_shortest_154 : decode cX12_shortest 154 = .ok (.goto (-71), 3) := by decide +kernel
theorem dX12_shortest_157 : decode cX12_shortest 157 = .ok (.iinc 5 1, 3) := by decide +kernel
theorem dX12_shortest_160 : decode cX12_shortest 160 = .ok (.goto (-138), 3) := by decide +kernel
theorem dX12_shortest_163 : decode cX12_shortest 163 = .ok (.iinc 4 1, 3) := by decide +kernel
theorem dX12_shortest_166 : decode cX12_shortest 166 = .ok (.goto (-153), 3) := by decide +kernel
theorem dX12_shortest_169 : decode cX12_shortest 169 = .ok (.iconst 0, 1) := by decide +kernel
theorem dX12_shortest_170 : decode cX12_shortest 170 = .ok (.istore 4, 2) := by decide +kernel
theorem dX12_shortest_172 : decode cX12_shortest 172 = .ok (.iload 4, 2) := by decide +kernel
theorem dX12_shortest_174 : decode cX12_shortest 174 = .ok (.iload_n 1, 1) := by decide +kernel
theorem dX12_shortest_175 : decode cX12_shortest 175 = .ok (.if_icmp .ge 23, 3) := by decide +kernel
theorem dX12_shortest_178 : decode cX12_shortest 178 = .ok (.iload_n 3, 1) := by decide +kernel
theorem dX12_shortest_179 : decode cX12_shortest 179 = .ok (.aload_n 0, 1) := by decide +kernel
theorem dX12_shortest_180 : decode cX12_shortest 180 = .ok (.getfield 62, 3) := by decide +kernel
theorem dX12_shortest_183 : decode cX12_shortest 183 = .ok (.iload_n 2, 1) := by decide +kernel
theorem dX12_shortest_184 : decode cX12_shortest 184 = .ok (.aaload, 1) := by decide +kernel
theorem dX12_shortest_185 : decode cX12_shortest 185 = .ok (.iload 4, 2) := by decide +kernel
theorem dX12_shortest_187 : decode cX12_shortest 187 = .ok (.iaload, 1) := by decide +kernel
theorem dX12_shortest_188 : decode cX12_shortest 188 = .ok (.invokestatic 124, 3) := by decide +kernel
theorem dX12_shortest_191 : decode cX12_shortest 191 = .ok (.istore_n 3, 1) := by decide +kernel
theorem dX12_shortest_192 : decode cX12_shortest 192 = .ok (.iinc 4 1, 3) := by decide +kernel
theorem dX12_shortest_195 : decode cX12_shortest 195 = .ok (.goto (-23), 3) := by decide +kernel
theorem dX12_shortest_198 : decode cX12_shortest 198 = .ok (.iload_n 3, 1) := by decide +kernel
theorem dX12_shortest_199 : decode cX12_shortest 199 = .ok (.ireturn, 1) := by decide +kernel
theorem dX12_part_0 : decode cX12_part 0 = .ok (.aload_n 0, 1) := by decide +kernel
theorem dX12_part_1 : decode cX12_part 1 = .ok (.iconst 0, 1) := by decide +kernel
theorem dX12_part_2 : decode cX12_part 2 = .ok (.putfield 69, 3) := by decide +kernel
theorem dX12_part_5 : decode cX12_part 5 = .ok (.aload_n 0, 1) := by decide +kernel
theorem dX12_part_6 : decode cX12_part 6 = .ok (.iload_n 1, 1) := by decide +kernel
theorem dX12_part_7 : decode cX12_part 7 = .ok (.iload_n 2, 1) := by decide +kernel
theorem dX12_part_8 : decode cX12_part 8 = .ok (.invokevirtual 340, 3) := by decide +kernel
theorem dX12_part_11 : decode cX12_part 11 = .ok (.ifCond .eq 5, 3) := by decide +kernel
theorem dX12_part_14 : decode cX12_part 14 = .ok (.iconst 0, 1) := by decide +kernel
theorem dX12_part_15 : decode cX12_part 15 = .ok (.ireturn, 1) := by decide +kernel
theorem dX12_part_16 : decode cX12_part 16 = .ok (.aload_n 0, 1) := by decide +kernel
theorem dX12_part_17 : decode cX12_part 17 = .ok (.invokevirtual 334, 3) := by decide +kernel
theorem dX12_part_20 : decode cX12_part 20 = .ok (.pop, 1) := by decide +kernel
theorem dX12_part_21 : decode cX12_part 21 = .ok (.aload_n 0, 1) := by decide +kernel
theorem dX12_part_22 : decode cX12_part 22 = .ok (.getfield 50, 3) := by decide +kernel
theorem dX12_part_25 : decode cX12_part 25 = .ok (.aload_n 0, 1) := by decide +kernel
theorem dX12_part_26 : decode cX12_part 26 = .ok (.iload_n 1, 1) := by decide +kernel
theorem dX12_part_27 : decode cX12_part 27 = .ok (.iload_n 2, 1) := by decide +kernel
theorem dX12_part_28 : decode cX12_part 28 = .ok (.invokevirtual 271, 3) := by decide +kernel
theorem dX12_part_31 : decode cX12_part 31 = .ok (.iaload, 1) := by decide +kernel
theorem dX12_part_32 : decode cX12_part 32 = .ok (.istore_n 3, 1) := by decide +kernel
theorem dX12_part_33 : decode cX12_part 33 = .ok (.iconst 0, 1) := by decide +kernel
theorem dX12_part_34 : decode cX12_part 34 = .ok (.istore 4, 2) := by decide +kernel
theorem dX12_part_36 : decode cX12_part 36 = .ok (.iconst 0, 1) := by decide +kernel
theorem dX12_part_37 : decode cX12_part 37 = .ok (.istore 5, 2) := by decide +kernel
theorem dX12_part_39 : decode cX12_part 39 = .ok (.iload 5, 2) := by decide +kernel
theorem dX12_part_41 : decode cX12_part 41 = .ok (.aload_n 0, 1) := by decide +kernel
theorem dX12_part_42 : decode cX12_part 42 = .ok (.invokevirtual 290, 3) := by decide +kernel
theorem dX12_part_45 : decode cX12_part 45 = .ok (.if_icmp .ge 35, 3) := by decide +kernel
theorem dX12_part_48 : decode cX12_part 48 = .ok (.iload 4, 2) := by decide +kernel
theorem dX12_part_50 : decode cX12_part 50 = .ok (.iload_n 3, 1) := by decide +kernel
theorem dX12_part_51 : decode cX12_part 51 = .ok (.iconst (-1), 1) := by decide +kernel
theorem dX12_part_52 : decode cX12_part 52 = .ok (.if_icmp .eq 18, 3) := by decide +kernel
theorem dX12_part_55 : decode cX12_part 55 = .ok (.aload_n 0, 1) := by decide +kernel
theorem dX12_part_56 : decode cX12_part 56 = .ok (.getfield 50, 3) := by decide +kernel
theorem dX12_part_59 : decode cX12_part 59 = .ok (.iload 5, 2) := by decide +kernel
theorem dX12_part_61 : decode cX12_part 61 = .ok (.iaload, 1) := by decide +kernel
theorem dX12_part_62 : decode cX12_part 62 = .ok (.iload_n 3, 1) := by decide +kernel
theorem dX12_part_63 : decode cX12_part 63 = .ok (.if_icmp .ne 7, 3) := by decide +kernel
theorem dX12_part_66 : decode cX12_part 66 = .ok (.iconst 1, 1) := by decide +kernel
theorem dX12_part_67 : decode cX12_part 67 = .ok (.goto 4, 3) := by decide +kernel
theorem dX12_part_70 : decode cX12_part 70 = .ok (.iconst 0, 1) := by decide +kernel
theorem dX12_part_71 : decode cX12_part 71 = .ok (.iadd, 1) := by decide +kernel
theorem dX12_part_72 : decode cX12_part 72 = .ok (.istore 4, 2) := by decide +kernel
theorem dX12_part_74 : decode cX12_part 74 = .ok (.iinc 5 1, 3) := by decide +kernel
theorem dX12_part_77 : decode cX12_part 77 = .ok (.goto (-38), 3) := by decide +kernel
theorem dX12_part_80 : decode cX12_part 80 = .ok (.iload 4, 2) := by decide +kernel
theorem dX12_part_82 : decode cX12_part 82 = .ok (.ireturn, 1) := by decide +kernel
theorem dX12_meanDistance_0 : decode cX12_meanDistance 0 = .ok (.aload_n 0, 1) := by decide +kernel
theorem dX12_meanDistance_1 : decode cX12_meanDistance 1 = .ok (.iconst 0, 1) := by decide +kernel
theorem dX12_meanDistance_2 : decode cX12_meanDistance 2 = .ok (.putfield 69, 3) := by decide +kernel
theorem dX12_meanDistance_5 : decode cX12_meanDistance 5 = .ok (.aload_n 0, 1) := by decide +kernel
theorem dX12_meanDistance_6 : decode cX12_meanDistance 6 = .ok (.aload_n 0, 1) := by decide +kernel
theorem dX12_meanDistance_7 : decode cX12_meanDistance 7 = .ok (.getfield 17, 3) := by decide +kernel
theorem dX12_meanDistance_10 : decode cX12_meanDistance 10 = .ok (.iconst 4, 1) := by decide +kernel
theorem dX12_meanDistance_11 : decode cX12_meanDistance 11 = .ok (.iaload, 1) := by decide +kernel
theorem dX12_meanDistance_12 : decode cX12_meanDistance 12 = .ok (.invokevirtual 355, 3) := by decide +kernel
theorem dX12_meanDistance_15 : decode cX12_meanDistance 15 = .ok (.iconst 0, 1) := by decide +kernel
theorem dX12_meanDistance_16 : decode cX12_meanDistance 16 = .ok (.istore_n 1, 1) := by decide +kernel
theorem dX12_meanDistance_17 : decode cX12_meanDistance 17 = .ok (.iconst 0, 1) := by decide +kernel
theorem dX12_meanDistance_18 : decode cX12_meanDistance 18 = .ok (.istore_n 2, 1) := by decide +kernel
theorem dX12_meanDistance_19 : decode cX12_meanDistance 19 = .ok (.iconst 0, 1) := by decide +kernel
theorem dX12_meanDistance_20 : decode cX12_meanDistance 20 = .ok (.istore_n 3, 1) := by decide +kernel
theorem dX12_meanDistance_21 : decode cX12_meanDistance 21 = .ok (.iload_n 3, 1) := by decide +kernel
theorem dX12_meanDistance_22 : decode cX12_meanDistance 22 = .ok (.aload_n 0, 1) := by decide +kernel
theorem dX12_meanDistance_23 : decode cX12_meanDistance 23 = .ok (.invokevirtual 290, 3) := by decide +kernel
theorem dX12_meanDistance_26 : decode cX12_meanDistance 26 = .ok (.if_icmp .ge 42, 3) := by decide +kernel
theorem dX12_meanDistance_29 : decode cX12_meanDistance 29 = .ok (.aload_n 0, 1) := by decide +kernel
theorem dX12_meanDistance_30 : decode cX12_meanDistance 30 = .ok (.iload_n 3, 1) := by decide +kernel
theorem dX12_meanDistance_31 : decode cX12_meanDistance 31 = .ok (.invokevirtual 322, 3) := by decide +kernel
theorem dX12_meanDistance_34 : decode cX12_meanDistance 34 = .ok (.ifCond .eq 28, 3) := by decide +kernel
theorem dX12_meanDistance_37 : decode cX12_meanDistance 37 = .ok (.aload_n 0, 1) := by decide +kernel
theorem dX12_meanDistance_38 : decode cX12_meanDistance 38 = .ok (.getfield 44, 3) := by decide +kernel
theorem dX12_meanDistance_41 : decode cX12_meanDistance 41 = .ok (.iload_n 3, 1) := by decide +kernel
theorem dX12_meanDistance_42 : decode cX12_meanDistance 42 = .ok (.iaload, 1) := by decide +kernel
theorem dX12_meanDistance_43 : decode cX12_meanDistance 43 = .ok (.iconst (-1), 1) := by decide +kernel
theorem dX12_meanDistance_44 : decode cX12_meanDistance 44 = .ok (.if_icmp .ne 6, 3) := by decide +kernel
theorem dX12_meanDistance_47 : decode cX12_meanDistance 47 = .ok (.goto 15, 3) := by decide +kernel
theorem dX12_meanDistance_50 : decode cX12_meanDistance 50 = .ok (.iinc 1 1, 3) := by decide +kernel
theorem dX12_meanDistance_53 : decode cX12_meanDistance 53 = .ok (.iload_n 2, 1) := by decide +kernel
theorem dX12_meanDistance_54 : decode cX12_meanDistance 54 = .ok (.aload_n 0, 1) := by decide +kernel
theorem dX12_meanDistance_55 : decode cX12_meanDistance 55 = .ok (.getfield 44, 3) := by decide +kernel
theorem dX12_meanDistance_58 : decode cX12_meanDistance 58 = .ok (.iload_n 3, 1) := by decide +kernel
theorem dX12_meanDistance_59 : decode cX12_meanDistance 59 = .ok (.iaload, 1) := by decide +kernel
theorem dX12_meanDistance_60 : decode cX12_meanDistance 60 = .ok (.iadd, 1) := by decide +kernel
theorem dX12_meanDistance_61 : decode cX12_meanDistance 61 = .ok (.istore_n 2, 1) := by decide +kernel
theorem dX12_meanDistance_62 : decode cX12_meanDistance 62 = .ok (.iinc 3 1, 3) := by decide +kernel
theorem dX12_meanDistance_65 : decode cX12_meanDistance 65 = .ok (.goto (-44), 3) := by decide +kernel
theorem dX12_meanDistance_68 : decode cX12_meanDistance 68 = .ok (.iload_n 1, 1) := by decide +kernel
theorem dX12_meanDistance_69 : decode cX12_meanDistance 69 = .ok (.ifCond .ne 7, 3) := by decide +kernel
theorem dX12_meanDistance_72 : decode cX12_meanDistance 72 = .ok (.dconst 0, 1) := by decide +kernel
theorem dX12_meanDistance_73 : decode cX12_meanDistance 73 = .ok (.goto 8, 3) := by decide +kernel
theorem dX12_meanDistance_76 : decode cX12_meanDistance 76 = .ok (.iload_n 2, 1) := by decide +kernel
theorem dX12_meanDistance_77 : decode cX12_meanDistance 77 = .ok (.i2d, 1) := by decide +kernel
theorem dX12_meanDistance_78 : decode cX12_meanDistance 78 = .ok (.iload_n 1, 1) := by decide +kernel
theorem dX12_meanDistance_79 : decode cX12_meanDistance 79 = .ok (.i2d, 1) := by decide +kernel
theorem dX12_meanDistance_80 : decode cX12_meanDistance 80 = .ok (.ddiv, 1) := by decide +kernel
theorem dX12_meanDistance_81 : decode cX12_meanDistance 81 = .ok (.dreturn, 1) := by decide +kernel
theorem dX12_chestIsLeft_0 : decode cX12_chestIsLeft 0 = .ok (.aload_n 0, 1) := by decide +kernel
theorem dX12_chestIsLeft_1 : decode cX12_chestIsLeft 1 = .ok (.iconst 0, 1) := by decide +kernel
theorem dX12_chestIsLeft_2 : decode cX12_chestIsLeft 2 = .ok (.putfield 69, 3) := by decide +kernel
theorem dX12_chestIsLeft_5 : decode cX12_chestIsLeft 5 = .ok (.aload_n 0, 1) := by decide +kernel
theorem dX12_chestIsLeft_6 : decode cX12_chestIsLeft 6 = .ok (.getfield 17, 3) := by decide +kernel
theorem dX12_chestIsLeft_9 : decode cX12_chestIsLeft 9 = .ok (.bipush 6, 2) := by decide +kernel
theorem dX12_chestIsLeft_11 : decode cX12_chestIsLeft 11 = .ok (.iaload, 1) := by decide +kernel
theorem dX12_chestIsLeft_12 : decode cX12_chestIsLeft 12 = .ok (.iconst 1, 1) := by decide +kernel
theorem dX12_chestIsLeft_13 : decode cX12_chestIsLeft 13 = .ok (.if_icmp .ne 21, 3) := by decide +kernel
theorem dX12_chestIsLeft_16 : decode cX12_chestIsLeft 16 = .ok (.aload_n 0, 1) := by decide +kernel
theorem dX12_chestIsLeft_17 : decode cX12_chestIsLeft 17 = .ok (.aload_n 0, 1) := by decide +kernel
theorem dX12_chestIsLeft_18 : decode cX12_chestIsLeft 18 = .ok (.getfield 17, 3) := by decide +kernel
theorem dX12_chestIsLeft_21 : decode cX12_chestIsLeft 21 = .ok (.bipush 7, 2) := by decide +kernel
theorem dX12_chestIsLeft_23 : decode cX12_chestIsLeft 23 = .ok (.iaload, 1) := by decide +kernel
theorem dX12_chestIsLeft_24 : decode cX12_chestIsLeft 24 = .ok (.invokevirtual 322, 3) := by decide +kernel
theorem dX12_chestIsLeft_27 : decode cX12_chestIsLeft 27 = .ok (.ifCond .eq 7, 3) := by decide +kernel
theorem dX12_chestIsLeft_30 : decode cX12_chestIsLeft 30 = .ok (.iconst 1, 1) := by decide +kernel
theorem dX12_chestIsLeft_31 : decode cX12_chestIsLeft 31 = .ok (.goto 4, 3) := by decide +kernel
theorem dX12_chestIsLeft_34 : decode cX12_chestIsLeft 34 = .ok (.iconst 0, 1) := by decide +kernel
theorem dX12_chestIsLeft_35 : decode cX12_chestIsLeft 35 = .ok (.ireturn, 1) := by decide +kernel
theorem dX12_remember_0 : decode cX12_remember 0 = .ok (.aload_n 0, 1) := by decide +kernel
theorem dX12_remember_1 : decode cX12_remember 1 = .ok (.iconst 0, 1) := by decide +kernel
theorem dX12_remember_2 : decode cX12_remember 2 = .ok (.putfield 283, 3) := by decide +kernel
theorem dX12_remember_5 : decode cX12_remember 5 = .ok (.aload_n 0, 1) := by decide +kernel
theorem dX12_remember_6 : decode cX12_remember 6 = .ok (.getfield 362, 3) := by decide +kernel
theorem dX12_remember_9 : decode cX12_remember 9 = .ok (.bipush 8, 2) := by decide +kernel
theorem dX12_remember_11 : decode cX12_remember 11 = .ok (.if_icmp .ne 44, 3) := by decide +kernel
theorem dX12_remember_14 : decode cX12_remember 14 = .ok (.iconst 1, 1) := by decide +kernel
theorem dX12_remember_15 : decode cX12_remember 15 = .ok (.istore_n 1, 1) := by decide +kernel
theorem dX12_remember_16 : decode cX12_remember 16 = .ok (.iload_n 1, 1) := by decide +kernel
theorem dX12_remember_17 : decode cX12_remember 17 = .ok (.bipush 8, 2) := by decide +kernel
theorem dX12_remember_19 : decode cX12_remember 19 = .ok (.if_icmp .ge 26, 3) := by decide +kernel
theorem dX12_remember_22 : decode cX12_remember 22 = .ok (.aload_n 0, 1) := by decide +kernel
theorem dX12_remember_23 : decode cX12_remember 23 = .ok (.getfield 25, 3) := by decide +kernel
theorem dX12_remember_26 : decode cX12_remember 26 = .ok (.iload_n 1, 1) := by decide +kernel
theorem dX12_remember_27 : decode cX12_remember 27 = .ok (.aaload, 1) := by decide +kernel
theorem dX12_remember_28 : decode cX12_remember 28 = .ok (.aload_n 0, 1) := by decide +kernel
theorem dX12_remember_29 : decode cX12_remember 29 = .ok (.getfield 25, 3) := by decide +kernel
theorem dX12_remember_32 : decode cX12_remember 32 = .ok (.iload_n 1, 1) := by decide +kernel
theorem dX12_remember_33 : decode cX12_remember 33 = .ok (.iconst 1, 1) := by decide +kernel
theorem dX12_remember_34 : decode cX12_remember 34 = .ok (.isub, 1) := by decide +kernel
theorem dX12_remember_35 : decode cX12_remember 35 = .ok (.aaload, 1) := by decide +kernel
theorem dX12_remember_36 : decode cX12_remember 36 = .ok (.invokestatic 261, 3) := by decide +kernel
theorem dX12_remember_39 : decode cX12_remember 39 = .ok (.iinc 1 1, 3) := by decide +kernel
theorem dX12_remember_42 : decode cX12_remember 42 = .ok (.goto (-26), 3) := by decide +kernel
theorem dX12_remember_45 : decode cX12_remember 45 = .ok (.aload_n 0, 1) := by decide +kernel
theorem dX12_remember_46 : decode cX12_remember 46 = .ok (.dup, 1) := by decide +kernel
theorem dX12_remember_47 : decode cX12_remember 47 = .ok (.getfield 362, 3) := by decide +kernel
theorem dX12_remember_50 : decode cX12_remember 50 = .ok (.iconst 1, 1) := by decide +kernel
theorem dX12_remember_51 : decode cX12_remember 51 = .ok (.isub, 1) := by decide +kernel
theorem dX12_remember_52 : decode cX12_remember 52 = .ok (.putfield 362, 3) := by decide +kernel
theorem dX12_remember_55 : decode cX12_remember 55 = .ok (.aload_n 0, 1) := by decide +kernel
theorem dX12_remember_56 : decode cX12_remember 56 = .ok (.getfield 17, 3) := by decide +kernel
theorem dX12_remember_59 : decode cX12_remember 59 = .ok (.aload_n 0, 1) := by decide +kernel
theorem dX12_remember_60 : decode cX12_remember 60 = .ok (.getfield 25, 3) := by decide +kernel
theorem dX12_remember_63 : decode cX12_remember 63 = .ok (.aload_n 0, 1) := by decide +kernel
theorem dX12_remember_64 : decode cX12_remember 64 = .ok (.getfield 362, 3) := by decide +kernel
theorem dX12_remember_67 : decode cX12_remember 67 = .ok (.aaload, 1) := by decide +kernel
theorem dX12_remember_68 : decode cX12_remember 68 = .ok (.invokestatic 261, 3) := by decide +kernel
theorem dX12_remember_71 : decode cX12_remember 71 = .ok (.aload_n 0, 1) := by decide +kernel
theorem dX12_remember_72 : decode cX12_remember 72 = .ok (.dup, 1) := by decide +kernel
theorem dX12_remember_73 : decode cX12_remember 73 = .ok (.getfield 362, 3) := by decide +kernel
theorem dX12_remember_76 : decode cX12_remember 76 = .ok (.iconst 1, 1) := by decide +kernel
theorem dX12_remember_77 : decode cX12_remember 77 = .ok (.iadd, 1) := by decide +kernel
theorem dX12_remember_78 : decode cX12_remember 78 = .ok (.putfield 362, 3) := by decide +kernel
theorem dX12_remember_81 : decode cX12_remember 81 = .ok (.return_, 1) := by decide +kernel
theorem dX12_moveTo_0 : decode cX12_moveTo 0 = .ok (.aload_n 0, 1) := by decide +kernel
theorem dX12_moveTo_1 : decode cX12_moveTo 1 = .ok (.iconst 0, 1) := by decide +kernel
theorem dX12_moveTo_2 : decode cX12_moveTo 2 = .ok (.putfield 69, 3) := by decide +kernel
theorem dX12_moveTo_5 : decode cX12_moveTo 5 = .ok (.aload_n 0, 1) := by decide +kernel
theorem dX12_moveTo_6 : decode cX12_moveTo 6 = .ok (.iload_n 1, 1) := by decide +kernel
theorem dX12_moveTo_7 : decode cX12_moveTo 7 = .ok (.iload_n 2, 1) := by decide +kernel
theorem dX12_moveTo_8 : decode cX12_moveTo 8 = .ok (.invokevirtual 340, 3) := by decide +kernel
theorem dX12_moveTo_11 : decode cX12_moveTo 11 = .ok (.ifCond .eq 5, 3) := by decide +kernel
theorem dX12_moveTo_14 : decode cX12_moveTo 14 = .ok (.iconst 0, 1) := by decide +kernel
theorem dX12_moveTo_15 : decode cX12_moveTo 15 = .ok (.ireturn, 1) := by decide +kernel
theorem dX12_moveTo_16 : decode cX12_moveTo 16 = .ok (.aload_n 0, 1) := by decide +kernel
theorem dX12_moveTo_17 : decode cX12_moveTo 17 = .ok (.aload_n 0, 1) := by decide +kernel
theorem dX12_moveTo_18 : decode cX12_moveTo 18 = .ok (.getfield 17, 3) := by decide +kernel
theorem dX12_moveTo_21 : decode cX12_moveTo 21 = .ok (.iconst 4, 1) := by decide +kernel
theorem dX12_moveTo_22 : decode cX12_moveTo 22 = .ok (.iaload, 1) := by decide +kernel
theorem dX12_moveTo_23 : decode cX12_moveTo 23 = .ok (.invokevirtual 355, 3) := by decide +kernel
theorem dX12_moveTo_26 : decode cX12_moveTo 26 = .ok (.aload_n 0, 1) := by decide +kernel
theorem dX12_moveTo_27 : decode cX12_moveTo 27 = .ok (.getfield 44, 3) := by decide +kernel
theorem dX12_moveTo_30 : decode cX12_moveTo 30 = .ok (.aload_n 0, 1) := by decide +kernel
theorem dX12_moveTo_31 : decode cX12_moveTo 31 = .ok (.iload_n 1, 1) := by decide +kernel
theorem dX12_moveTo_32 : decode cX12_moveTo 32 = .ok (.iload_n 2, 1) := by decide +kernel
theorem dX12_moveTo_33 : decode cX12_moveTo 33 = .ok (.invokevirtual 271, 3) := by decide +kernel
theorem dX12_moveTo_36 : decode cX12_moveTo 36 = .ok (.iaload, 1) := by decide +kernel
theorem dX12_moveTo_37 : decode cX12_moveTo 37 = .ok (.istore_n 3, 1) := by decide +kernel
theorem dX12_moveTo_38 : decode cX12_moveTo 38 = .ok (.iload_n 3, 1) := by decide +kernel
theorem dX12_moveTo_39 : decode cX12_moveTo 39 = .ok (.iconst (-1), 1) := by decide +kernel
theorem dX12_moveTo_40 : decode cX12_moveTo 40 = .ok (.if_icmp .ne 5, 3) := by decide +kernel
theorem dX12_moveTo_43 : decode cX12_moveTo 43 = .ok (.iconst (-1), 1) := by decide +kernel
theorem dX12_moveTo_44 : decode cX12_moveTo 44 = .ok (.ireturn, 1) := by decide +kernel
theorem dX12_moveTo_45 : decode cX12_moveTo 45 = .ok (.aload_n 0, 1) := by decide +kernel
theorem dX12_moveTo_46 : decode cX12_moveTo 46 = .ok (.invokevirtual 258, 3) := by decide +kernel
theorem dX12_moveTo_49 : decode cX12_moveTo 49 = .ok (.aload_n 0, 1) := by decide +kernel
theorem dX12_moveTo_50 : decode cX12_moveTo 50 = .ok (.getfield 17, 3) := by decide +kernel
theorem dX12_moveTo_53 : decode cX12_moveTo 53 = .ok (.iconst 4, 1) := by decide +kernel
theorem dX12_moveTo_54 : decode cX12_moveTo 54 = .ok (.aload_n 0, 1) := by decide +kernel
theorem dX12_moveTo_55 : decode cX12_moveTo 55 = .ok (.iload_n 1, 1) := by decide +kernel
theorem dX12_moveTo_56 : decode cX12_moveTo 56 = .ok (.iload_n 2, 1) := by decide +kernel
theorem dX12_moveTo_57 : decode cX12_moveTo 57 = .ok (.invokevirtual 271, 3) := by decide +kernel
theorem dX12_moveTo_60 : decode cX12_moveTo 60 = .ok (.iastore, 1) := by decide +kernel
theorem dX12_moveTo_61 : decode cX12_moveTo 61 = .ok (.aload_n 0, 1) := by decide +kernel
theorem dX12_moveTo_62 : decode cX12_moveTo 62 = .ok (.getfield 17, 3) := by decide +kernel
theorem dX12_moveTo_65 : decode cX12_moveTo 65 = .ok (.iconst 5, 1) := by decide +kernel
theorem dX12_moveTo_66 : decode cX12_moveTo 66 = .ok (.dup2, 1) := by decide +kernel
theorem dX12_moveTo_67 : decode cX12_moveTo 67 = .ok (.iaload, 1) := by decide +kernel
theorem dX12_moveTo_68 : decode cX12_moveTo 68 = .ok (.iload_n 3, 1) := by decide +kernel
theorem dX12_moveTo_69 : decode cX12_moveTo 69 = .ok (.iadd, 1) := by decide +kernel
theorem dX12_moveTo_70 : decode cX12_moveTo 70 = .ok (.iastore, 1) := by decide +kernel
theorem dX12_moveTo_71 : decode cX12_moveTo 71 = .ok (.iload_n 3, 1) := by decide +kernel
theorem dX12_moveTo_72 : decode cX12_moveTo 72 = .ok (.ireturn, 1) := by decide +kernel
theorem dX12_dig_0 : decode cX12_dig 0 = .ok (.aload_n 0, 1) := by decide +kernel
theorem dX12_dig_1 : decode cX12_dig 1 = .ok (.iconst 0, 1) := by decide +kernel
theorem dX12_dig_2 : decode cX12_dig 2 = .ok (.putfield 69, 3) := by decide +kernel
theorem dX12_dig_5 : decode cX12_dig 5 = .ok (.aload_n 0, 1) := by decide +kernel
theorem dX12_dig_6 : decode cX12_dig 6 = .ok (.invokevirtual 258, 3) := by decide +kernel
theorem dX12_dig_9 : decode cX12_dig 9 = .ok (.sipush 408, 3) := by decide +kernel
theorem dX12_dig_12 : decode cX12_dig 12 = .ok (.aload_n 0, 1) := by decide +kernel
theorem dX12_dig_13 : decode cX12_dig 13 = .ok (.getfield 17, 3) := by decide +kernel
theorem dX12_dig_16 : decode cX12_dig 16 = .ok (.iconst 4, 1) := by decide +kernel
theorem dX12_dig_17 : decode cX12_dig 17 = .ok (.iaload, 1) := by decide +kernel
theorem dX12_dig_18 : decode cX12_dig 18 = .ok (.iadd, 1) := by decide +kernel
theorem dX12_dig_19 : decode cX12_dig 19 = .ok (.istore_n 1, 1) := by decide +kernel
theorem dX12_dig_20 : decode cX12_dig 20 = .ok (.aload_n 0, 1) := by decide +kernel
theorem dX12_dig_21 : decode cX12_dig 21 = .ok (.getfield 17, 3) := by decide +kernel
theorem dX12_dig_24 : decode cX12_dig 24 = .ok (.iload_n 1, 1) := by decide +kernel
theorem dX12_dig_25 : decode cX12_dig 25 = .ok (.iaload, 1) := by decide +kernel
theorem dX12_dig_26 : decode cX12_dig 26 = .ok (.istore_n 2, 1) := by decide +kernel
theorem dX12_dig_27 : decode cX12_dig 27 = .ok (.aload_n 0, 1) := by decide +kernel
theorem dX12_dig_28 : decode cX12_dig 28 = .ok (.getfield 17, 3) := by decide +kernel
theorem dX12_dig_31 : decode cX12_dig 31 = .ok (.iload_n 1, 1) := by decide +kernel
theorem dX12_dig_32 : decode cX12_dig 32 = .ok (.iconst 1, 1) := by decide +kernel
theorem dX12_dig_33 : decode cX12_dig 33 = .ok (.iastore, 1) := by decide +kernel
theorem dX12_dig_34 : decode cX12_dig 34 = .ok (.iload_n 2, 1) := by decide +kernel
theorem dX12_dig_35 : decode cX12_dig 35 = .ok (.iconst 1, 1) := by decide +kernel
theorem dX12_dig_36 : decode cX12_dig 36 = .ok (.if_icmp .ne 5, 3) := by decide +kernel
theorem dX12_dig_39 : decode cX12_dig 39 = .ok (.iconst 0, 1) := by decide +kernel
theorem dX12_dig_40 : decode cX12_dig 40 = .ok (.ireturn, 1) := by decide +kernel
theorem dX12_dig_41 : decode cX12_dig 41 = .ok (.aload_n 0, 1) := by decide +kernel
theorem dX12_dig_42 : decode cX12_dig 42 = .ok (.getfield 17, 3) := by decide +kernel
theorem dX12_dig_45 : decode cX12_dig 45 = .ok (.bipush 6, 2) := by decide +kernel
theorem dX12_dig_47 : decode cX12_dig 47 = .ok (.iaload, 1) := by decide +kernel
theorem dX12_dig_48 : decode cX12_dig 48 = .ok (.iconst 1, 1) := by decide +kernel
theorem dX12_dig_49 : decode cX12_dig 49 = .ok (.if_icmp .ne 19, 3) := by decide +kernel
theorem dX12_dig_52 : decode cX12_dig 52 = .ok (.aload_n 0, 1) := by decide +kernel
theorem dX12_dig_53 : decode cX12_dig 53 = .ok (.getfield 17, 3) := by decide +kernel
theorem dX12_dig_56 : decode cX12_dig 56 = .ok (.bipush 7, 2) := by decide +kernel
theorem dX12_dig_58 : decode cX12_dig 58 = .ok (.iaload, 1) := by decide +kernel
theorem dX12_dig_59 : decode cX12_dig 59 = .ok (.aload_n 0, 1) := by decide +kernel
theorem dX12_dig_60 : decode cX12_dig 60 = .ok (.getfield 17, 3) := by decide +kernel
theorem dX12_dig_63 : decode cX12_dig 63 = .ok (.iconst 4, 1) := by decide +kernel
theorem dX12_dig_64 : decode cX12_dig 64 = .ok (.iaload, 1) := by decide +kernel
theorem dX12_dig_65 : decode cX12_dig 65 = .ok (.if_icmp .eq 5, 3) := by decide +kernel
theorem dX12_dig_68 : decode cX12_dig 68 = .ok (.iconst 1, 1) := by decide +kernel
theorem dX12_dig_69 : decode cX12_dig 69 = .ok (.ireturn, 1) := by decide +kernel
theorem dX12_dig_70 : decode cX12_dig 70 = .ok (.aload_n 0, 1) := by decide +kernel
theorem dX12_dig_71 : decode cX12_dig 71 = .ok (.getfield 17, 3) := by decide +kernel
theorem dX12_dig_74 : decode cX12_dig 74 = .ok (.bipush 6, 2) := by decide +kernel
theorem dX12_dig_76 : decode cX12_dig 76 = .ok (.iconst 2, 1) := by decide +kernel
theorem dX12_dig_77 : decode cX12_dig 77 = .ok (.iastore, 1) := by decide +kernel
theorem dX12_dig_78 : decode cX12_dig 78 = .ok (.iconst 2, 1) := by decide +kernel
theorem dX12_dig_79 : decode cX12_dig 79 = .ok (.ireturn, 1) := by decide +kernel
theorem dX12_use_0 : decode cX12_use 0 = .ok (.aload_n 0, 1) := by decide +kernel
theorem dX12_use_1 : decode cX12_use 1 = .ok (.iconst 0, 1) := by decide +kernel
theorem dX12_use_2 : decode cX12_use 2 = .ok (.putfield 69, 3) := by decide +kernel
theorem dX12_use_5 : decode cX12_use 5 = .ok (.aload_n 0, 1) := by decide +kernel
theorem dX12_use_6 : decode cX12_use 6 = .ok (.iload_n 1, 1) := by decide +kernel
theorem dX12_use_7 : decode cX12_use 7 = .ok (.invokevirtual 346, 3) := by decide +kernel
theorem dX12_use_10 : decode cX12_use 10 = .ok (.ifCond .eq 5, 3) := by decide +kernel
theorem dX12_use_13 : decode cX12_use 13 = .ok (.iconst 0, 1) := by decide +kernel
theorem dX12_use_14 : decode cX12_use 14 = .ok (.ireturn, 1) := by decide +kernel
theorem dX12_use_15 : decode cX12_use 15 = .ok (.aload_n 0, 1) := by decide +kernel
theorem dX12_use_16 : decode cX12_use 16 = .ok (.invokevirtual 258, 3) := by decide +kernel
theorem dX12_use_19 : decode cX12_use 19 = .ok (.aload_n 0, 1) := by decide +kernel
theorem dX12_use_20 : decode cX12_use 20 = .ok (.getfield 17, 3) := by decide +kernel
theorem dX12_use_23 : decode cX12_use 23 = .ok (.iload_n 1, 1) := by decide +kernel
theorem dX12_use_24 : decode cX12_use 24 = .ok (.invokestatic 200, 3) := by decide +kernel
theorem dX12_use_27 : decode cX12_use 27 = .ok (.iconst 0, 1) := by decide +kernel
theorem dX12_use_28 : decode cX12_use 28 = .ok (.iadd, 1) := by decide +kernel
theorem dX12_use_29 : decode cX12_use 29 = .ok (.iload_n 2, 1) := by decide +kernel
theorem dX12_use_30 : decode cX12_use 30 = .ok (.ifCond .eq 7, 3) := by decide +kernel
theorem dX12_use_33 : decode cX12_use 33 = .ok (.iconst 1, 1) := by decide +kernel
theorem dX12_use_34 : decode cX12_use 34 = .ok (.goto 4, 3) := by decide +kernel
theorem dX12_use_37 : decode cX12_use 37 = .ok (.iconst 0, 1) := by decide +kernel
theorem dX12_use_38 : decode cX12_use 38 = .ok (.iastore, 1) := by decide +kernel
theorem dX12_use_39 : decode cX12_use 39 = .ok (.aload_n 0, 1) := by decide +kernel
theorem dX12_use_40 : decode cX12_use 40 = .ok (.iconst 1, 1) := by decide +kernel
theorem dX12_use_41 : decode cX12_use 41 = .ok (.invokevirtual 331, 3) := by decide +kernel
theorem dX12_use_44 : decode cX12_use 44 = .ok (.ireturn, 1) := by decide +kernel
theorem dX12_hide_0 : decode cX12_hide 0 = .ok (.aload_n 0, 1) := by decide +kernel
theorem dX12_hide_1 : decode cX12_hide 1 = .ok (.iconst 0, 1) := by decide +kernel
theorem dX12_hide_2 : decode cX12_hide 2 = .ok (.putfield 69, 3) := by decide +kernel
theorem dX12_hide_5 : decode cX12_hide 5 = .ok (.aload_n 0, 1) := by decide +kernel
theorem dX12_hide_6 : decode cX12_hide 6 = .ok (.iload_n 1, 1) := by decide +kernel
theorem dX12_hide_7 : decode cX12_hide 7 = .ok (.iconst 0, 1) := by decide +kernel
theorem dX12_hide_8 : decode cX12_hide 8 = .ok (.sipush 9999, 3) := by decide +kernel
theorem dX12_hide_11 : decode cX12_hide 11 = .ok (.invokestatic 91, 3) := by decide +kernel
theorem dX12_hide_14 : decode cX12_hide 14 = .ok (.ifCond .ne 7, 3) := by decide +kernel
theorem dX12_hide_17 : decode cX12_hide 17 = .ok (.iconst 1, 1) := by decide +kernel
theorem dX12_hide_18 : decode cX12_hide 18 = .ok (.goto 4, 3) := by decide +kernel
theorem dX12_hide_21 : decode cX12_hide 21 = .ok (.iconst 0, 1) := by decide +kernel
theorem dX12_hide_22 : decode cX12_hide 22 = .ok (.iconst 1, 1) := by decide +kernel
theorem dX12_hide_23 : decode cX12_hide 23 = .ok (.invokevirtual 246, 3) := by decide +kernel
theorem dX12_hide_26 : decode cX12_hide 26 = .ok (.ifCond .eq 5, 3) := by decide +kernel
theorem dX12_hide_29 : decode cX12_hide 29 = .ok (.iconst 0, 1) := by decide +kernel
theorem dX12_hide_30 : decode cX12_hide 30 = .ok (.ireturn, 1) := by decide +kernel
theorem dX12_hide_31 : decode cX12_hide 31 = .ok (.aload_n 0, 1) := by decide +kernel
theorem dX12_hide_32 : decode cX12_hide 32 = .ok (.invokevirtual 258, 3) := by decide +kernel
theorem dX12_hide_35 : decode cX12_hide 35 = .ok (.aload_n 0, 1) := by decide +kernel
theorem dX12_hide_36 : decode cX12_hide 36 = .ok (.iconst 1, 1) := by decide +kernel
theorem dX12_hide_37 : decode cX12_hide 37 = .ok (.invokevirtual 331, 3) := by decide +kernel
theorem dX12_hide_40 : decode cX12_hide 40 = .ok (.istore_n 2, 1) := by decide +kernel
theorem dX12_hide_41 : decode cX12_hide 41 = .ok (.iload_n 2, 1) := by decide +kernel
theorem dX12_hide_42 : decode cX12_hide 42 = .ok (.ifCond .ne 7, 3) := by decide +kernel
theorem dX12_hide_45 : decode cX12_hide 45 = .ok (.iconst 0, 1) := by decide +kernel
theorem dX12_hide_46 : decode cX12_hide 46 = .ok (.goto 6, 3) := by decide +kernel
theorem dX12_hide_49 : decode cX12_hide 49 = .ok (.iload_n 1, 1) := by decide +kernel
theorem dX12_hide_50 : decode cX12_hide 50 = .ok (.iload_n 2, 1) := by decide +kernel
theorem dX12_hide_51 : decode cX12_hide 51 = .ok (.irem, 1) := by decide +kernel
theorem dX12_hide_52 : decode cX12_hide 52 = .ok (.istore_n 3, 1) := by decide +kernel
theorem dX12_hide_53 : decode cX12_hide 53 = .ok (.aload_n 0, 1) := by decide +kernel
theorem dX12_hide_54 : decode cX12_hide 54 = .ok (.getfield 17, 3) := by decide +kernel
theorem dX12_hide_57 : decode cX12_hide 57 = .ok (.bipush 6, 2) := by decide +kernel
theorem dX12_hide_59 : decode cX12_hide 59 = .ok (.iload_n 2, 1) := by decide +kernel
theorem dX12_hide_60 : decode cX12_hide 60 = .ok (.ifCond .ne 7, 3) := by decide +kernel
theorem dX12_hide_63 : decode cX12_hide 63 = .ok (.iconst 0, 1) := by decide +kernel
theorem dX12_hide_64 : decode cX12_hide 64 = .ok (.goto 4, 3) := by decide +kernel
theorem dX12_hide_67 : decode cX12_hide 67 = .ok (.iconst 1, 1) := by decide +kernel
theorem dX12_hide_68 : decode cX12_hide 68 = .ok (.iastore, 1) := by decide +kernel
theorem dX12_hide_69 : decode cX12_hide 69 = .ok (.aload_n 0, 1) := by decide +kernel
theorem dX12_hide_70 : decode cX12_hide 70 = .ok (.getfield 17, 3) := by decide +kernel
theorem dX12_hide_73 : decode cX12_hide 73 = .ok (.bipush 7, 2) := by decide +kernel
theorem dX12_hide_75 : decode cX12_hide 75 = .ok (.iconst 0, 1) := by decide +kernel
theorem dX12_hide_76 : decode cX12_hide 76 = .ok (.iastore, 1) := by decide +kernel
theorem dX12_hide_77 : decode cX12_hide 77 = .ok (.iconst 0, 1) := by decide +kernel
theorem dX12_hide_78 : decode cX12_hide 78 = .ok (.istore 4, 2) := by decide +kernel
theorem dX12_hide_80 : decode cX12_hide 80 = .ok (.iload 4, 2) := by decide +kernel
theorem dX12_hide_82 : decode cX12_hide 82 = .ok (.aload_n 0, 1) := by decide +kernel
theorem dX12_hide_83 : decode cX12_hide 83 = .ok (.invokevirtual 290, 3) := by decide +kernel
theorem dX12_hide_86 : decode cX12_hide 86 = .ok (.if_icmp .ge 41, 3) := by decide +kernel
theorem dX12_hide_89 : decode cX12_hide 89 = .ok (.iload_n 2, 1) := by decide +kernel
theorem dX12_hide_90 : decode cX12_hide 90 = .ok (.ifCond .le 37, 3) := by decide +kernel
theorem dX12_hide_93 : decode cX12_hide 93 = .ok (.aload_n 0, 1) := by decide +kernel
theorem dX12_hide_94 : decode cX12_hide 94 = .ok (.iload 4, 2) := by decide +kernel
theorem dX12_hide_96 : decode cX12_hide 96 = .ok (.invokevirtual 322, 3) := by decide +kernel
theorem dX12_hide_99 : decode cX12_hide 99 = .ok (.ifCond .ne 6, 3) := by decide +kernel
theorem dX12_hide_102 : decode cX12_hide 102 = .ok (.goto 19, 3) := by decide +kernel
theorem dX12_hide_105 : decode cX12_hide 105 = .ok (.iload_n 3, 1) := by decide +kernel
theorem dX12_hide_106 : decode cX12_hide 106 = .ok (.ifCond .ne 12, 3) := by decide +kernel
theorem dX12_hide_109 : decode cX12_hide 109 = .ok (.aload_n 0, 1) := by decide +kernel
theorem dX12_hide_110 : decode cX12_hide 110 = .ok (.getfield 17, 3) := by decide +kernel
theorem dX12_hide_113 : decode cX12_hide 113 = .ok (.bipush 7, 2) := by decide +kernel
theorem dX12_hide_115 : decode cX12_hide 115 = .ok (.iload 4, 2) := by decide +kernel
theorem dX12_hide_117 : decode cX12_hide 117 = .ok (.iastore, 1) := by decide +kernel
theorem dX12_hide_118 : decode cX12_hide 118 = .ok (.iinc 3 (-1), 3) := by decide +kernel
theorem dX12_hide_121 : decode cX12_hide 121 = .ok (.iinc 4 1, 3) := by decide +kernel
theorem dX12_hide_124 : decode cX12_hide 124 = .ok (.goto (-44), 3) := by decide +kernel
theorem dX12_hide_127 : decode cX12_hide 127 = .ok (.iload_n 2, 1) := by decide +kernel
theorem dX12_hide_128 : decode cX12_hide 128 = .ok (.ireturn, 1) := by decide +kernel
theorem dX12_turn_0 : decode cX12_turn 0 = .ok (.aload_n 0, 1) := by decide +kernel
theorem dX12_turn_1 : decode cX12_turn 1 = .ok (.iconst 0, 1) := by decide +kernel
theorem dX12_turn_2 : decode cX12_turn 2 = .ok (.putfield 69, 3) := by decide +kernel
theorem dX12_turn_5 : decode cX12_turn 5 = .ok (.aload_n 0, 1) := by decide +kernel
theorem dX12_turn_6 : decode cX12_turn 6 = .ok (.iload_n 1, 1) := by decide +kernel
theorem dX12_turn_7 : decode cX12_turn 7 = .ok (.iconst 0, 1) := by decide +kernel
theorem dX12_turn_8 : decode cX12_turn 8 = .ok (.aload_n 0, 1) := by decide +kernel
theorem dX12_turn_9 : decode cX12_turn 9 = .ok (.getfield 17, 3) := by decide +kernel
theorem dX12_turn_12 : decode cX12_turn 12 = .ok (.iconst 2, 1) := by decide +kernel
theorem dX12_turn_13 : decode cX12_turn 13 = .ok (.iaload, 1) := by decide +kernel
theorem dX12_turn_14 : decode cX12_turn 14 = .ok (.iconst 1, 1) := by decide +kernel
theorem dX12_turn_15 : decode cX12_turn 15 = .ok (.isub, 1) := by decide +kernel
theorem dX12_turn_16 : decode cX12_turn 16 = .ok (.invokestatic 91, 3) := by decide +kernel
theorem dX12_turn_19 : decode cX12_turn 19 = .ok (.ifCond .ne 7, 3) := by decide +kernel
theorem dX12_turn_22 : decode cX12_turn 22 = .ok (.iconst 1, 1) := by decide +kernel
theorem dX12_turn_23 : decode cX12_turn 23 = .ok (.goto 4, 3) := by decide +kernel
theorem dX12_turn_26 : decode cX12_turn 26 = .ok (.iconst 0, 1) := by decide +kernel
theorem dX12_turn_27 : decode cX12_turn 27 = .ok (.iconst 1, 1) := by decide +kernel
theorem dX12_turn_28 : decode cX12_turn 28 = .ok (.invokevirtual 246, 3) := by decide +kernel
theorem dX12_turn_31 : decode cX12_turn 31 = .ok (.ifCond .ne 26, 3) := by decide +kernel
theorem dX12_turn_34 : decode cX12_turn 34 = .ok (.aload_n 0, 1) := by decide +kernel
theorem dX12_turn_35 : decode cX12_turn 35 = .ok (.iload_n 2, 1) := by decide +kernel
theorem dX12_turn_36 : decode cX12_turn 36 = .ok (.bipush (-3), 2) := by decide +kernel
theorem dX12_turn_38 : decode cX12_turn 38 = .ok (.iconst 3, 1) := by decide +kernel
theorem dX12_turn_39 : decode cX12_turn 39 = .ok (.invokestatic 91, 3) := by decide +kernel
theorem dX12_turn_42 : decode cX12_turn 42 = .ok (.ifCond .ne 7, 3) := by decide +kernel
theorem dX12_turn_45 : decode cX12_turn 45 = .ok (.iconst 1, 1) := by decide +kernel
theorem dX12_turn_46 : decode cX12_turn 46 = .ok (.goto 4, 3) := by decide +kernel
theorem dX12_turn_49 : decode cX12_turn 49 = .ok (.iconst 0, 1) := by decide +kernel
theorem dX12_turn_50 : decode cX12_turn 50 = .ok (.iconst 2, 1) := by decide +kernel
theorem dX12_turn_51 : decode cX12_turn 51 = .ok (.invokevirtual 246, 3) := by decide +kernel
theorem dX12_turn_54 : decode cX12_turn 54 = .ok (.ifCond .eq 5, 3) := by decide +kernel
theorem dX12_turn_57 : decode cX12_turn 57 = .ok (.iconst 0, 1) := by decide +kernel
theorem dX12_turn_58 : decode cX12_turn 58 = .ok (.ireturn, 1) := by decide +kernel
theorem dX12_turn_59 : decode cX12_turn 59 = .ok (.aload_n 0, 1) := by decide +kernel
theorem dX12_turn_60 : decode cX12_turn 60 = .ok (.invokevirtual 258, 3) := by decide +kernel
theorem dX12_turn_63 : decode cX12_turn 63 = .ok (.iload_n 1, 1) := by decide +kernel
theorem dX12_turn_64 : decode cX12_turn 64 = .ok (.invokestatic 167, 3) := by decide +kernel
theorem dX12_turn_67 : decode cX12_turn 67 = .ok (.iconst 4, 1) := by decide +kernel
theorem dX12_turn_68 : decode cX12_turn 68 = .ok (.iadd, 1) := by decide +kernel
theorem dX12_turn_69 : decode cX12_turn 69 = .ok (.istore_n 3, 1) := by decide +kernel
theorem dX12_turn_70 : decode cX12_turn 70 = .ok (.aload_n 0, 1) := by decide +kernel
theorem dX12_turn_71 : decode cX12_turn 71 = .ok (.getfield 17, 3) := by decide +kernel
theorem dX12_turn_74 : decode cX12_turn 74 = .ok (.iload_n 3, 1) := by decide +kernel
theorem dX12_turn_75 : decode cX12_turn 75 = .ok (.iaload, 1) := by decide +kernel
theorem dX12_turn_76 : decode cX12_turn 76 = .ok (.istore 4, 2) := by decide +kernel
theorem dX12_turn_78 : decode cX12_turn 78 = .ok (.aload_n 0, 1) := by decide +kernel
theorem dX12_turn_79 : decode cX12_turn 79 = .ok (.getfield 17, 3) := by decide +kernel
theorem dX12_turn_82 : decode cX12_turn 82 = .ok (.iload_n 3, 1) := by decide +kernel
theorem dX12_turn_83 : decode cX12_turn 83 = .ok (.iload_n 2, 1) := by decide +kernel
theorem dX12_turn_84 : decode cX12_turn 84 = .ok (.iastore, 1) := by decide +kernel
theorem dX12_turn_85 : decode cX12_turn 85 = .ok (.iload 4, 2) := by decide +kernel
theorem dX12_turn_87 : decode cX12_turn 87 = .ok (.ireturn, 1) := by decide +kernel
theorem dX12_undo_0 : decode cX12_undo 0 = .ok (.aload_n 0, 1) := by decide +kernel
theorem dX12_undo_1 : decode cX12_undo 1 = .ok (.iconst 0, 1) := by decide +kernel
theorem dX12_undo_2 : decode cX12_undo 2 = .ok (.putfield 69, 3) := by decide +kernel
theorem dX12_undo_5 : decode cX12_undo 5 = .ok (.aload_n 0, 1) := by decide +kernel
theorem dX12_undo_6 : decode cX12_undo 6 = .ok (.getfield 362, 3) := by decide +kernel
theorem dX12_undo_9 : decode cX12_undo 9 = .ok (.ifCond .ne 5, 3) := by decide +kernel
theorem dX12_undo_12 : decode cX12_undo 12 = .ok (.iconst (-1), 1) := by decide +kernel
theorem dX12_undo_13 : decode cX12_undo 13 = .ok (.ireturn, 1) := by decide +kernel
theorem dX12_undo_14 : decode cX12_undo 14 = .ok (.aload_n 0, 1) := by decide +kernel
theorem dX12_undo_15 : decode cX12_undo 15 = .ok (.dup, 1) := by decide +kernel
theorem dX12_undo_16 : decode cX12_undo 16 = .ok (.getfield 362, 3) := by decide +kernel
theorem dX12_undo_19 : decode cX12_undo 19 = .ok (.iconst 1, 1) := by decide +kernel
theorem dX12_undo_20 : decode cX12_undo 20 = .ok (.isub, 1) := by decide +kernel
theorem dX12_undo_21 : decode cX12_undo 21 = .ok (.putfield 362, 3) := by decide +kernel
theorem dX12_undo_24 : decode cX12_undo 24 = .ok (.aload_n 0, 1) := by decide +kernel
theorem dX12_undo_25 : decode cX12_undo 25 = .ok (.getfield 25, 3) := by decide +kernel
theorem dX12_undo_28 : decode cX12_undo 28 = .ok (.aload_n 0, 1) := by decide +kernel
theorem dX12_undo_29 : decode cX12_undo 29 = .ok (.getfield 362, 3) := by decide +kernel
theorem dX12_undo_32 : decode cX12_undo 32 = .ok (.aaload, 1) := by decide +kernel
theorem dX12_undo_33 : decode cX12_undo 33 = .ok (.aload_n 0, 1) := by decide +kernel
theorem dX12_undo_34 : decode cX12_undo 34 = .ok (.getfield 17, 3) := by decide +kernel
theorem dX12_undo_37 : decode cX12_undo 37 = .ok (.invokestatic 261, 3) := by decide +kernel
theorem dX12_undo_40 : decode cX12_undo 40 = .ok (.aload_n 0, 1) := by decide +kernel
theorem dX12_undo_41 : decode cX12_undo 41 = .ok (.iconst 0, 1) := by decide +kernel
theorem dX12_undo_42 : decode cX12_undo 42 = .ok (.putfield 283, 3) := by decide +kernel
theorem dX12_undo_45 : decode cX12_undo 45 = .ok (.aload_n 0, 1) := by decide +kernel
theorem dX12_undo_46 : decode cX12_undo 46 = .ok (.getfield 362, 3) := by decide +kernel
theorem dX12_undo_49 : decode cX12_undo 49 = .ok (.ireturn, 1) := by decide +kernel
theorem dX12_checksum_0 : decode cX12_checksum 0 = .ok (.aload_n 0, 1) := by decide +kernel
theorem dX12_checksum_1 : decode cX12_checksum 1 = .ok (.iconst 0, 1) := by decide +kernel
theorem dX12_checksum_2 : decode cX12_checksum 2 = .ok (.putfield 69, 3) := by decide +kernel
theorem dX12_checksum_5 : decode cX12_checksum 5 = .ok (.lconst 0, 1) := by decide +kernel
theorem dX12_checksum_6 : decode cX12_checksum 6 = .ok (.lstore_n 1, 1) := by decide +kernel
theorem dX12_checksum_7 : decode cX12_checksum 7 = .ok (.iconst 0, 1) := by decide +kernel
theorem dX12_checksum_8 : decode cX12_checksum 8 = .ok (.istore_n 3, 1) := by decide +kernel
theorem dX12_checksum_9 : decode cX12_checksum 9 = .ok (.iload_n 3, 1) := by decide +kernel
theorem dX12_checksum_10 : decode cX12_checksum 10 = .ok (.bipush 13, 2) := by decide +kernel
theorem dX12_checksum_12 : decode cX12_checksum 12 = .ok (.if_icmp .ge 22, 3) := by decide +kernel
theorem dX12_checksum_15 : decode cX12_checksum 15 = .ok (.ldc2_w 365, 3) := by decide +kernel
theorem dX12_checksum_18 : decode cX12_checksum 18 = .ok (.lload_n 1, 1) := by decide +kernel
theorem dX12_checksum_19 : decode cX12_checksum 19 = .ok (.lmul, 1) := by decide +kernel
theorem dX12_checksum_20 : decode cX12_checksum 20 = .ok (.aload_n 0, 1) := by decide +kernel
theorem dX12_checksum_21 : decode cX12_checksum 21 = .ok (.iload_n 3, 1) := by decide +kernel
theorem dX12_checksum_22 : decode cX12_checksum 22 = .ok (.invokevirtual 337, 3) := by decide +kernel
theorem dX12_checksum_25 : decode cX12_checksum 25 = .ok (.i2l, 1) := by decide +kernel
theorem dX12_checksum_26 : decode cX12_checksum 26 = .ok (.ladd, 1) := by decide +kernel
theorem dX12_checksum_27 : decode cX12_checksum 27 = .ok (.lstore_n 1, 1) := by decide +kernel
theorem dX12_checksum_28 : decode cX12_checksum 28 = .ok (.iinc 3 1, 3) := by decide +kernel
theorem dX12_checksum_31 : decode cX12_checksum 31 = .ok (.goto (-22), 3) := by decide +kernel
theorem dX12_checksum_34 : decode cX12_checksum 34 = .ok (.iconst 0, 1) := by decide +kernel
theorem dX12_checksum_35 : decode cX12_checksum 35 = .ok (.istore_n 3, 1) := by decide +kernel
theorem dX12_checksum_36 : decode cX12_checksum 36 = .ok (.iload_n 3, 1) := by decide +kernel
theorem dX12_checksum_37 : decode cX12_checksum 37 = .ok (.aload_n 0, 1) := by decide +kernel
theorem dX12_checksum_38 : decode cX12_checksum 38 = .ok (.invokevirtual 290, 3) := by decide +kernel
theorem dX12_checksum_41 : decode cX12_checksum 41 = .ok (.if_icmp .ge 22, 3) := by decide +kernel
theorem dX12_checksum_44 : decode cX12_checksum 44 = .ok (.ldc2_w 365, 3) := by decide +kernel
theorem dX12_checksum_47 : decode cX12_checksum 47 = .ok (.lload_n 1, 1) := by decide +kernel
theorem dX12_checksum_48 : decode cX12_checksum 48 = .ok (.lmul, 1) := by decide +kernel
theorem dX12_checksum_49 : decode cX12_checksum 49 = .ok (.aload_n 0, 1) := by decide +kernel
theorem dX12_checksum_50 : decode cX12_checksum 50 = .ok (.iload_n 3, 1) := by decide +kernel
theorem dX12_checksum_51 : decode cX12_checksum 51 = .ok (.invokevirtual 343, 3) := by decide +kernel
theorem dX12_checksum_54 : decode cX12_checksum 54 = .ok (.i2l, 1) := by decide +kernel
theorem dX12_checksum_55 : decode cX12_checksum 55 = .ok (.ladd, 1) := by decide +kernel
theorem dX12_checksum_56 : decode cX12_checksum 56 = .ok (.lstore_n 1, 1) := by decide +kernel
theorem dX12_checksum_57 : decode cX12_checksum 57 = .ok (.iinc 3 1, 3) := by decide +kernel
theorem dX12_checksum_60 : decode cX12_checksum 60 = .ok (.goto (-24), 3) := by decide +kernel
theorem dX12_checksum_63 : decode cX12_checksum 63 = .ok (.iconst 0, 1) := by decide +kernel
theorem dX12_checksum_64 : decode cX12_checksum 64 = .ok (.istore_n 3, 1) := by decide +kernel
theorem dX12_checksum_65 : decode cX12_checksum 65 = .ok (.iload_n 3, 1) := by decide +kernel
theorem dX12_checksum_66 : decode cX12_checksum 66 = .ok (.aload_n 0, 1) := by decide +kernel
theorem dX12_checksum_67 : decode cX12_checksum 67 = .ok (.getfield 17, 3) := by decide +kernel
theorem dX12_checksum_70 : decode cX12_checksum 70 = .ok (.iconst 3, 1) := by decide +kernel
theorem dX12_checksum_71 : decode cX12_checksum 71 = .ok (.iaload, 1) := by decide +kernel
theorem dX12_checksum_72 : decode cX12_checksum 72 = .ok (.if_icmp .ge 62, 3) := by decide +kernel
theorem dX12_checksum_75 : decode cX12_checksum 75 = .ok (.ldc2_w 365, 3) := by decide +kernel
theorem dX12_checksum_78 : decode cX12_checksum 78 = .ok (.lload_n 1, 1) := by decide +kernel
theorem dX12_checksum_79 : decode cX12_checksum 79 = .ok (.lmul, 1) := by decide +kernel
theorem dX12_checksum_80 : decode cX12_checksum 80 = .ok (.aload_n 0, 1) := by decide +kernel
theorem dX12_checksum_81 : decode cX12_checksum 81 = .ok (.getfield 17, 3) := by decide +kernel
theorem dX12_checksum_84 : decode cX12_checksum 84 = .ok (.iload_n 3, 1) := by decide +kernel
theorem dX12_checksum_85 : decode cX12_checksum 85 = .ok (.invokestatic 200, 3) := by decide +kernel
theorem dX12_checksum_88 : decode cX12_checksum 88 = .ok (.iconst 0, 1) := by decide +kernel
theorem dX12_checksum_89 : decode cX12_checksum 89 = .ok (.iadd, 1) := by decide +kernel
theorem dX12_checksum_90 : decode cX12_checksum 90 = .ok (.iaload, 1) := by decide +kernel
theorem dX12_checksum_91 : decode cX12_checksum 91 = .ok (.i2l, 1) := by decide +kernel
theorem dX12_checksum_92 : decode cX12_checksum 92 = .ok (.ladd, 1) := by decide +kernel
theorem dX12_checksum_93 : decode cX12_checksum 93 = .ok (.lstore_n 1, 1) := by decide +kernel
theorem dX12_checksum_94 : decode cX12_checksum 94 = .ok (.iconst 0, 1) := by decide +kernel
theorem dX12_checksum_95 : decode cX12_checksum 95 = .ok (.istore 4, 2) := by decide +kernel
theorem dX12_checksum_97 : decode cX12_checksum 97 = .ok (.iload 4, 2) := by decide +kernel
theorem dX12_checksum_99 : decode cX12_checksum 99 = .ok (.aload_n 0, 1) := by decide +kernel
theorem dX12_checksum_100 : decode cX12_checksum 100 = .ok (.iload_n 3, 1) := by decide +kernel
theorem dX12_checksum_101 : decode cX12_checksum 101 = .ok (.invokevirtual 287, 3) := by decide +kernel
theorem dX12_checksum_104 : decode cX12_checksum 104 = .ok (.if_icmp .gt 24, 3) := by decide +kernel
theorem dX12_checksum_107 : decode cX12_checksum 107 = .ok (.ldc2_w 365, 3) := by decide +kernel
theorem dX12_checksum_110 : decode cX12_checksum 110 = .ok (.lload_n 1, 1) := by decide +kernel
theorem dX12_checksum_111 : decode cX12_checksum 111 = .ok (.lmul, 1) := by decide +kernel
theorem dX12_checksum_112 : decode cX12_checksum 112 = .ok (.aload_n 0, 1) := by decide +kernel
theorem dX12_checksum_113 : decode cX12_checksum 113 = .ok (.iload_n 3, 1) := by decide +kernel
theorem dX12_checksum_114 : decode cX12_checksum 114 = .ok (.iload 4, 2) := by decide +kernel
theorem dX12_checksum_116 : decode cX12_checksum 116 = .ok (.invokevirtual 349, 3) := by decide +kernel
theorem dX12_checksum_119 : decode cX12_checksum 119 = .ok (.i2l, 1) := by decide +kernel
theorem dX12_checksum_120 : decode cX12_checksum 120 = .ok (.ladd, 1) := by decide +kernel
theorem dX12_checksum_121 : decode cX12_checksum 121 = .ok (.lstore_n 1, 1) := by decide +kernel
theorem dX12_checksum_122 : decode cX12_checksum 122 = .ok (.iinc 4 1, 3) := by decide +kernel
theorem dX12_checksum_125 : decode cX12_checksum 125 = .ok (.goto (-28), 3) := by decide +kernel
theorem dX12_checksum_128 : decode cX12_checksum 128 = .ok (.iinc 3 1, 3) := by decide +kernel
theorem dX12_checksum_131 : decode cX12_checksum 131 = .ok (.goto (-66), 3) := by decide +kernel
theorem dX12_checksum_134 : decode cX12_checksum 134 = .ok (.lload_n 1, 1) := by decide +kernel
theorem dX12_checksum_135 : decode cX12_checksum 135 = .ok (.lreturn, 1) := by decide +kernel
theorem dJ6_bitCount_0f7a4_0 : decode cJ6_bitCount_0f7a4 0 = .ok (.iload_n 0, 1) := by decide +kernel
theorem dJ6_bitCount_0f7a4_1 : decode cJ6_bitCount_0f7a4 1 = .ok (.iload_n 0, 1) := by decide +kernel
theorem dJ6_bitCount_0f7a4_2 : decode cJ6_bitCount_0f7a4 2 = .ok (.iconst 1, 1) := by decide +kernel
theorem dJ6_bitCount_0f7a4_3 : decode cJ6_bitCount_0f7a4 3 = .ok (.iushr, 1) := by decide +kernel
theorem dJ6_bitCount_0f7a4_4 : decode cJ6_bitCount_0f7a4 4 = .ok (.ldc_w 265, 3) := by decide +kernel
theorem dJ6_bitCount_0f7a4_7 : decode cJ6_bitCount_0f7a4 7 = .ok (.iand, 1) := by decide +kernel
theorem dJ6_bitCount_0f7a4_8 : decode cJ6_bitCount_0f7a4 8 = .ok (.isub, 1) := by decide +kernel
theorem dJ6_bitCount_0f7a4_9 : decode cJ6_bitCount_0f7a4 9 = .ok (.istore_n 0, 1) := by decide +kernel
theorem dJ6_bitCount_0f7a4_10 : decode cJ6_bitCount_0f7a4 10 = .ok (.iload_n 0, 1) := by decide +kernel
theorem dJ6_bitCount_0f7a4_11 : decode cJ6_bitCount_0f7a4 11 = .ok (.ldc_w 266, 3) := by decide +kernel
theorem dJ6_bitCount_0f7a4_14 : decode cJ6_bitCount_0f7a4 14 = .ok (.iand, 1) := by decide +kernel
theorem dJ6_bitCount_0f7a4_15 : decode cJ6_bitCount_0f7a4 15 = .ok (.iload_n 0, 1) := by decide +kernel
theorem dJ6_bitCount_0f7a4_16 : decode cJ6_bitCount_0f7a4 16 = .ok (.iconst 2, 1) := by decide +kernel
theorem dJ6_bitCount_0f7a4_17 : decode cJ6_bitCount_0f7a4 17 = .ok (.iushr, 1) := by decide +kernel
theorem dJ6_bitCount_0f7a4_18 : decode cJ6_bitCount_0f7a4 18 = .ok (.ldc_w 266, 3) := by decide +kernel
theorem dJ6_bitCount_0f7a4_21 : decode cJ6_bitCount_0f7a4 21 = .ok (.iand, 1) := by decide +kernel
theorem dJ6_bitCount_0f7a4_22 : decode cJ6_bitCount_0f7a4 22 = .ok (.iadd, 1) := by decide +kernel
theorem dJ6_bitCount_0f7a4_23 : decode cJ6_bitCount_0f7a4 23 = .ok (.istore_n 0, 1) := by decide +kernel
theorem dJ6_bitCount_0f7a4_24 : decode cJ6_bitCount_0f7a4 24 = .ok (.iload_n 0, 1) := by decide +kernel
theorem dJ6_bitCount_0f7a4_25 : decode cJ6_bitCount_0f7a4 25 = .ok (.iload_n 0, 1) := by decide +kernel
theorem dJ6_bitCount_0f7a4_26 : decode cJ6_bitCount_0f7a4 26 = .ok (.iconst 4, 1) := by decide +kernel
theorem dJ6_bitCount_0f7a4_27 : decode cJ6_bitCount_0f7a4 27 = .ok (.iushr, 1) := by decide +kernel
theorem dJ6_bitCount_0f7a4_28 : decode cJ6_bitCount_0f7a4 28 = .ok (.iadd, 1) := by decide +kernel
theorem dJ6_bitCount_0f7a4_29 : decode cJ6_bitCount_0f7a4 29 = .ok (.ldc_w 267, 3) := by decide +kernel
theorem dJ6_bitCount_0f7a4_32 : decode cJ6_bitCount_0f7a4 32 = .ok (.iand, 1) := by decide +kernel
theorem dJ6_bitCount_0f7a4_33 : decode cJ6_bitCount_0f7a4 33 = .ok (.istore_n 0, 1) := by decide +kernel
theorem dJ6_bitCount_0f7a4_34 : decode cJ6_bitCount_0f7a4 34 = .ok (.iload_n 0, 1) := by decide +kernel
theorem dJ6_bitCount_0f7a4_35 : decode cJ6_bitCount_0f7a4 35 = .ok (.iload_n 0, 1) := by decide +kernel
theorem dJ6_bitCount_0f7a4_36 : decode cJ6_bitCount_0f7a4 36 = .ok (.bipush 8, 2) := by decide +kernel
theorem dJ6_bitCount_0f7a4_38 : decode cJ6_bitCount_0f7a4 38 = .ok (.iushr, 1) := by decide +kernel
theorem dJ6_bitCount_0f7a4_39 : decode cJ6_bitCount_0f7a4 39 = .ok (.iadd, 1) := by decide +kernel
theorem dJ6_bitCount_0f7a4_40 : decode cJ6_bitCount_0f7a4 40 = .ok (.istore_n 0, 1) := by decide +kernel
theorem dJ6_bitCount_0f7a4_41 : decode cJ6_bitCount_0f7a4 41 = .ok (.iload_n 0, 1) := by decide +kernel
theorem dJ6_bitCount_0f7a4_42 : decode cJ6_bitCount_0f7a4 42 = .ok (.iload_n 0, 1) := by decide +kernel
theorem dJ6_bitCount_0f7a4_43 : decode cJ6_bitCount_0f7a4 43 = .ok (.bipush 16, 2) := by decide +kernel
theorem dJ6_bitCount_0f7a4_45 : decode cJ6_bitCount_0f7a4 45 = .ok (.iushr, 1) := by decide +kernel
theorem dJ6_bitCount_0f7a4_46 : decode cJ6_bitCount_0f7a4 46 = .ok (.iadd, 1) := by decide +kernel
theorem dJ6_bitCount_0f7a4_47 : decode cJ6_bitCount_0f7a4 47 = .ok (.istore_n 0, 1) := by decide +kernel
theorem dJ6_bitCount_0f7a4_48 : decode cJ6_bitCount_0f7a4 48 = .ok (.iload_n 0, 1) := by decide +kernel
theorem dJ6_bitCount_0f7a4_49 : decode cJ6_bitCount_0f7a4 49 = .ok (.bipush 63, 2) := by decide +kernel
theorem dJ6_bitCount_0f7a4_51 : decode cJ6_bitCount_0f7a4 51 = .ok (.iand, 1) := by decide +kernel
theorem dJ6_bitCount_0f7a4_52 : decode cJ6_bitCount_0f7a4 52 = .ok (.ireturn, 1) := by decide +kernel
theorem dJ9_max_7cf53_0 : decode cJ9_max_7cf53 0 = .ok (.iload_n 0, 1) := by decide +kernel
theorem dJ9_max_7cf53_1 : decode cJ9_max_7cf53 1 = .ok (.iload_n 1, 1) := by decide +kernel
theorem dJ9_max_7cf53_2 : decode cJ9_max_7cf53 2 = .ok (.if_icmp .lt 7, 3) := by decide +kernel
theorem dJ9_max_7cf53_5 : decode cJ9_max_7cf53 5 = .ok (.iload_n 0, 1) := by decide +kernel
theorem dJ9_max_7cf53_6 : decode cJ9_max_7cf53 6 = .ok (.goto 4, 3) := by decide +kernel
theorem dJ9_max_7cf53_9 : decode cJ9_max_7cf53 9 = .ok (.iload_n 1, 1) := by decide +kernel
theorem dJ9_max_7cf53_10 : decode cJ9_max_7cf53 10 = .ok (.ireturn, 1) := by decide +kernel
theorem dJ9_min_7cf53_0 : decode cJ9_min_7cf53 0 = .ok (.iload_n 0, 1) := by decide +kernel
theorem dJ9_min_7cf53_1 : decode cJ9_min_7cf53 1 = .ok (.iload_n 1, 1) := by decide +kernel
theorem dJ9_min_7cf53_2 : decode cJ9_min_7cf53 2 = .ok (.if_icmp .gt 7, 3) := by decide +kernel
theorem dJ9_min_7cf53_5 : decode cJ9_min_7cf53 5 = .ok (.iload_n 0, 1) := by decide +kernel
theorem dJ9_min_7cf53_6 : decode cJ9_min_7cf53 6 = .ok (.goto 4, 3) := by decide +kernel
theorem dJ9_min_7cf53_9 : decode cJ9_min_7cf53 9 = .ok (.iload_n 1, 1) := by decide +kernel
theorem dJ9_min_7cf53_10 : decode cJ9_min_7cf53 10 = .ok (.ireturn, 1) := by decide +kernel
theorem dJ0_length_8abf5_0 : decode cJ0_length_8abf5 0 = .ok (.aload_n 0, 1) := by decide +kernel
theorem dJ0_length_8abf5_1 : decode cJ0_length_8abf5 1 = .ok (.getfield 9, 3) := by decide +kernel
theorem dJ0_length_8abf5_4 : decode cJ0_length_8abf5 4 = .ok (.arraylength, 1) := by decide +kernel
theorem dJ0_length_8abf5_5 : decode cJ0_length_8abf5 5 = .ok (.aload_n 0, 1) := by decide +kernel
theorem dJ0_length_8abf5_6 : decode cJ0_length_8abf5 6 = .ok (.invokevirtual 335, 3) := by decide +kernel
theorem dJ0_length_8abf5_9 : decode cJ0_length_8abf5 9 = .ok (.ishr, 1) := by decide +kernel
theorem dJ0_length_8abf5_10 : decode cJ0_length_8abf5 10 = .ok (.ireturn, 1) := by decide +kernel
theorem dJ0_charAt_5068e_0 : decode cJ0_charAt_5068e 0 = .ok (.aload_n 0, 1) := by decide +kernel
theorem dJ0_charAt_5068e_1 : decode cJ0_charAt_5068e 1 = .ok (.invokevirtual 492, 3) := by decide +kernel
theorem dJ0_charAt_5068e_4 : decode cJ0_charAt_5068e 4 = .ok (.ifCond .eq 12, 3) := by decide +kernel
theorem dJ0_charAt_5068e_7 : decode cJ0_charAt_5068e 7 = .ok (.aload_n 0, 1) := by decide +kernel
theorem dJ0_charAt_5068e_8 : decode cJ0_charAt_5068e 8 = .ok (.getfield 9, 3) := by decide +kernel
theorem dJ0_charAt_5068e_11 : decode cJ0_charAt_5068e 11 = .ok (.iload_n 1, 1) := by decide +kernel
theorem dJ0_charAt_5068e_12 : decode cJ0_charAt_5068e 12 = .ok (.invokestatic 495, 3) := by decide +kernel
theorem dJ0_charAt_5068e_15 : decode cJ0_charAt_5068e 15 = .ok (.ireturn, 1) := by decide +kernel
theorem dJ0_charAt_5068e_16 : decode cJ0_charAt_5068e 16 = .ok (.aload_n 0, 1) := by decide +kernel
theorem dJ0_charAt_5068e_17 : decode cJ0_charAt_5068e 17 = .ok (.getfield 9, 3) := by decide +kernel
theorem dJ0_charAt_5068e_20 : decode cJ0_charAt_5068e 20 = .ok (.iload_n 1, 1) := by decide +kernel
theorem dJ0_charAt_5068e_21 : decode cJ0_charAt_5068e 21 = .ok (.invokestatic 498, 3) := by decide +kernel
theorem dJ0_charAt_5068e_24 : decode cJ0_charAt_5068e 24 = .ok (.ireturn, 1) := by decide +kernel
theorem dJ0_coder_7d493_0 : decode cJ0_coder_7d493 0 = .ok (.getstatic 38, 3) := by decide +kernel
theorem dJ0_coder_7d493_3 : decode cJ0_coder_7d493 3 = .ok (.ifCond .eq 10, 3) := by decide +kernel
theorem dJ0_coder_7d493_6 : decode cJ0_coder_7d493 6 = .ok (.aload_n 0, 1) := by decide +kernel
theorem dJ0_coder_7d493_7 : decode cJ0_coder_7d493 7 = .ok (.getfield 15, 3) := by decide +kernel
theorem dJ0_coder_7d493_10 : decode cJ0_coder_7d493 10 = .ok (.goto 4, 3) := by decide +kernel
theorem dJ0_coder_7d493_13 : decode cJ0_coder_7d493 13 = .ok (.iconst 1, 1) := by decide +kernel
theorem dJ0_coder_7d493_14 : decode cJ0_coder_7d493 14 = .ok (.ireturn, 1) := by decide +kernel
theorem dJ0_isLatin1_aae02_0 : decode cJ0_isLatin1_aae02 0 = .ok (.getstatic 38, 3) := by decide +kernel
theorem dJ0_isLatin1_aae02_3 : decode cJ0_isLatin1_aae02 3 = .ok (.ifCond .eq 14, 3) := by decide +kernel
theorem dJ0_isLatin1_aae02_6 : decode cJ0_isLatin1_aae02 6 = .ok (.aload_n 0, 1) := by decide +kernel
theorem dJ0_isLatin1_aae02_7 : decode cJ0_isLatin1_aae02 7 = .ok (.getfield 15, 3) := by decide +kernel
theorem dJ0_isLatin1_aae02_10 : decode cJ0_isLatin1_aae02 10 = .ok (.ifCond .ne 7, 3) := by decide +kernel
theorem dJ0_isLatin1_aae02_13 : decode cJ0_isLatin1_aae02 13 = .ok (.iconst 1, 1) := by decide +kernel
theorem dJ0_isLatin1_aae02_14 : decode cJ0_isLatin1_aae02 14 = .ok (.goto 4, 3) := by decide +kernel
theorem dJ0_isLatin1_aae02_17 : decode cJ0_isLatin1_aae02 17 = .ok (.iconst 0, 1) := by decide +kernel
theorem dJ0_isLatin1_aae02_18 : decode cJ0_isLatin1_aae02 18 = .ok (.ireturn, 1) := by decide +kernel
theorem dJ0_checkIndex_df160_0 : decode cJ0_checkIndex_df160 0 = .ok (.iload_n 0, 1) := by decide +kernel
theorem dJ0_checkIndex_df160_1 : decode cJ0_checkIndex_df160 1 = .ok (.iload_n 1, 1) := by decide +kernel
theorem dJ0_checkIndex_df160_2 : decode cJ0_checkIndex_df160 2 = .ok (.getstatic 1053, 3) := by decide +kernel
theorem dJ0_checkIndex_df160_5 : decode cJ0_checkIndex_df160 5 = .ok (.invokestatic 1059, 3) := by decide +kernel
theorem dJ0_checkIndex_df160_8 : decode cJ0_checkIndex_df160 8 = .ok (.pop, 1) := by decide +kernel
theorem dJ0_checkIndex_df160_9 : decode cJ0_checkIndex_df160 9 = .ok (.return_, 1) := by decide +kernel
theorem dJ1_charAt_3b067_0 : decode cJ1_charAt_3b067 0 = .ok (.iload_n 1, 1) := by decide +kernel
theorem dJ1_charAt_3b067_1 : decode cJ1_charAt_3b067 1 = .ok (.aload_n 0, 1) := by decide +kernel
theorem dJ1_charAt_3b067_2 : decode cJ1_charAt_3b067 2 = .ok (.arraylength, 1) := by decide +kernel
theorem dJ1_charAt_3b067_3 : decode cJ1_charAt_3b067 3 = .ok (.invokestatic 9, 3) := by decide +kernel
theorem dJ1_charAt_3b067_6 : decode cJ1_charAt_3b067 6 = .ok (.aload_n 0, 1) := by decide +kernel
theorem dJ1_charAt_3b067_7 : decode cJ1_charAt_3b067 7 = .ok (.iload_n 1, 1) := by decide +kernel
theorem dJ1_charAt_3b067_8 : decode cJ1_charAt_3b067 8 = .ok (.baload, 1) := by decide +kernel
theorem dJ1_charAt_3b067_9 : decode cJ1_charAt_3b067 9 = .ok (.sipush 255, 3) := by decide +kernel
theorem dJ1_charAt_3b067_12 : decode cJ1_charAt_3b067 12 = .ok (.iand, 1) := by decide +kernel
theorem dJ1_charAt_3b067_13 : decode cJ1_charAt_3b067 13 = .ok (.i2c, 1) := by decide +kernel
theorem dJ1_charAt_3b067_14 : decode cJ1_charAt_3b067 14 = .ok (.ireturn, 1) := by decide +kernel
theorem dJ2_getChar_3b067_0 : decode cJ2_getChar_3b067 0 = .ok (.getstatic 44, 3) := by decide +kernel
theorem dJ2_getChar_3b067_3 : decode cJ2_getChar_3b067 3 = .ok (.ifCond .ne 25, 3) := by decide +kernel
theorem dJ2_getChar_3b067_6 : decode cJ2_getChar_3b067 6 = .ok (.iload_n 1, 1) := by decide +kernel
theorem dJ2_getChar_3b067_7 : decode cJ2_getChar_3b067 7 = .ok (.ifCond .lt 11, 3) := by decide +kernel
theorem dJ2_getChar_3b067_10 : decode cJ2_getChar_3b067 10 = .ok (.iload_n 1, 1) := by decide +kernel
theorem dJ2_getChar_3b067_11 : decode cJ2_getChar_3b067 11 = .ok (.aload_n 0, 1) := by decide +kernel
theorem dJ2_getChar_3b067_12 : decode cJ2_getChar_3b067 12 = .ok (.invokestatic 48, 3) := by decide +kernel
theorem dJ2_getChar_3b067_15 : decode cJ2_getChar_3b067 15 = .ok (.if_icmp .lt 13, 3) := by decide +kernel
theorem dJ2_getChar_3b067_18 : decode cJ2_getChar_3b067 18 = .ok (.new 52, 3) := by decide +kernel
theorem dJ2_getChar_3b067_21 : decode cJ2_getChar_3b067 21 = .ok (.dup, 1) := by decide +kernel
theorem dJ2_getChar_3b067_22 : decode cJ2_getChar_3b067 22 = .ok (.ldc 54, 2) := by decide +kernel
theorem dJ2_getChar_3b067_24 : decode cJ2_getChar_3b067 24 = .ok (.invokespecial 56, 3) := by decide +kernel
theorem dJ2_getChar_3b067_27 : decode cJ2_getChar_3b067 27 = .ok (.athrow, 1) := by decide +kernel
theorem dJ2_getChar_3b067_28 : decode cJ2_getChar_3b067 28 = .ok (.iload_n 1, 1) := by decide +kernel
theorem dJ2_getChar_3b067_29 : decode cJ2_getChar_3b067 29 = .ok (.iconst 1, 1) := by decide +kernel
theorem dJ2_getChar_3b067_30 : decode cJ2_getChar_3b067 30 = .ok (.ishl, 1) := by decide +kernel
theorem dJ2_getChar_3b067_31 : decode cJ2_getChar_3b067 31 = .ok (.istore_n 1, 1) := by decide +kernel
theorem dJ2_getChar_3b067_32 : decode cJ2_getChar_3b067 32 = .ok (.aload_n 0, 1) := by decide +kernel
theorem dJ2_getChar_3b067_33 : decode cJ2_getChar_3b067 33 = .ok (.iload_n 1, 1) := by decide +kernel
theorem dJ2_getChar_3b067_34 : decode cJ2_getChar_3b067 34 = .ok (.iinc 1 1, 3) := by decide +kernel
theorem dJ2_getChar_3b067_37 : decode cJ2_getChar_3b067 37 = .ok (.baload, 1) := by decide +kernel
theorem dJ2_getChar_3b067_38 : decode cJ2_getChar_3b067 38 = .ok (.sipush 255, 3) := by decide +kernel
theorem dJ2_getChar_3b067_41 : decode cJ2_getChar_3b067 41 = .ok (.iand, 1) := by decide +kernel
theorem dJ2_getChar_3b067_42 : decode cJ2_getChar_3b067 42 = .ok (.getstatic 59, 3) := by decide +kernel
theorem dJ2_getChar_3b067_45 : decode cJ2_getChar_3b067 45 = .ok (.ishl, 1) := by decide +kernel
theorem dJ2_getChar_3b067_46 : decode cJ2_getChar_3b067 46 = .ok (.aload_n 0, 1) := by decide +kernel
theorem dJ2_getChar_3b067_47 : decode cJ2_getChar_3b067 47 = .ok (.iload_n 1, 1) := by decide +kernel
theorem dJ2_getChar_3b067_48 : decode cJ2_getChar_3b067 48 = .ok (.baload, 1) := by decide +kernel
theorem dJ2_getChar_3b067_49 : decode cJ2_getChar_3b067 49 = .ok (.sipush 255, 3) := by decide +kernel
theorem dJ2_getChar_3b067_52 : decode cJ2_getChar_3b067 52 = .ok (.iand, 1) := by decide +kernel
theorem dJ2_getChar_3b067_53 : decode cJ2_getChar_3b067 53 = .ok (.getstatic 63, 3) := by decide +kernel
theorem dJ2_getChar_3b067_56 : decode cJ2_getChar_3b067 56 = .ok (.ishl, 1) := by decide +kernel
theorem dJ2_getChar_3b067_57 : decode cJ2_getChar_3b067 57 = .ok (.ior, 1) := by decide +kernel
theorem dJ2_getChar_3b067_58 : decode cJ2_getChar_3b067 58 = .ok (.i2c, 1) := by decide +kernel
theorem dJ2_getChar_3b067_59 : decode cJ2_getChar_3b067 59 = .ok (.ireturn, 1) := by decide +kernel
theorem dJ2_length_9d52b_0 : decode cJ2_length_9d52b 0 = .ok (.aload_n 0, 1) := by decide +kernel
theorem dJ2_length_9d52b_1 : decode cJ2_length_9d52b 1 = .ok (.arraylength, 1) := by decide +kernel
theorem dJ2_length_9d52b_2 : decode cJ2_length_9d52b 2 = .ok (.iconst 1, 1) := by decide +kernel
theorem dJ2_length_9d52b_3 : decode cJ2_length_9d52b 3 = .ok (.ishr, 1) := by decide +kernel
theorem dJ2_length_9d52b_4 : decode cJ2_length_9d52b 4 = .ok (.ireturn, 1) := by decide +kernel
theorem dJ2_charAt_3b067_0 : decode cJ2_charAt_3b067 0 = .ok (.iload_n 1, 1) := by decide +kernel
theorem dJ2_charAt_3b067_1 : decode cJ2_charAt_3b067 1 = .ok (.aload_n 0, 1) := by decide +kernel
theorem dJ2_charAt_3b067_2 : decode cJ2_charAt_3b067 2 = .ok (.invokestatic 67, 3) := by decide +kernel
theorem dJ2_charAt_3b067_5 : decode cJ2_charAt_3b067 5 = .ok (.aload_n 0, 1) := by decide +kernel
theorem dJ2_charAt_3b067_6 : decode cJ2_charAt_3b067 6 = .ok (.iload_n 1, 1) := by decide +kernel
theorem dJ2_charAt_3b067_7 : decode cJ2_charAt_3b067 7 = .ok (.invokestatic 71, 3) := by decide +kernel
theorem dJ2_charAt_3b067_10 : decode cJ2_charAt_3b067 10 = .ok (.ireturn, 1) := by decide +kernel
theorem dJ2_checkIndex_2214a_0 : decode cJ2_checkIndex_2214a 0 = .ok (.iload_n 0, 1) := by decide +kernel
theorem dJ2_checkIndex_2214a_1 : decode cJ2_checkIndex_2214a 1 = .ok (.aload_n 1, 1) := by decide +kernel
theorem dJ2_checkIndex_2214a_2 : decode cJ2_checkIndex_2214a 2 = .ok (.invokestatic 48, 3) := by decide +kernel
theorem dJ2_checkIndex_2214a_5 : decode cJ2_checkIndex_2214a 5 = .ok (.invokestatic 414, 3) := by decide +kernel
theorem dJ2_checkIndex_2214a_8 : decode cJ2_checkIndex_2214a 8 = .ok (.return_, 1) := by decide +kernel
theorem dJ7_fill_53178_0 : decode cJ7_fill_53178 0 = .ok (.iconst 0, 1) := by decide +kernel
theorem dJ7_fill_53178_1 : decode cJ7_fill_53178 1 = .ok (.istore_n 2, 1) := by decide +kernel
theorem dJ7_fill_53178_2 : decode cJ7_fill_53178 2 = .ok (.aload_n 0, 1) := by decide +kernel
theorem dJ7_fill_53178_3 : decode cJ7_fill_53178 3 = .ok (.arraylength, 1) := by decide +kernel
theorem dJ7_fill_53178_4 : decode cJ7_fill_53178 4 = .ok (.istore_n 3, 1) := by decide +kernel
theorem dJ7_fill_53178_5 : decode cJ7_fill_53178 5 = .ok (.iload_n 2, 1) := by decide +kernel
theorem dJ7_fill_53178_6 : decode cJ7_fill_53178 6 = .ok (.iload_n 3, 1) := by decide +kernel
theorem dJ7_fill_53178_7 : decode cJ7_fill_53178 7 = .ok (.if_icmp .ge 13, 3) := by decide +kernel
theorem dJ7_fill_53178_10 : decode cJ7_fill_53178 10 = .ok (.aload_n 0, 1) := by decide +kernel
theorem dJ7_fill_53178_11 : decode cJ7_fill_53178 11 = .ok (.iload_n 2, 1) := by decide +kernel
theorem dJ7_fill_53178_12 : decode cJ7_fill_53178 12 = .ok (.iload_n 1, 1) := by decide +kernel
theorem dJ7_fill_53178_13 : decode cJ7_fill_53178 13 = .ok (.iastore, 1) := by decide +kernel
theorem dJ7_fill_53178_14 : decode cJ7_fill_53178 14 = .ok (.iinc 2 1, 3) := by decide +kernel
theorem dJ7_fill_53178_17 : decode cJ7_fill_53178 17 = .ok (.goto (-12), 3) := by decide +kernel
theorem dJ7_fill_53178_20 : decode cJ7_fill_53178 20 = .ok (.return_, 1) := by decide +kernel
theorem dJ3_checkIndex_8e157_0 : decode cJ3_checkIndex_8e157 0 = .ok (.iload_n 0, 1) := by decide +kernel
theorem dJ3_checkIndex_8e157_1 : decode cJ3_checkIndex_8e157 1 = .ok (.ifCond .lt 8, 3) := by decide +kernel
theorem dJ3_checkIndex_8e157_4 : decode cJ3_checkIndex_8e157 4 = .ok (.iload_n 0, 1) := by decide +kernel
theorem dJ3_checkIndex_8e157_5 : decode cJ3_checkIndex_8e157 5 = .ok (.iload_n 1, 1) := by decide +kernel
theorem dJ3_checkIndex_8e157_6 : decode cJ3_checkIndex_8e157 6 = .ok (.if_icmp .lt 10, 3) := by decide +kernel
theorem dJ3_checkIndex_8e157_9 : decode cJ3_checkIndex_8e157 9 = .ok (.aload_n 2, 1) := by decide +kernel
theorem dJ3_checkIndex_8e157_10 : decode cJ3_checkIndex_8e157 10 = .ok (.iload_n 0, 1) := by decide +kernel
theorem dJ3_checkIndex_8e157_11 : decode cJ3_checkIndex_8e157 11 = .ok (.iload_n 1, 1) := by decide +kernel
theorem dJ3_checkIndex_8e157_12 : decode cJ3_checkIndex_8e157 12 = .ok (.invokestatic 95, 3) := by decide +kernel
theorem dJ3_checkIndex_8e157_15 : decode cJ3_checkIndex_8e157 15 = .ok (.athrow, 1) := by decide +kernel
theorem dJ3_checkIndex_8e157_16 : decode cJ3_checkIndex_8e157 16 = .ok (.iload_n 0, 1) := by decide +kernel
theorem dJ3_checkIndex_8e157_17 : decode cJ3_checkIndex_8e157 17 = .ok (.ireturn, 1) := by decide +kernel
theorem dL_load_0 : decode cL_load 0 = .ok (.aload_n 2, 1) := by decide +kernel
theorem dL_load_1 : decode cL_load 1 = .ok (.iconst 0, 1) := by decide +kernel
theorem dL_load_2 : decode cL_load 2 = .ok (.aload_n 0, 1) := by decide +kernel
theorem dL_load_3 : decode cL_load 3 = .ok (.iload_n 1, 1) := by decide +kernel
theorem dL_load_4 : decode cL_load 4 = .ok (.invokevirtual 7, 3) := by decide +kernel
theorem dL_load_7 : decode cL_load 7 = .ok (.i2l, 1) := by decide +kernel
theorem dL_load_8 : decode cL_load 8 = .ok (.lastore, 1) := by decide +kernel
theorem dL_load_9 : decode cL_load 9 = .ok (.goto 6, 3) := by decide +kernel
theorem dL_load_12 : decode cL_load 12 = .ok (.astore_n 3, 1) := by decide +kernel
theorem dL_load_13 : decode cL_load 13 = .ok (.iconst 1, 1) := by decide +kernel
theorem dL_load_14 : decode cL_load 14 = .ok (.ireturn, 1) := by decide +kernel
theorem dL_load_15 : decode cL_load 15 = .ok (.iconst 0, 1) := by decide +kernel
theorem dL_load_16 : decode cL_load 16 = .ok (.ireturn, 1) := by decide +kernel
theorem dL_state_0 : decode cL_state 0 = .ok (.aload_n 2, 1) := by decide +kernel
theorem dL_state_1 : decode cL_state 1 = .ok (.iconst 0, 1) := by decide +kernel
theorem dL_state_2 : decode cL_state 2 = .ok (.aload_n 0, 1) := by decide +kernel
theorem dL_state_3 : decode cL_state 3 = .ok (.iload_n 1, 1) := by decide +kernel
theorem dL_state_4 : decode cL_state 4 = .ok (.invokevirtual 15, 3) := by decide +kernel
theorem dL_state_7 : decode cL_state 7 = .ok (.i2l, 1) := by decide +kernel
theorem dL_state_8 : decode cL_state 8 = .ok (.lastore, 1) := by decide +kernel
theorem dL_state_9 : decode cL_state 9 = .ok (.goto 6, 3) := by decide +kernel
theorem dL_state_12 : decode cL_state 12 = .ok (.astore_n 3, 1) := by decide +kernel
theorem dL_state_13 : decode cL_state 13 = .ok (.iconst 1, 1) := by decide +kernel
theorem dL_state_14 : decode cL_state 14 = .ok (.ireturn, 1) := by decide +kernel
theorem dL_state_15 : decode cL_state 15 = .ok (.iconst 0, 1) := by decide +kernel
theorem dL_state_16 : decode cL_state 16 = .ok (.ireturn, 1) := by decide +kernel
theorem dL_cell_0 : decode cL_cell 0 = .ok (.aload_n 3, 1) := by decide +kernel
theorem dL_cell_1 : decode cL_cell 1 = .ok (.iconst 0, 1) := by decide +kernel
theorem dL_cell_2 : decode cL_cell 2 = .ok (.aload_n 0, 1) := by decide +kernel
theorem dL_cell_3 : decode cL_cell 3 = .ok (.iload_n 1, 1) := by decide +kernel
theorem dL_cell_4 : decode cL_cell 4 = .ok (.iload_n 2, 1) := by decide +kernel
theorem dL_cell_5 : decode cL_cell 5 = .ok (.invokevirtual 18, 3) := by decide +kernel
theorem dL_cell_8 : decode cL_cell 8 = .ok (.i2l, 1) := by decide +kernel
theorem dL_cell_9 : decode cL_cell 9 = .ok (.lastore, 1) := by decide +kernel
theorem dL_cell_10 : decode cL_cell 10 = .ok (.goto 7, 3) := by decide +kernel
theorem dL_cell_13 : decode cL_cell 13 = .ok (.astore 4, 2) := by decide +kernel
theorem dL_cell_15 : decode cL_cell 15 = .ok (.iconst 1, 1) := by decide +kernel
theorem dL_cell_16 : decode cL_cell 16 = .ok (.ireturn, 1) := by decide +kernel
theorem dL_cell_17 : decode cL_cell 17 = .ok (.iconst 0, 1) := by decide +kernel
theorem dL_cell_18 : decode cL_cell 18 = .ok (.ireturn, 1) := by decide +kernel
theorem dL_pace_0 : decode cL_pace 0 = .ok (.aload 4, 2) := by decide +kernel
theorem dL_pace_2 : decode cL_pace 2 = .ok (.iconst 0, 1) := by decide +kernel
theorem dL_pace_3 : decode cL_pace 3 = .ok (.aload_n 0, 1) := by decide +kernel
theorem dL_pace_4 : decode cL_pace 4 = .ok (.iload_n 1, 1) := by decide +kernel
theorem dL_pace_5 : decode cL_pace 5 = .ok (.iload_n 2, 1) := by decide +kernel
theorem dL_pace_6 : decode cL_pace 6 = .ok (.iload_n 3, 1) := by decide +kernel
theorem dL_pace_7 : decode cL_pace 7 = .ok (.invokevirtual 24, 3) := by decide +kernel
theorem dL_pace_10 : decode cL_pace 10 = .ok (.i2l, 1) := by decide +kernel
theorem dL_pace_11 : decode cL_pace 11 = .ok (.lastore, 1) := by decide +kernel
theorem dL_pace_12 : decode cL_pace 12 = .ok (.goto 11, 3) := by decide +kernel
theorem dL_pace_15 : decode cL_pace 15 = .ok (.astore 5, 2) := by decide +kernel
theorem dL_pace_17 : decode cL_pace 17 = .ok (.iconst 1, 1) := by decide +kernel
theorem dL_pace_18 : decode cL_pace 18 = .ok (.ireturn, 1) := by decide +kernel
theorem dL_pace_19 : decode cL_pace 19 = .ok (.astore 5, 2) := by decide +kernel
theorem dL_pace_21 : decode cL_pace 21 = .ok (.iconst 2, 1) := by decide +kernel
theorem dL_pace_22 : decode cL_pace 22 = .ok (.ireturn, 1) := by decide +kernel
theorem dL_pace_23 : decode cL_pace 23 = .ok (.iconst 0, 1) := by decide +kernel
theorem dL_pace_24 : decode cL_pace 24 = .ok (.ireturn, 1) := by decide +kernel
theorem dL_reached_0 : decode cL_reached 0 = .ok (.aload_n 3, 1) := by decide +kernel
theorem dL_reached_1 : decode cL_reached 1 = .ok (.iconst 0, 1) := by decide +kernel
theorem dL_reached_2 : decode cL_reached 2 = .ok (.aload_n 0, 1) := by decide +kernel
theorem dL_reached_3 : decode cL_reached 3 = .ok (.iload_n 1, 1) := by decide +kernel
theorem dL_reached_4 : decode cL_reached 4 = .ok (.iload_n 2, 1) := by decide +kernel
theorem dL_reached_5 : decode cL_reached 5 = .ok (.invokevirtual 28, 3) := by decide +kernel
theorem dL_reached_8 : decode cL_reached 8 = .ok (.i2l, 1) := by decide +kernel
theorem dL_reached_9 : decode cL_reached 9 = .ok (.lastore, 1) := by decide +kernel
theorem dL_reached_10 : decode cL_reached 10 = .ok (.goto 11, 3) := by decide +kernel
theorem dL_reached_13 : decode cL_reached 13 = .ok (.astore 4, 2) := by decide +kernel
theorem dL_reached_15 : decode cL_reached 15 = .ok (.iconst 1, 1) := by decide +kernel
theorem dL_reached_16 : decode cL_reached 16 = .ok (.ireturn, 1) := by decide +kernel
theorem dL_reached_17 : decode cL_reached 17 = .ok (.astore 4, 2) := by decide +kernel
theorem dL_reached_19 : decode cL_reached 19 = .ok (.iconst 2, 1) := by decide +kernel
theorem dL_reached_20 : decode cL_reached 20 = .ok (.ireturn, 1) := by decide +kernel
theorem dL_reached_21 : decode cL_reached 21 = .ok (.iconst 0, 1) := by decide +kernel
theorem dL_reached_22 : decode cL_reached 22 = .ok (.ireturn, 1) := by decide +kernel
theorem dL_ends_0 : decode cL_ends 0 = .ok (.aload 4, 2) := by decide +kernel
theorem dL_ends_2 : decode cL_ends 2 = .ok (.iconst 0, 1) := by decide +kernel
theorem dL_ends_3 : decode cL_ends 3 = .ok (.aload_n 0, 1) := by decide +kernel
theorem dL_ends_4 : decode cL_ends 4 = .ok (.iload_n 1, 1) := by decide +kernel
theorem dL_ends_5 : decode cL_ends 5 = .ok (.iload_n 2, 1) := by decide +kernel
theorem dL_ends_6 : decode cL_ends 6 = .ok (.iload_n 3, 1) := by decide +kernel
theorem dL_ends_7 : decode cL_ends 7 = .ok (.invokevirtual 31, 3) := by decide +kernel
theorem dL_ends_10 : decode cL_ends 10 = .ok (.ifCond .eq 7, 3) := by decide +kernel
theorem dL_ends_13 : decode cL_ends 13 = .ok (.lconst 1, 1) := by decide +kernel
theorem dL_ends_14 : decode cL_ends 14 = .ok (.goto 4, 3) := by decide +kernel
theorem dL_ends_17 : decode cL_ends 17 = .ok (.lconst 0, 1) := by decide +kernel
theorem dL_ends_18 : decode cL_ends 18 = .ok (.lastore, 1) := by decide +kernel
theorem dL_ends_19 : decode cL_ends 19 = .ok (.goto 7, 3) := by decide +kernel
theorem dL_ends_22 : decode cL_ends 22 = .ok (.astore 5, 2) := by decide +kernel
theorem dL_ends_24 : decode cL_ends 24 = .ok (.iconst 1, 1) := by decide +kernel
theorem dL_ends_25 : decode cL_ends 25 = .ok (.ireturn, 1) := by decide +kernel
theorem dL_ends_26 : decode cL_ends 26 = .ok (.iconst 0, 1) := by decide +kernel
theorem dL_ends_27 : decode cL_ends 27 = .ok (.ireturn, 1) := by decide +kernel
theorem dL_why_0 : decode cL_why 0 = .ok (.aload_n 3, 1) := by decide +kernel
theorem dL_why_1 : decode cL_why 1 = .ok (.iconst 0, 1) := by decide +kernel
theorem dL_why_2 : decode cL_why 2 = .ok (.aload_n 0, 1) := by decide +kernel
theorem dL_why_3 : decode cL_why 3 = .ok (.iload_n 1, 1) := by decide +kernel
theorem dL_why_4 : decode cL_why 4 = .ok (.iload_n 2, 1) := by decide +kernel
theorem dL_why_5 : decode cL_why 5 = .ok (.invokevirtual 35, 3) := by decide +kernel
theorem dL_why_8 : decode cL_why 8 = .ok (.i2l, 1) := by decide +kernel
theorem dL_why_9 : decode cL_why 9 = .ok (.lastore, 1) := by decide +kernel
theorem dL_why_10 : decode cL_why 10 = .ok (.goto 7, 3) := by decide +kernel
theorem dL_why_13 : decode cL_why 13 = .ok (.astore 4, 2) := by decide +kernel
theorem dL_why_15 : decode cL_why 15 = .ok (.iconst 1, 1) := by decide +kernel
theorem dL_why_16 : decode cL_why 16 = .ok (.ireturn, 1) := by decide +kernel
theorem dL_why_17 : decode cL_why 17 = .ok (.iconst 0, 1) := by decide +kernel
theorem dL_why_18 : decode cL_why 18 = .ok (.ireturn, 1) := by decide +kernel
theorem dL_walk_0 : decode cL_walk 0 = .ok (.aload 5, 2) := by decide +kernel
theorem dL_walk_2 : decode cL_walk 2 = .ok (.iconst 0, 1) := by decide +kernel
theorem dL_walk_3 : decode cL_walk 3 = .ok (.aload_n 0, 1) := by decide +kernel
theorem dL_walk_4 : decode cL_walk 4 = .ok (.iload_n 1, 1) := by decide +kernel
theorem dL_walk_5 : decode cL_walk 5 = .ok (.iload_n 2, 1) := by decide +kernel
theorem dL_walk_6 : decode cL_walk 6 = .ok (.iload_n 3, 1) := by decide +kernel
theorem dL_walk_7 : decode cL_walk 7 = .ok (.iload 4, 2) := by decide +kernel
theorem dL_walk_9 : decode cL_walk 9 = .ok (.invokevirtual 38, 3) := by decide +kernel
theorem dL_walk_12 : decode cL_walk 12 = .ok (.i2l, 1) := by decide +kernel
theorem dL_walk_13 : decode cL_walk 13 = .ok (.lastore, 1) := by decide +kernel
theorem dL_walk_14 : decode cL_walk 14 = .ok (.goto 11, 3) := by decide +kernel
theorem dL_walk_17 : decode cL_walk 17 = .ok (.astore 6, 2) := by decide +kernel
theorem dL_walk_19 : decode cL_walk 19 = .ok (.iconst 1, 1) := by decide +kernel
theorem dL_walk_20 : decode cL_walk 20 = .ok (.ireturn, 1) := by decide +kernel
theorem dL_walk_21 : decode cL_walk 21 = .ok (.astore 6, 2) := by decide +kernel
theorem dL_walk_23 : decode cL_walk 23 = .ok (.iconst 2, 1) := by decide +kernel
theorem dL_walk_24 : decode cL_walk 24 = .ok (.ireturn, 1) := by decide +kernel
theorem dL_walk_25 : decode cL_walk 25 = .ok (.iconst 0, 1) := by decide +kernel
theorem dL_walk_26 : decode cL_walk 26 = .ok (.ireturn, 1) := by decide +kernel
theorem dL_starts_0 : decode cL_starts 0 = .ok (.aload 4, 2) := by decide +kernel
theorem dL_starts_2 : decode cL_starts 2 = .ok (.iconst 0, 1) := by decide +kernel
theorem dL_starts_3 : decode cL_starts 3 = .ok (.aload_n 0, 1) := by decide +kernel
theorem dL_starts_4 : decode cL_starts 4 = .ok (.iload_n 1, 1) := by decide +kernel
theorem dL_starts_5 : decode cL_starts 5 = .ok (.iload_n 2, 1) := by decide +kernel
theorem dL_starts_6 : decode cL_starts 6 = .ok (.iload_n 3, 1) := by decide +kernel
theorem dL_starts_7 : decode cL_starts 7 = .ok (.invokevirtual 44, 3) := by decide +kernel
theorem dL_starts_10 : decode cL_starts 10 = .ok (.i2l, 1) := by decide +kernel
theorem dL_starts_11 : decode cL_starts 11 = .ok (.lastore, 1) := by decide +kernel
theorem dL_starts_12 : decode cL_starts 12 = .ok (.goto 7, 3) := by decide +kernel
theorem dL_starts_15 : decode cL_starts 15 = .ok (.astore 5, 2) := by decide +kernel
theorem dL_starts_17 : decode cL_starts 17 = .ok (.iconst 1, 1) := by decide +kernel
theorem dL_starts_18 : decode cL_starts 18 = .ok (.ireturn, 1) := by decide +kernel
theorem dL_starts_19 : decode cL_starts 19 = .ok (.iconst 0, 1) := by decide +kernel
theorem dL_starts_20 : decode cL_starts 20 = .ok (.ireturn, 1) := by decide +kernel
theorem dL_distance_0 : decode cL_distance 0 = .ok (.aload_n 3, 1) := by decide +kernel
theorem dL_distance_1 : decode cL_distance 1 = .ok (.iconst 0, 1) := by decide +kernel
theorem dL_distance_2 : decode cL_distance 2 = .ok (.aload_n 0, 1) := by decide +kernel
theorem dL_distance_3 : decode cL_distance 3 = .ok (.iload_n 1, 1) := by decide +kernel
theorem dL_distance_4 : decode cL_distance 4 = .ok (.iload_n 2, 1) := by decide +kernel
theorem dL_distance_5 : decode cL_distance 5 = .ok (.invokevirtual 47, 3) := by decide +kernel
theorem dL_distance_8 : decode cL_distance 8 = .ok (.i2l, 1) := by decide +kernel
theorem dL_distance_9 : decode cL_distance 9 = .ok (.lastore, 1) := by decide +kernel
theorem dL_distance_10 : decode cL_distance 10 = .ok (.goto 7, 3) := by decide +kernel
theorem dL_distance_13 : decode cL_distance 13 = .ok (.astore 4, 2) := by decide +kernel
theorem dL_distance_15 : decode cL_distance 15 = .ok (.iconst 1, 1) := by decide +kernel
theorem dL_distance_16 : decode cL_distance 16 = .ok (.ireturn, 1) := by decide +kernel
theorem dL_distance_17 : decode cL_distance 17 = .ok (.iconst 0, 1) := by decide +kernel
theorem dL_distance_18 : decode cL_distance 18 = .ok (.ireturn, 1) := by decide +kernel
theorem dL_part_0 : decode cL_part 0 = .ok (.aload_n 3, 1) := by decide +kernel
theorem dL_part_1 : decode cL_part 1 = .ok (.iconst 0, 1) := by decide +kernel
theorem dL_part_2 : decode cL_part 2 = .ok (.aload_n 0, 1) := by decide +kernel
theorem dL_part_3 : decode cL_part 3 = .ok (.iload_n 1, 1) := by decide +kernel
theorem dL_part_4 : decode cL_part 4 = .ok (.iload_n 2, 1) := by decide +kernel
theorem dL_part_5 : decode cL_part 5 = .ok (.invokevirtual 50, 3) := by decide +kernel
theorem dL_part_8 : decode cL_part 8 = .ok (.i2l, 1) := by decide +kernel
theorem dL_part_9 : decode cL_part 9 = .ok (.lastore, 1) := by decide +kernel
theorem dL_part_10 : decode cL_part 10 = .ok (.goto 7, 3) := by decide +kernel
theorem dL_part_13 : decode cL_part 13 = .ok (.astore 4, 2) := by decide +kernel
theorem dL_part_15 : decode cL_part 15 = .ok (.iconst 1, 1) := by decide +kernel
theorem dL_part_16 : decode cL_part 16 = .ok (.ireturn, 1) := by decide +kernel
theorem dL_part_17 : decode cL_part 17 = .ok (.iconst 0, 1) := by decide +kernel
theorem dL_part_18 : decode cL_part 18 = .ok (.ireturn, 1) := by decide +kernel
theorem dL_moveTo_0 : decode cL_moveTo 0 = .ok (.aload_n 3, 1) := by decide +kernel
theorem dL_moveTo_1 : decode cL_moveTo 1 = .ok (.iconst 0, 1) := by decide +kernel
theorem dL_moveTo_2 : decode cL_moveTo 2 = .ok (.aload_n 0, 1) := by decide +kernel
theorem dL_moveTo_3 : decode cL_moveTo 3 = .ok (.iload_n 1, 1) := by decide +kernel
theorem dL_moveTo_4 : decode cL_moveTo 4 = .ok (.iload_n 2, 1) := by decide +kernel
theorem dL_moveTo_5 : decode cL_moveTo 5 = .ok (.invokevirtual 53, 3) := by decide +kernel
theorem dL_moveTo_8 : decode cL_moveTo 8 = .ok (.i2l, 1) := by decide +kernel
theorem dL_moveTo_9 : decode cL_moveTo 9 = .ok (.lastore, 1) := by decide +kernel
theorem dL_moveTo_10 : decode cL_moveTo 10 = .ok (.goto 7, 3) := by decide +kernel
theorem dL_moveTo_13 : decode cL_moveTo 13 = .ok (.astore 4, 2) := by decide +kernel
theorem dL_moveTo_15 : decode cL_moveTo 15 = .ok (.iconst 1, 1) := by decide +kernel
theorem dL_moveTo_16 : decode cL_moveTo 16 = .ok (.ireturn, 1) := by decide +kernel
theorem dL_moveTo_17 : decode cL_moveTo 17 = .ok (.iconst 0, 1) := by decide +kernel
theorem dL_moveTo_18 : decode cL_moveTo 18 = .ok (.ireturn, 1) := by decide +kernel
theorem dL_use_0 : decode cL_use 0 = .ok (.aload_n 3, 1) := by decide +kernel
theorem dL_use_1 : decode cL_use 1 = .ok (.iconst 0, 1) := by decide +kernel
theorem dL_use_2 : decode cL_use 2 = .ok (.aload_n 0, 1) := by decide +kernel
theorem dL_use_3 : decode cL_use 3 = .ok (.iload_n 1, 1) := by decide +kernel
theorem dL_use_4 : decode cL_use 4 = .ok (.iload_n 2, 1) := by decide +kernel
theorem dL_use_5 : decode cL_use 5 = .ok (.invokevirtual 56, 3) := by decide +kernel
theorem dL_use_8 : decode cL_use 8 = .ok (.i2l, 1) := by decide +kernel
theorem dL_use_9 : decode cL_use 9 = .ok (.lastore, 1) := by decide +kernel
theorem dL_use_10 : decode cL_use 10 = .ok (.goto 7, 3) := by decide +kernel
theorem dL_use_13 : decode cL_use 13 = .ok (.astore 4, 2) := by decide +kernel
theorem dL_use_15 : decode cL_use 15 = .ok (.iconst 1, 1) := by decide +kernel
theorem dL_use_16 : decode cL_use 16 = .ok (.ireturn, 1) := by decide +kernel
theorem dL_use_17 : decode cL_use 17 = .ok (.iconst 0, 1) := by decide +kernel
theorem dL_use_18 : decode cL_use 18 = .ok (.ireturn, 1) := by decide +kernel
theorem dL_hide_0 : decode cL_hide 0 = .ok (.aload_n 2, 1) := by decide +kernel
theorem dL_hide_1 : decode cL_hide 1 = .ok (.iconst 0, 1) := by decide +kernel
theorem dL_hide_2 : decode cL_hide 2 = .ok (.aload_n 0, 1) := by decide +kernel
theorem dL_hide_3 : decode cL_hide 3 = .ok (.iload_n 1, 1) := by decide +kernel
theorem dL_hide_4 : decode cL_hide 4 = .ok (.invokevirtual 60, 3) := by decide +kernel
theorem dL_hide_7 : decode cL_hide 7 = .ok (.i2l, 1) := by decide +kernel
theorem dL_hide_8 : decode cL_hide 8 = .ok (.lastore, 1) := by decide +kernel
theorem dL_hide_9 : decode cL_hide 9 = .ok (.goto 6, 3) := by decide +kernel
theorem dL_hide_12 : decode cL_hide 12 = .ok (.astore_n 3, 1) := by decide +kernel
theorem dL_hide_13 : decode cL_hide 13 = .ok (.iconst 1, 1) := by decide +kernel
theorem dL_hide_14 : decode cL_hide 14 = .ok (.ireturn, 1) := by decide +kernel
theorem dL_hide_15 : decode cL_hide 15 = .ok (.iconst 0, 1) := by decide +kernel
theorem dL_hide_16 : decode cL_hide 16 = .ok (.ireturn, 1) := by decide +kernel
theorem dL_turn_0 : decode cL_turn 0 = .ok (.aload_n 3, 1) := by decide +kernel
theorem dL_turn_1 : decode cL_turn 1 = .ok (.iconst 0, 1) := by decide +kernel
theorem dL_turn_2 : decode cL_turn 2 = .ok (.aload_n 0, 1) := by decide +kernel
theorem dL_turn_3 : decode cL_turn 3 = .ok (.iload_n 1, 1) := by decide +kernel
theorem dL_turn_4 : decode cL_turn 4 = .ok (.iload_n 2, 1) := by decide +kernel
theorem dL_turn_5 : decode cL_turn 5 = .ok (.invokevirtual 63, 3) := by decide +kernel
theorem dL_turn_8 : decode cL_turn 8 = .ok (.i2l, 1) := by decide +kernel
theorem dL_turn_9 : decode cL_turn 9 = .ok (.lastore, 1) := by decide +kernel
theorem dL_turn_10 : decode cL_turn 10 = .ok (.goto 11, 3) := by decide +kernel
theorem dL_turn_13 : decode cL_turn 13 = .ok (.astore 4, 2) := by decide +kernel
theorem dL_turn_15 : decode cL_turn 15 = .ok (.iconst 1, 1) := by decide +kernel
theorem dL_turn_16 : decode cL_turn 16 = .ok (.ireturn, 1) := by decide +kernel
theorem dL_turn_17 : decode cL_turn 17 = .ok (.astore 4, 2) := by decide +kernel
theorem dL_turn_19 : decode cL_turn 19 = .ok (.iconst 2, 1) := by decide +kernel
theorem dL_turn_20 : decode cL_turn 20 = .ok (.ireturn, 1) := by decide +kernel
theorem dL_turn_21 : decode cL_turn 21 = .ok (.iconst 0, 1) := by decide +kernel
theorem dL_turn_22 : decode cL_turn 22 = .ok (.ireturn, 1) := by decide +kernel
theorem dL_law_0 : decode cL_law 0 = .ok (.new 8, 3) := by decide +kernel
theorem dL_law_3 : decode cL_law 3 = .ok (.dup, 1) := by decide +kernel
theorem dL_law_4 : decode cL_law 4 = .ok (.invokespecial 66, 3) := by decide +kernel
theorem dL_law_7 : decode cL_law 7 = .ok (.astore_n 1, 1) := by decide +kernel
theorem dL_law_8 : decode cL_law 8 = .ok (.new 67, 3) := by decide +kernel
theorem dL_law_11 : decode cL_law 11 = .ok (.dup, 1) := by decide +kernel
theorem dL_law_12 : decode cL_law 12 = .ok (.invokespecial 69, 3) := by decide +kernel
theorem dL_law_15 : decode cL_law 15 = .ok (.astore_n 2, 1) := by decide +kernel
theorem dL_law_16 : decode cL_law 16 = .ok (.iconst 1, 1) := by decide +kernel
theorem dL_law_17 : decode cL_law 17 = .ok (.newarray .long, 2) := by decide +kernel
theorem dL_law_19 : decode cL_law 19 = .ok (.astore_n 3, 1) := by decide +kernel
theorem dL_law_20 : decode cL_law 20 = .ok (.iconst 0, 1) := by decide +kernel
theorem dL_law_21 : decode cL_law 21 = .ok (.istore 4, 2) := by decide +kernel
theorem dL_law_23 : decode cL_law 23 = .ok (.iload 4, 2) := by decide +kernel
theorem dL_law_25 : decode cL_law 25 = .ok (.aload_n 0, 1) := by decide +kernel
theorem dL_law_26 : decode cL_law 26 = .ok (.arraylength, 1) := by decide +kernel
theorem dL_law_27 : decode cL_law 27 = .ok (.bipush 6, 2) := by decide +kernel
theorem dL_law_29 : decode cL_law 29 = .ok (.isub, 1) := by decide +kernel
theorem dL_law_30 : decode cL_law 30 = .ok (.if_icmp .gt 1401, 3) := by decide +kernel
theorem dL_law_33 : decode cL_law 33 = .ok (.aload_n 0, 1) := by decide +kernel
theorem dL_law_34 : decode cL_law 34 = .ok (.iload 4, 2) := by decide +kernel
theorem dL_law_36 : decode cL_law 36 = .ok (.iaload, 1) := by decide +kernel
theorem dL_law_37 : decode cL_law 37 = .ok (.bipush 31, 2) := by decide +kernel
theorem dL_law_39 : decode cL_law 39 = .ok (.iand, 1) := by decide +kernel
theorem dL_law_40 : decode cL_law 40 = .ok (.tableswitch 1385 0 23 #[112, 185, 241, 254, 310, 378, 458, 526, 613, 681, 773, 853, 921, 934, 947, 1015, 1056, 1069, 1137, 1150, 1234, 1290, 1358, 1371], 112) := by decide +kernel
theorem dL_law_152 : decode cL_law 152 = .ok (.aload_n 1, 1) := by decide +kernel
theorem dL_law_153 : decode cL_law 153 = .ok (.aload_n 0, 1) := by decide +kernel
theorem dL_law_154 : decode cL_law 154 = .ok (.iload 4, 2) := by decide +kernel
theorem dL_law_156 : decode cL_law 156 = .ok (.iconst 1, 1) := by decide +kernel
theorem dL_law_157 : decode cL_law 157 = .ok (.iadd, 1) := by decide +kernel
theorem dL_law_158 : decode cL_law 158 = .ok (.iaload, 1) := by decide +kernel
theorem dL_law_159 : decode cL_law 159 = .ok (.aload_n 0, 1) := by decide +kernel
theorem dL_law_160 : decode cL_law 160 = .ok (.iload 4, 2) := by decide +kernel
theorem dL_law_162 : decode cL_law 162 = .ok (.iconst 2, 1) := by decide +kernel
theorem dL_law_163 : decode cL_law 163 = .ok (.iadd, 1) := by decide +kernel
theorem dL_law_164 : decode cL_law 164 = .ok (.iaload, 1) := by decide +kernel
theorem dL_law_165 : decode cL_law 165 = .ok (.aload_n 0, 1) := by decide +kernel
theorem dL_law_166 : decode cL_law 166 = .ok (.iload 4, 2) := by decide +kernel
theorem dL_law_168 : decode cL_law 168 = .ok (.iconst 3, 1) := by decide +kernel
theorem dL_law_169 : decode cL_law 169 = .ok (.iadd, 1) := by decide +kernel
theorem dL_law_170 : decode cL_law 170 = .ok (.iaload, 1) := by decide +kernel
theorem dL_law_171 : decode cL_law 171 = .ok (.aload_n 0, 1) := by decide +kernel
theorem dL_law_172 : decode cL_law 172 = .ok (.iload 4, 2) := by decide +kernel
theorem dL_law_174 : decode cL_law 174 = .ok (.iconst 4, 1) := by decide +kernel
theorem dL_law_175 : decode cL_law 175 = .ok (.iadd, 1) := by decide +kernel
theorem dL_law_176 : decode cL_law 176 = .ok (.iaload, 1) := by decide +kernel
theorem dL_law_177 : decode cL_law 177 = .ok (.aload_n 0, 1) := by decide +kernel
theorem dL_law_178 : decode cL_law 178 = .ok (.iload 4, 2) := by decide +kernel
theorem dL_law_180 : decode cL_law 180 = .ok (.iconst 5, 1) := by decide +kernel
theorem dL_law_181 : decode cL_law 181 = .ok (.iadd, 1) := by decide +kernel
theorem dL_law_182 : decode cL_law 182 = .ok (.iaload, 1) := by decide +kernel
theorem dL_law_183 : decode cL_law 183 = .ok (.invokevirtual 70, 3) := by decide +kernel
theorem dL_law_186 : decode cL_law 186 = .ok (.aload_n 2, 1) := by decide +kernel
theorem dL_law_187 : decode cL_law 187 = .ok (.aload_n 0, 1) := by decide +kernel
theorem dL_law_188 : decode cL_law 188 = .ok (.iload 4, 2) := by decide +kernel
theorem dL_law_190 : decode cL_law 190 = .ok (.iconst 1, 1) := by decide +kernel
theorem dL_law_191 : decode cL_law 191 = .ok (.iadd, 1) := by decide +kernel
theorem dL_law_192 : decode cL_law 192 = .ok (.iaload, 1) := by decide +kernel
theorem dL_law_193 : decode cL_law 193 = .ok (.aload_n 0, 1) := by decide +kernel
theorem dL_law_194 : decode cL_law 194 = .ok (.iload 4, 2) := by decide +kernel
theorem dL_law_196 : decode cL_law 196 = .ok (.iconst 2, 1) := by decide +kernel
theorem dL_law_197 : decode cL_law 197 = .ok (.iadd, 1) := by decide +kernel
theorem dL_law_198 : decode cL_law 198 = .ok (.iaload, 1) := by decide +kernel
theorem dL_law_199 : decode cL_law 199 = .ok (.aload_n 0, 1) := by decide +kernel
theorem dL_law_200 : decode cL_law 200 = .ok (.iload 4, 2) := by decide +kernel
theorem dL_law_202 : decode cL_law 202 = .ok (.iconst 3, 1) := by decide +kernel
theorem dL_law_203 : decode cL_law 203 = .ok (.iadd, 1) := by decide +kernel
theorem dL_law_204 : decode cL_law 204 = .ok (.iaload, 1) := by decide +kernel
theorem dL_law_205 : decode cL_law 205 = .ok (.aload_n 0, 1) := by decide +kernel
theorem dL_law_206 : decode cL_law 206 = .ok (.iload 4, 2) := by decide +kernel
theorem dL_law_208 : decode cL_law 208 = .ok (.iconst 4, 1) := by decide +kernel
theorem dL_law_209 : decode cL_law 209 = .ok (.iadd, 1) := by decide +kernel
theorem dL_law_210 : decode cL_law 210 = .ok (.iaload, 1) := by decide +kernel
theorem dL_law_211 : decode cL_law 211 = .ok (.aload_n 0, 1) := by decide +kernel
theorem dL_law_212 : decode cL_law 212 = .ok (.iload 4, 2) := by decide +kernel
theorem dL_law_214 : decode cL_law 214 = .ok (.iconst 5, 1) := by decide +kernel
theorem dL_law_215 : decode cL_law 215 = .ok (.iadd, 1) := by decide +kernel
theorem dL_law_216 : decode cL_law 216 = .ok (.iaload, 1) := by decide +kernel
theorem dL_law_217 : decode cL_law 217 = .ok (.invokevirtual 74, 3) := by decide +kernel
theorem dL_law_220 : decode cL_law 220 = .ok (.if_icmp .eq 1205, 3) := by decide +kernel
theorem dL_law_223 : decode cL_law 223 = .ok (.iconst 0, 1) := by decide +kernel
theorem dL_law_224 : decode cL_law 224 = .ok (.ireturn, 1) := by decide +kernel
theorem dL_law_225 : decode cL_law 225 = .ok (.aload_n 1, 1) := by decide +kernel
theorem dL_law_226 : decode cL_law 226 = .ok (.aload_n 0, 1) := by decide +kernel
theorem dL_law_227 : decode cL_law 227 = .ok (.iload 4, 2) := by decide +kernel
theorem dL_law_229 : decode cL_law 229 = .ok (.iconst 1, 1) := by decide +kernel
theorem dL_law_230 : decode cL_law 230 = .ok (.iadd, 1) := by decide +kernel
theorem dL_law_231 : decode cL_law 231 = .ok (.iaload, 1) := by decide +kernel
theorem dL_law_232 : decode cL_law 232 = .ok (.aload_n 3, 1) := by decide +kernel
theorem dL_law_233 : decode cL_law 233 = .ok (.invokestatic 75, 3) := by decide +kernel
theorem dL_law_236 : decode cL_law 236 = .ok (.istore 5, 2) := by decide +kernel
theorem dL_law_238 : decode cL_law 238 = .ok (.aload_n 2, 1) := by decide +kernel
theorem dL_law_239 : decode cL_law 239 = .ok (.aload_n 0, 1) := by decide +kernel
theorem dL_law_240 : decode cL_law 240 = .ok (.iload 4, 2) := by decide +kernel
theorem dL_law_242 : decode cL_law 242 = .ok (.iconst 1, 1) := by decide +kernel
theorem dL_law_243 : decode cL_law 243 = .ok (.iadd, 1) := by decide +kernel
theorem dL_law_244 : decode cL_law 244 = .ok (.iaload, 1) := by decide +kernel
theorem dL_law_245 : decode cL_law 245 = .ok (.invokevirtual 80, 3) := by decide +kernel
theorem dL_law_248 : decode cL_law 248 = .ok (.istore 6, 2) := by decide +kernel
theorem dL_law_250 : decode cL_law 250 = .ok (.aload_n 2, 1) := by decide +kernel
theorem dL_law_251 : decode cL_law 251 = .ok (.invokevirtual 81, 3) := by decide +kernel
theorem dL_law_254 : decode cL_law 254 = .ok (.iload 5, 2) := by decide +kernel
theorem dL_law_256 : decode cL_law 256 = .ok (.if_icmp .eq 5, 3) := by decide +kernel
theorem dL_law_259 : decode cL_law 259 = .ok (.iconst 0, 1) := by decide +kernel
theorem dL_law_260 : decode cL_law 260 = .ok (.ireturn, 1) := by decide +kernel
theorem dL_law_261 : decode cL_law 261 = .ok (.iload 5, 2) := by decide +kernel
theorem dL_law_263 : decode cL_law 263 = .ok (.ifCond .ne 15, 3) := by decide +kernel
theorem dL_law_266 : decode cL_law 266 = .ok (.aload_n 3, 1) := by decide +kernel
theorem dL_law_267 : decode cL_law 267 = .ok (.iconst 0, 1) := by decide +kernel
theorem dL_law_268 : decode cL_law 268 = .ok (.laload, 1) := by decide +kernel
theorem dL_law_269 : decode cL_law 269 = .ok (.iload 6, 2) := by decide +kernel
theorem dL_law_271 : decode cL_law 271 = .ok (.i2l, 1) := by decide +kernel
theorem dL_law_272 : decode cL_law 272 = .ok (.lcmp, 1) := by decide +kernel
theorem dL_law_273 : decode cL_law 273 = .ok (.ifCond .eq 5, 3) := by decide +kernel
theorem dL_law_276 : decode cL_law 276 = .ok (.iconst 0, 1) := by decide +kernel
theorem dL_law_277 : decode cL_law 277 = .ok (.ireturn, 1) := by decide +kernel
theorem dL_law_278 : decode cL_law 278 = .ok (.goto 1147, 3) := by decide +kernel
theorem dL_law_281 : decode cL_law 281 = .ok (.aload_n 1, 1) := by decide +kernel
theorem dL_law_282 : decode cL_law 282 = .ok (.invokevirtual 85, 3) := by decide +kernel
theorem dL_law_285 : decode cL_law 285 = .ok (.aload_n 2, 1) := by decide +kernel
theorem dL_law_286 : decode cL_law 286 = .ok (.invokevirtual 88, 3) := by decide +kernel
theorem dL_law_289 : decode cL_law 289 = .ok (.if_icmp .eq 1136, 3) := by decide +kernel
theorem dL_law_292 : decode cL_law 292 = .ok (.iconst 0, 1) := by decide +kernel
theorem dL_law_293 : decode cL_law 293 = .ok (.ireturn, 1) := by decide +kernel
theorem dL_law_294 : decode cL_law 294 = .ok (.aload_n 1, 1) := by decide +kernel
theorem dL_law_295 : decode cL_law 295 = .ok (.aload_n 0, 1) := by decide +kernel
theorem dL_law_296 : decode cL_law 296 = .ok (.iload 4, 2) := by decide +kernel
theorem dL_law_298 : decode cL_law 298 = .ok (.iconst 1, 1) := by decide +kernel
theorem dL_law_299 : decode cL_law 299 = .ok (.iadd, 1) := by decide +kernel
theorem dL_law_300 : decode cL_law 300 = .ok (.iaload, 1) := by decide +kernel
theorem dL_law_301 : decode cL_law 301 = .ok (.aload_n 3, 1) := by decide +kernel
theorem dL_law_302 : decode cL_law 302 = .ok (.invokestatic 89, 3) := by decide +kernel
theorem dL_law_305 : decode cL_law 305 = .ok (.istore 5, 2) := by decide +kernel
theorem dL_law_307 : decode cL_law 307 = .ok (.aload_n 2, 1) := by decide +kernel
theorem dL_law_308 : decode cL_law 308 = .ok (.aload_n 0, 1) := by decide +kernel
theorem dL_law_309 : decode cL_law 309 = .ok (.iload 4, 2) := by decide +kernel
theorem dL_law_311 : decode cL_law 311 = .ok (.iconst 1, 1) := by decide +kernel
theorem dL_law_312 : decode cL_law 312 = .ok (.iadd, 1) := by decide +kernel
theorem dL_law_313 : decode cL_law 313 = .ok (.iaload, 1) := by decide +kernel
theorem dL_law_314 : decode cL_law 314 = .ok (.invokevirtual 91, 3) := by decide +kernel
theorem dL_law_317 : decode cL_law 317 = .ok (.istore 6, 2) := by decide +kernel
theorem dL_law_319 : decode cL_law 319 = .ok (.aload_n 2, 1) := by decide +kernel
theorem dL_law_320 : decode cL_law 320 = .ok (.invokevirtual 81, 3) := by decide +kernel
theorem dL_law_323 : decode cL_law 323 = .ok (.iload 5, 2) := by decide +kernel
theorem dL_law_325 : decode cL_law 325 = .ok (.if_icmp .eq 5, 3) := by decide +kernel
theorem dL_law_328 : decode cL_law 328 = .ok (.iconst 0, 1) := by decide +kernel
theorem dL_law_329 : decode cL_law 329 = .ok (.ireturn, 1) := by decide +kernel
theorem dL_law_330 : decode cL_law 330 = .ok (.iload 5, 2) := by decide +kernel
theorem dL_law_332 : decode cL_law 332 = .ok (.ifCond .ne 15, 3) := by decide +kernel
theorem dL_law_335 : decode cL_law 335 = .ok (.aload_n 3, 1) := by decide +kernel
theorem dL_law_336 : decode cL_law 336 = .ok (.iconst 0, 1) := by decide +kernel
theorem dL_law_337 : decode cL_law 337 = .ok (.laload, 1) := by decide +kernel
theorem dL_law_338 : decode cL_law 338 = .ok (.iload 6, 2) := by decide +kernel
theorem dL_law_340 : decode cL_law 340 = .ok (.i2l, 1) := by decide +kernel
theorem dL_law_341 : decode cL_law 341 = .ok (.lcmp, 1) := by decide +kernel
theorem dL_law_342 : decode cL_law 342 = .ok (.ifCond .eq 5, 3) := by decide +kernel
theorem dL_law_345 : decode cL_law 345 = .ok (.iconst 0, 1) := by decide +kernel
theorem dL_law_346 : decode cL_law 346 = .ok (.ireturn, 1) := by decide +kernel
theorem dL_law_347 : decode cL_law 347 = .ok (.goto 1078, 3) := by decide +kernel
theorem dL_law_350 : decode cL_law 350 = .ok (.aload_n 1, 1) := by decide +kernel
theorem dL_law_351 : decode cL_law 351 = .ok (.aload_n 0, 1) := by decide +kernel
theorem dL_law_352 : decode cL_law 352 = .ok (.iload 4, 2) := by decide +kernel
theorem dL_law_354 : decode cL_law 354 = .ok (.iconst 1, 1) := by decide +kernel
theorem dL_law_355 : decode cL_law 355 = .ok (.iadd, 1) := by decide +kernel
theorem dL_law_356 : decode cL_law 356 = .ok (.iaload, 1) := by decide +kernel
theorem dL_law_357 : decode cL_law 357 = .ok (.aload_n 0, 1) := by decide +kernel
theorem dL_law_358 : decode cL_law 358 = .ok (.iload 4, 2) := by decide +kernel
theorem dL_law_360 : decode cL_law 360 = .ok (.iconst 2, 1) := by decide +kernel
theorem dL_law_361 : decode cL_law 361 = .ok (.iadd, 1) := by decide +kernel
theorem dL_law_362 : decode cL_law 362 = .ok (.iaload, 1) := by decide +kernel
theorem dL_law_363 : decode cL_law 363 = .ok (.aload_n 3, 1) := by decide +kernel
theorem dL_law_364 : decode cL_law 364 = .ok (.invokestatic 92, 3) := by decide +kernel
theorem dL_law_367 : decode cL_law 367 = .ok (.istore 5, 2) := by decide +kernel
theorem dL_law_369 : decode cL_law 369 = .ok (.aload_n 2, 1) := by decide +kernel
theorem dL_law_370 : decode cL_law 370 = .ok (.aload_n 0, 1) := by decide +kernel
theorem dL_law_371 : decode cL_law 371 = .ok (.iload 4, 2) := by decide +kernel
theorem dL_law_373 : decode cL_law 373 = .ok (.iconst 1, 1) := by decide +kernel
theorem dL_law_374 : decode cL_law 374 = .ok (.iadd, 1) := by decide +kernel
theorem dL_law_375 : decode cL_law 375 = .ok (.iaload, 1) := by decide +kernel
theorem dL_law_376 : decode cL_law 376 = .ok (.aload_n 0, 1) := by decide +kernel
theorem dL_law_377 : decode cL_law 377 = .ok (.iload 4, 2) := by decide +kernel
theorem dL_law_379 : decode cL_law 379 = .ok (.iconst 2, 1) := by decide +kernel
theorem dL_law_380 : decode cL_law 380 = .ok (.iadd, 1) := by decide +kernel
theorem dL_law_381 : decode cL_law 381 = .ok (.iaload, 1) := by decide +kernel
theorem dL_law_382 : decode cL_law 382 = .ok (.invokevirtual 95, 3) := by decide +kernel
theorem dL_law_385 : decode cL_law 385 = .ok (.istore 6, 2) := by decide +kernel
theorem dL_law_387 : decode cL_law 387 = .ok (.aload_n 2, 1) := by decide +kernel
theorem dL_law_388 : decode cL_law 388 = .ok (.invokevirtual 81, 3) := by decide +kernel
theorem dL_law_391 : decode cL_law 391 = .ok (.iload 5, 2) := by decide +kernel
theorem dL_law_393 : decode cL_law 393 = .ok (.if_icmp .eq 5, 3) := by decide +kernel
theorem dL_law_396 : decode cL_law 396 = .ok (.iconst 0, 1) := by decide +kernel
theorem dL_law_397 : decode cL_law 397 = .ok (.ireturn, 1) := by decide +kernel
theorem dL_law_398 : decode cL_law 398 = .ok (.iload 5, 2) := by decide +kernel
theorem dL_law_400 : decode cL_law 400 = .ok (.ifCond .ne 15, 3) := by decide +kernel
theorem dL_law_403 : decode cL_law 403 = .ok (.aload_n 3, 1) := by decide +kernel
theorem dL_law_404 : decode cL_law 404 = .ok (.iconst 0, 1) := by decide +kernel
theorem dL_law_405 : decode cL_law 405 = .ok (.laload, 1) := by decide +kernel
theorem dL_law_406 : decode cL_law 406 = .ok (.iload 6, 2) := by decide +kernel
theorem dL_law_408 : decode cL_law 408 = .ok (.i2l, 1) := by decide +kernel
theorem dL_law_409 : decode cL_law 409 = .ok (.lcmp, 1) := by decide +kernel
theorem dL_law_410 : decode cL_law 410 = .ok (.ifCond .eq 5, 3) := by decide +kernel
theorem dL_law_413 : decode cL_law 413 = .ok (.iconst 0, 1) := by decide +kernel
theorem dL_law_414 : decode cL_law 414 = .ok (.ireturn, 1) := by decide +kernel
theorem dL_law_415 : decode cL_law 415 = .ok (.goto 1010, 3) := by decide +kernel
theorem dL_law_418 : decode cL_law 418 = .ok (.aload_n 1, 1) := by decide +kernel
theorem dL_law_419 : decode cL_law 419 = .ok (.aload_n 0, 1) := by decide +kernel
theorem dL_law_420 : decode cL_law 420 = .ok (.iload 4, 2) := by decide +kernel
theorem dL_law_422 : decode cL_law 422 = .ok (.iconst 1, 1) := by decide +kernel
theorem dL_law_423 : decode cL_law 423 = .ok (.iadd, 1) := by decide +kernel
theorem dL_law_424 : decode cL_law 424 = .ok (.iaload, 1) := by decide +kernel
theorem dL_law_425 : decode cL_law 425 = .ok (.aload_n 0, 1) := by decide +kernel
theorem dL_law_426 : decode cL_law 426 = .ok (.iload 4, 2) := by decide +kernel
theorem dL_law_428 : decode cL_law 428 = .ok (.iconst 2, 1) := by decide +kernel
theorem dL_law_429 : decode cL_law 429 = .ok (.iadd, 1) := by decide +kernel
theorem dL_law_430 : decode cL_law 430 = .ok (.iaload, 1) := by decide +kernel
theorem dL_law_431 : decode cL_law 431 = .ok (.aload_n 0, 1) := by decide +kernel
theorem dL_law_432 : decode cL_law 432 = .ok (.iload 4, 2) := by decide +kernel
theorem dL_law_434 : decode cL_law 434 = .ok (.iconst 3, 1) := by decide +kernel
theorem dL_law_435 : decode cL_law 435 = .ok (.iadd, 1) := by decide +kernel
theorem dL_law_436 : decode cL_law 436 = .ok (.iaload, 1) := by decide +kernel
theorem dL_law_437 : decode cL_law 437 = .ok (.aload_n 3, 1) := by decide +kernel
theorem dL_law_438 : decode cL_law 438 = .ok (.invokestatic 96, 3) := by decide +kernel
theorem dL_law_441 : decode cL_law 441 = .ok (.istore 5, 2) := by decide +kernel
theorem dL_law_443 : decode cL_law 443 = .ok (.aload_n 2, 1) := by decide +kernel
theorem dL_law_444 : decode cL_law 444 = .ok (.aload_n 0, 1) := by decide +kernel
theorem dL_law_445 : decode cL_law 445 = .ok (.iload 4, 2) := by decide +kernel
theorem dL_law_447 : decode cL_law 447 = .ok (.iconst 1, 1) := by decide +kernel
theorem dL_law_448 : decode cL_law 448 = .ok (.iadd, 1) := by decide +kernel
theorem dL_law_449 : decode cL_law 449 = .ok (.iaload, 1) := by decide +kernel
theorem dL_law_450 : decode cL_law 450 = .ok (.aload_n 0, 1) := by decide +kernel
theorem dL_law_451 : decode cL_law 451 = .ok (.iload 4, 2) := by decide +kernel
theorem dL_law_453 : decode cL_law 453 = .ok (.iconst 2, 1) := by decide +kernel
theorem dL_law_454 : decode cL_law 454 = .ok (.iadd, 1) := by decide +kernel
theorem dL_law_455 : decode cL_law 455 = .ok (.iaload, 1) := by decide +kernel
theorem dL_law_456 : decode cL_law 456 = .ok (.aload_n 0, 1) := by decide +kernel
theorem dL_law_457 : decode cL_law 457 = .ok (.iload 4, 2) := by decide +kernel
theorem dL_law_459 : decode cL_law 459 = .ok (.iconst 3, 1) := by decide +kernel
theorem dL_law_460 : decode cL_law 460 = .ok (.iadd, 1) := by decide +kernel
theorem dL_law_461 : decode cL_law 461 = .ok (.iaload, 1) := by decide +kernel
theorem dL_law_462 : decode cL_law 462 = .ok (.invokevirtual 99, 3) := by decide +kernel
theorem dL_law_465 : decode cL_law 465 = .ok (.istore 6, 2) := by decide +kernel
theorem dL_law_467 : decode cL_law 467 = .ok (.aload_n 2, 1) := by decide +kernel
theorem dL_law_468 : decode cL_law 468 = .ok (.invokevirtual 81, 3) := by decide +kernel
theorem dL_law_471 : decode cL_law 471 = .ok (.iload 5, 2) := by decide +kernel
theorem dL_law_473 : decode cL_law 473 = .ok (.if_icmp .eq 5, 3) := by decide +kernel
theorem dL_law_476 : decode cL_law 476 = .ok (.iconst 0, 1) := by decide +kernel
theorem dL_law_477 : decode cL_law 477 = .ok (.ireturn, 1) := by decide +kernel
theorem dL_law_478 : decode cL_law 478 = .ok (.iload 5, 2) := by decide +kernel
theorem dL_law_480 : decode cL_law 480 = .ok (.ifCond .ne 15, 3) := by decide +kernel
theorem dL_law_483 : decode cL_law 483 = .ok (.aload_n 3, 1) := by decide +kernel
theorem dL_law_484 : decode cL_law 484 = .ok (.iconst 0, 1) := by decide +kernel
theorem dL_law_485 : decode cL_law 485 = .ok (.laload, 1) := by decide +kernel
theorem dL_law_486 : decode cL_law 486 = .ok (.iload 6, 2) := by decide +kernel
theorem dL_law_488 : decode cL_law 488 = .ok (.i2l, 1) := by decide +kernel
theorem dL_law_489 : decode cL_law 489 = .ok (.lcmp, 1) := by decide +kernel
theorem dL_law_490 : decode cL_law 490 = .ok (.ifCond .eq 5, 3) := by decide +kernel
theorem dL_law_493 : decode cL_law 493 = .ok (.iconst 0, 1) := by decide +kernel
theorem dL_law_494 : decode cL_law 494 = .ok (.ireturn, 1) := by decide +kernel
theorem dL_law_495 : decode cL_law 495 = .ok (.goto 930, 3) := by decide +kernel
theorem dL_law_498 : decode cL_law 498 = .ok (.aload_n 1, 1) := by decide +kernel
theorem dL_law_499 : decode cL_law 499 = .ok (.aload_n 0, 1) := by decide +kernel
theorem dL_law_500 : decode cL_law 500 = .ok (.iload 4, 2) := by decide +kernel
theorem dL_law_502 : decode cL_law 502 = .ok (.iconst 1, 1) := by decide +kernel
theorem dL_law_503 : decode cL_law 503 = .ok (.iadd, 1) := by decide +kernel
theorem dL_law_504 : decode cL_law 504 = .ok (.iaload, 1) := by decide +kernel
theorem dL_law_505 : decode cL_law 505 = .ok (.aload_n 0, 1) := by decide +kernel
theorem dL_law_506 : decode cL_law 506 = .ok (.iload 4, 2) := by decide +kernel
theorem dL_law_508 : decode cL_law 508 = .ok (.iconst 2, 1) := by decide +kernel
theorem dL_law_509 : decode cL_law 509 = .ok (.iadd, 1) := by decide +kernel
theorem dL_law_510 : decode cL_law 510 = .ok (.iaload, 1) := by decide +kernel
theorem dL_law_511 : decode cL_law 511 = .ok (.aload_n 3, 1) := by decide +kernel
theorem dL_law_512 : decode cL_law 512 = .ok (.invokestatic 100, 3) := by decide +kernel
theorem dL_law_515 : decode cL_law 515 = .ok (.istore 5, 2) := by decide +kernel
theorem dL_law_517 : decode cL_law 517 = .ok (.aload_n 2, 1) := by decide +kernel
theorem dL_law_518 : decode cL_law 518 = .ok (.aload_n 0, 1) := by decide +kernel
theorem dL_law_519 : decode cL_law 519 = .ok (.iload 4, 2) := by decide +kernel
theorem dL_law_521 : decode cL_law 521 = .ok (.iconst 1, 1) := by decide +kernel
theorem dL_law_522 : decode cL_law 522 = .ok (.iadd, 1) := by decide +kernel
theorem dL_law_523 : decode cL_law 523 = .ok (.iaload, 1) := by decide +kernel
theorem dL_law_524 : decode cL_law 524 = .ok (.aload_n 0, 1) := by decide +kernel
theorem dL_law_525 : decode cL_law 525 = .ok (.iload 4, 2) := by decide +kernel
theorem dL_law_527 : decode cL_law 527 = .ok (.iconst 2, 1) := by decide +kernel
theorem dL_law_528 : decode cL_law 528 = .ok (.iadd, 1) := by decide +kernel
theorem dL_law_529 : decode cL_law 529 = .ok (.iaload, 1) := by decide +kernel
theorem dL_law_530 : decode cL_law 530 = .ok (.invokevirtual 102, 3) := by decide +kernel
theorem dL_law_533 : decode cL_law 533 = .ok (.istore 6, 2) := by decide +kernel
theorem dL_law_535 : decode cL_law 535 = .ok (.aload_n 2, 1) := by decide +kernel
theorem dL_law_536 : decode cL_law 536 = .ok (.invokevirtual 81, 3) := by decide +kernel
theorem dL_law_539 : decode cL_law 539 = .ok (.iload 5, 2) := by decide +kernel
theorem dL_law_541 : decode cL_law 541 = .ok (.if_icmp .eq 5, 3) := by decide +kernel
theorem dL_law_544 : decode cL_law 544 = .ok (.iconst 0, 1) := by decide +kernel
theorem dL_law_545 : decode cL_law 545 = .ok (.ireturn, 1) := by decide +kernel
theorem dL_law_546 : decode cL_law 546 = .ok (.iload 5, 2) := by decide +kernel
theorem dL_law_548 : decode cL_law 548 = .ok (.ifCond .ne 15, 3) := by decide +kernel
theorem dL_law_551 : decode cL_law 551 = .ok (.aload_n 3, 1) := by decide +kernel
theorem dL_law_552 : decode cL_law 552 = .ok (.iconst 0, 1) := by decide +kernel
theorem dL_law_553 : decode cL_law 553 = .ok (.laload, 1) := by decide +kernel
theorem dL_law_554 : decode cL_law 554 = .ok (.iload 6, 2) := by decide +kernel
theorem dL_law_556 : decode cL_law 556 = .ok (.i2l, 1) := by decide +kernel
theorem dL_law_557 : decode cL_law 557 = .ok (.lcmp, 1) := by decide +kernel
theorem dL_law_558 : decode cL_law 558 = .ok (.ifCond .eq 5, 3) := by decide +kernel
theorem dL_law_561 : decode cL_law 561 = .ok (.iconst 0, 1) := by decide +kernel
theorem dL_law_562 : decode cL_law 562 = .ok (.ireturn, 1) := by decide +kernel
theorem dL_law_563 : decode cL_law 563 = .ok (.goto 862, 3) := by decide +kernel
theorem dL_law_566 : decode cL_law 566 = .ok (.aload_n 1, 1) := by decide +kernel
theorem dL_law_567 : decode cL_law 567 = .ok (.aload_n 0, 1) := by decide +kernel
theorem dL_law_568 : decode cL_law 568 = .ok (.iload 4, 2) := by decide +kernel
theorem dL_law_570 : decode cL_law 570 = .ok (.iconst 1, 1) := by decide +kernel
theorem dL_law_571 : decode cL_law 571 = .ok (.iadd, 1) := by decide +kernel
theorem dL_law_572 : decode cL_law 572 = .ok (.iaload, 1) := by decide +kernel
theorem dL_law_573 : decode cL_law 573 = .ok (.aload_n 0, 1) := by decide +kernel
theorem dL_law_574 : decode cL_law 574 = .ok (.iload 4, 2) := by decide +kernel
theorem dL_law_576 : decode cL_law 576 = .ok (.iconst 2, 1) := by decide +kernel
theorem dL_law_577 : decode cL_law 577 = .ok (.iadd, 1) := by decide +kernel
theorem dL_law_578 : decode cL_law 578 = .ok (.iaload, 1) := by decide +kernel
theorem dL_law_579 : decode cL_law 579 = .ok (.aload_n 0, 1) := by decide +kernel
theorem dL_law_580 : decode cL_law 580 = .ok (.iload 4, 2) := by decide +kernel
theorem dL_law_582 : decode cL_law 582 = .ok (.iconst 3, 1) := by decide +kernel
theorem dL_law_583 : decode cL_law 583 = .ok (.iadd, 1) := by decide +kernel
theorem dL_law_584 : decode cL_law 584 = .ok (.iaload, 1) := by decide +kernel
theorem dL_law_585 : decode cL_law 585 = .ok (.aload_n 3, 1) := by decide +kernel
theorem dL_law_586 : decode cL_law 586 = .ok (.invokestatic 103, 3) := by decide +kernel
theorem dL_law_589 : decode cL_law 589 = .ok (.istore 5, 2) := by decide +kernel
theorem dL_law_591 : decode cL_law 591 = .ok (.aload_n 2, 1) := by decide +kernel
theorem dL_law_592 : decode cL_law 592 = .ok (.aload_n 0, 1) := by decide +kernel
theorem dL_law_593 : decode cL_law 593 = .ok (.iload 4, 2) := by decide +kernel
theorem dL_law_595 : decode cL_law 595 = .ok (.iconst 1, 1) := by decide +kernel
theorem dL_law_596 : decode cL_law 596 = .ok (.iadd, 1) := by decide +kernel
theorem dL_law_597 : decode cL_law 597 = .ok (.iaload, 1) := by decide +kernel
theorem dL_law_598 : decode cL_law 598 = .ok (.aload_n 0, 1) := by decide +kernel
theorem dL_law_599 : decode cL_law 599 = .ok (.iload 4, 2) := by decide +kernel
theorem dL_law_601 : decode cL_law 601 = .ok (.iconst 2, 1) := by decide +kernel
theorem dL_law_602 : decode cL_law 602 = .ok (.iadd, 1) := by decide +kernel
theorem dL_law_603 : decode cL_law 603 = .ok (.iaload, 1) := by decide +kernel
theorem dL_law_604 : decode cL_law 604 = .ok (.aload_n 0, 1) := by decide +kernel
theorem dL_law_605 : decode cL_law 605 = .ok (.iload 4, 2) := by decide +kernel
theorem dL_law_607 : decode cL_law 607 = .ok (.iconst 3, 1) := by decide +kernel
theorem dL_law_608 : decode cL_law 608 = .ok (.iadd, 1) := by decide +kernel
theorem dL_law_609 : decode cL_law 609 = .ok (.iaload, 1) := by decide +kernel
theorem dL_law_610 : decode cL_law 610 = .ok (.invokevirtual 105, 3) := by decide +kernel
theorem dL_law_613 : decode cL_law 613 = .ok (.istore 6, 2) := by decide +kernel
theorem dL_law_615 : decode cL_law 615 = .ok (.aload_n 2, 1) := by decide +kernel
theorem dL_law_616 : decode cL_law 616 = .ok (.invokevirtual 81, 3) := by decide +kernel
theorem dL_law_619 : decode cL_law 619 = .ok (.iload 5, 2) := by decide +kernel
theorem dL_law_621 : decode cL_law 621 = .ok (.if_icmp .eq 5, 3) := by decide +kernel
theorem dL_law_624 : decode cL_law 624 = .ok (.iconst 0, 1) := by decide +kernel
theorem dL_law_625 : decode cL_law 625 = .ok (.ireturn, 1) := by decide +kernel
theorem dL_law_626 : decode cL_law 626 = .ok (.iload 5, 2) := by decide +kernel
theorem dL_law_628 : decode cL_law 628 = .ok (.ifCond .ne 22, 3) := by decide +kernel
theorem dL_law_631 : decode cL_law 631 = .ok (.aload_n 3, 1) := by decide +kernel
theorem dL_law_632 : decode cL_law 632 = .ok (.iconst 0, 1) := by decide +kernel
theorem dL_law_633 : decode cL_law 633 = .ok (.laload, 1) := by decide +kernel
theorem dL_law_634 : decode cL_law 634 = .ok (.iload 6, 2) := by decide +kernel
theorem dL_law_636 : decode cL_law 636 = .ok (.ifCond .eq 7, 3) := by decide +kernel
theorem dL_law_639 : decode cL_law 639 = .ok (.lconst 1, 1) := by decide +kernel
theorem dL_law_640 : decode cL_law 640 = .ok (.goto 4, 3) := by decide +kernel
theorem dL_law_643 : decode cL_law 643 = .ok (.lconst 0, 1) := by decide +kernel
theorem dL_law_644 : decode cL_law 644 = .ok (.lcmp, 1) := by decide +kernel
theorem dL_law_645 : decode cL_law 645 = .ok (.ifCond .eq 5, 3) := by decide +kernel
theorem dL_law_648 : decode cL_law 648 = .ok (.iconst 0, 1) := by decide +kernel
theorem dL_law_649 : decode cL_law 649 = .ok (.ireturn, 1) := by decide +kernel
theorem dL_law_650 : decode cL_law 650 = .ok (.goto 775, 3) := by decide +kernel
theorem dL_law_653 : decode cL_law 653 = .ok (.aload_n 1, 1) := by decide +kernel
theorem dL_law_654 : decode cL_law 654 = .ok (.aload_n 0, 1) := by decide +kernel
theorem dL_law_655 : decode cL_law 655 = .ok (.iload 4, 2) := by decide +kernel
theorem dL_law_657 : decode cL_law 657 = .ok (.iconst 1, 1) := by decide +kernel
theorem dL_law_658 : decode cL_law 658 = .ok (.iadd, 1) := by decide +kernel
theorem dL_law_659 : decode cL_law 659 = .ok (.iaload, 1) := by decide +kernel
theorem dL_law_660 : decode cL_law 660 = .ok (.aload_n 0, 1) := by decide +kernel
theorem dL_law_661 : decode cL_law 661 = .ok (.iload 4, 2) := by decide +kernel
theorem dL_law_663 : decode cL_law 663 = .ok (.iconst 2, 1) := by decide +kernel
theorem dL_law_664 : decode cL_law 664 = .ok (.iadd, 1) := by decide +kernel
theorem dL_law_665 : decode cL_law 665 = .ok (.iaload, 1) := by decide +kernel
theorem dL_law_666 : decode cL_law 666 = .ok (.aload_n 3, 1) := by decide +kernel
theorem dL_law_667 : decode cL_law 667 = .ok (.invokestatic 106, 3) := by decide +kernel
theorem dL_law_670 : decode cL_law 670 = .ok (.istore 5, 2) := by decide +kernel
theorem dL_law_672 : decode cL_law 672 = .ok (.aload_n 2, 1) := by decide +kernel
theorem dL_law_673 : decode cL_law 673 = .ok (.aload_n 0, 1) := by decide +kernel
theorem dL_law_674 : decode cL_law 674 = .ok (.iload 4, 2) := by decide +kernel
theorem dL_law_676 : decode cL_law 676 = .ok (.iconst 1, 1) := by decide +kernel
theorem dL_law_677 : decode cL_law 677 = .ok (.iadd, 1) := by decide +kernel
theorem dL_law_678 : decode cL_law 678 = .ok (.iaload, 1) := by decide +kernel
theorem dL_law_679 : decode cL_law 679 = .ok (.aload_n 0, 1) := by decide +kernel
theorem dL_law_680 : decode cL_law 680 = .ok (.iload 4, 2) := by decide +kernel
theorem dL_law_682 : decode cL_law 682 = .ok (.iconst 2, 1) := by decide +kernel
theorem dL_law_683 : decode cL_law 683 = .ok (.iadd, 1) := by decide +kernel
theorem dL_law_684 : decode cL_law 684 = .ok (.iaload, 1) := by decide +kernel
theorem dL_law_685 : decode cL_law 685 = .ok (.invokevirtual 108, 3) := by decide +kernel
theorem dL_law_688 : decode cL_law 688 = .ok (.istore 6, 2) := by decide +kernel
theorem dL_law_690 : decode cL_law 690 = .ok (.aload_n 2, 1) := by decide +kernel
theorem dL_law_691 : decode cL_law 691 = .ok (.invokevirtual 81, 3) := by decide +kernel
theorem dL_law_694 : decode cL_law 694 = .ok (.iload 5, 2) := by decide +kernel
theorem dL_law_696 : decode cL_law 696 = .ok (.if_icmp .eq 5, 3) := by decide +kernel
theorem dL_law_699 : decode cL_law 699 = .ok (.iconst 0, 1) := by decide +kernel
theorem dL_law_700 : decode cL_law 700 = .ok (.ireturn, 1) := by decide +kernel
theorem dL_law_701 : decode cL_law 701 = .ok (.iload 5, 2) := by decide +kernel
theorem dL_law_703 : decode cL_law 703 = .ok (.ifCond .ne 15, 3) := by decide +kernel
theorem dL_law_706 : decode cL_law 706 = .ok (.aload_n 3, 1) := by decide +kernel
theorem dL_law_707 : decode cL_law 707 = .ok (.iconst 0, 1) := by decide +kernel
theorem dL_law_708 : decode cL_law 708 = .ok (.laload, 1) := by decide +kernel
theorem dL_law_709 : decode cL_law 709 = .ok (.iload 6, 2) := by decide +kernel
theorem dL_law_711 : decode cL_law 711 = .ok (.i2l, 1) := by decide +kernel
theorem dL_law_712 : decode cL_law 712 = .ok (.lcmp, 1) := by decide +kernel
theorem dL_law_713 : decode cL_law 713 = .ok (.ifCond .eq 5, 3) := by decide +kernel
theorem dL_law_716 : decode cL_law 716 = .ok (.iconst 0, 1) := by decide +kernel
theorem dL_law_717 : decode cL_law 717 = .ok (.ireturn, 1) := by decide +kernel
theorem dL_law_718 : decode cL_law 718 = .ok (.goto 707, 3) := by decide +kernel
theorem dL_law_721 : decode cL_law 721 = .ok (.aload_n 1, 1) := by decide +kernel
theorem dL_law_722 : decode cL_law 722 = .ok (.aload_n 0, 1) := by decide +kernel
theorem dL_law_723 : decode cL_law 723 = .ok (.iload 4, 2) := by decide +kernel
theorem dL_law_725 : decode cL_law 725 = .ok (.iconst 1, 1) := by decide +kernel
theorem dL_law_726 : decode cL_law 726 = .ok (.iadd, 1) := by decide +kernel
theorem dL_law_727 : decode cL_law 727 = .ok (.iaload, 1) := by decide +kernel
theorem dL_law_728 : decode cL_law 728 = .ok (.aload_n 0, 1) := by decide +kernel
theorem dL_law_729 : decode cL_law 729 = .ok (.iload 4, 2) := by decide +kernel
theorem dL_law_731 : decode cL_law 731 = .ok (.iconst 2, 1) := by decide +kernel
theorem dL_law_732 : decode cL_law 732 = .ok (.iadd, 1) := by decide +kernel
theorem dL_law_733 : decode cL_law 733 = .ok (.iaload, 1) := by decide +kernel
theorem dL_law_734 : decode cL_law 734 = .ok (.aload_n 0, 1) := by decide +kernel
theorem dL_law_735 : decode cL_law 735 = .ok (.iload 4, 2) := by decide +kernel
theorem dL_law_737 : decode cL_law 737 = .ok (.iconst 3, 1) := by decide +kernel
theorem dL_law_738 : decode cL_law 738 = .ok (.iadd, 1) := by decide +kernel
theorem dL_law_739 : decode cL_law 739 = .ok (.iaload, 1) := by decide +kernel
theorem dL_law_740 : decode cL_law 740 = .ok (.aload_n 0, 1) := by decide +kernel
theorem dL_law_741 : decode cL_law 741 = .ok (.iload 4, 2) := by decide +kernel
theorem dL_law_743 : decode cL_law 743 = .ok (.iconst 4, 1) := by decide +kernel
theorem dL_law_744 : decode cL_law 744 = .ok (.iadd, 1) := by decide +kernel
theorem dL_law_745 : decode cL_law 745 = .ok (.iaload, 1) := by decide +kernel
theorem dL_law_746 : decode cL_law 746 = .ok (.aload_n 3, 1) := by decide +kernel
theorem dL_law_747 : decode cL_law 747 = .ok (.invokestatic 109, 3) := by decide +kernel
theorem dL_law_750 : decode cL_law 750 = .ok (.istore 5, 2) := by decide +kernel
theorem dL_law_752 : decode cL_law 752 = .ok (.aload_n 2, 1) := by decide +kernel
theorem dL_law_753 : decode cL_law 753 = .ok (.aload_n 0, 1) := by decide +kernel
theorem dL_law_754 : decode cL_law 754 = .ok (.iload 4, 2) := by decide +kernel
theorem dL_law_756 : decode cL_law 756 = .ok (.iconst 1, 1) := by decide +kernel
theorem dL_law_757 : decode cL_law 757 = .ok (.iadd, 1) := by decide +kernel
theorem dL_law_758 : decode cL_law 758 = .ok (.iaload, 1) := by decide +kernel
theorem dL_law_759 : decode cL_law 759 = .ok (.aload_n 0, 1) := by decide +kernel
theorem dL_law_760 : decode cL_law 760 = .ok (.iload 4, 2) := by decide +kernel
theorem dL_law_762 : decode cL_law 762 = .ok (.iconst 2, 1) := by decide +kernel
theorem dL_law_763 : decode cL_law 763 = .ok (.iadd, 1) := by decide +kernel
theorem dL_law_764 : decode cL_law 764 = .ok (.iaload, 1) := by decide +kernel
theorem dL_law_765 : decode cL_law 765 = .ok (.aload_n 0, 1) := by decide +kernel
theorem dL_law_766 : decode cL_law 766 = .ok (.iload 4, 2) := by decide +kernel
theorem dL_law_768 : decode cL_law 768 = .ok (.iconst 3, 1) := by decide +kernel
theorem dL_law_769 : decode cL_law 769 = .ok (.iadd, 1) := by decide +kernel
theorem dL_law_770 : decode cL_law 770 = .ok (.iaload, 1) := by decide +kernel
theorem dL_law_771 : decode cL_law 771 = .ok (.aload_n 0, 1) := by decide +kernel
theorem dL_law_772 : decode cL_law 772 = .ok (.iload 4, 2) := by decide +kernel
theorem dL_law_774 : decode cL_law 774 = .ok (.iconst 4, 1) := by decide +kernel
theorem dL_law_775 : decode cL_law 775 = .ok (.iadd, 1) := by decide +kernel
theorem dL_law_776 : decode cL_law 776 = .ok (.iaload, 1) := by decide +kernel
theorem dL_law_777 : decode cL_law 777 = .ok (.invokevirtual 112, 3) := by decide +kernel
theorem dL_law_780 : decode cL_law 780 = .ok (.istore 6, 2) := by decide +kernel
theorem dL_law_782 : decode cL_law 782 = .ok (.aload_n 2, 1) := by decide +kernel
theorem dL_law_783 : decode cL_law 783 = .ok (.invokevirtual 81, 3) := by decide +kernel
theorem dL_law_786 : decode cL_law 786 = .ok (.iload 5, 2) := by decide +kernel
theorem dL_law_788 : decode cL_law 788 = .ok (.if_icmp .eq 5, 3) := by decide +kernel
theorem dL_law_791 : decode cL_law 791 = .ok (.iconst 0, 1) := by decide +kernel
theorem dL_law_792 : decode cL_law 792 = .ok (.ireturn, 1) := by decide +kernel
theorem dL_law_793 : decode cL_law 793 = .ok (.iload 5, 2) := by decide +kernel
theorem dL_law_795 : decode cL_law 795 = .ok (.ifCond .ne 15, 3) := by decide +kernel
theorem dL_law_798 : decode cL_law 798 = .ok (.aload_n 3, 1) := by decide +kernel
theorem dL_law_799 : decode cL_law 799 = .ok (.iconst 0, 1) := by decide +kernel
theorem dL_law_800 : decode cL_law 800 = .ok (.laload, 1) := by decide +kernel
theorem dL_law_801 : decode cL_law 801 = .ok (.iload 6, 2) := by decide +kernel
theorem dL_law_803 : decode cL_law 803 = .ok (.i2l, 1) := by decide +kernel
theorem dL_law_804 : decode cL_law 804 = .ok (.lcmp, 1) := by decide +kernel
theorem dL_law_805 : decode cL_law 805 = .ok (.ifCond .eq 5, 3) := by decide +kernel
theorem dL_law_808 : decode cL_law 808 = .ok (.iconst 0, 1) := by decide +kernel
theorem dL_law_809 : decode cL_law 809 = .ok (.ireturn, 1) := by decide +kernel
theorem dL_law_810 : decode cL_law 810 = .ok (.goto 615, 3) := by decide +kernel
theorem dL_law_813 : decode cL_law 813 = .ok (.aload_n 1, 1) := by decide +kernel
theorem dL_law_814 : decode cL_law 814 = .ok (.aload_n 0, 1) := by decide +kernel
theorem dL_law_815 : decode cL_law 815 = .ok (.iload 4, 2) := by decide +kernel
theorem dL_law_817 : decode cL_law 817 = .ok (.iconst 1, 1) := by decide +kernel
theorem dL_law_818 : decode cL_law 818 = .ok (.iadd, 1) := by decide +kernel
theorem dL_law_819 : decode cL_law 819 = .ok (.iaload, 1) := by decide +kernel
theorem dL_law_820 : decode cL_law 820 = .ok (.aload_n 0, 1) := by decide +kernel
theorem dL_law_821 : decode cL_law 821 = .ok (.iload 4, 2) := by decide +kernel
theorem dL_law_823 : decode cL_law 823 = .ok (.iconst 2, 1) := by decide +kernel
theorem dL_law_824 : decode cL_law 824 = .ok (.iadd, 1) := by decide +kernel
theorem dL_law_825 : decode cL_law 825 = .ok (.iaload, 1) := by decide +kernel
theorem dL_law_826 : decode cL_law 826 = .ok (.aload_n 0, 1) := by decide +kernel
theorem dL_law_827 : decode cL_law 827 = .ok (.iload 4, 2) := by decide +kernel
theorem dL_law_829 : decode cL_law 829 = .ok (.iconst 3, 1) := by decide +kernel
theorem dL_law_830 : decode cL_law 830 = .ok (.iadd, 1) := by decide +kernel
theorem dL_law_831 : decode cL_law 831 = .ok (.iaload, 1) := by decide +kernel
theorem dL_law_832 : decode cL_law 832 = .ok (.aload_n 3, 1) := by decide +kernel
theorem dL_law_833 : decode cL_law 833 = .ok (.invokestatic 113, 3) := by decide +kernel
theorem dL_law_836 : decode cL_law 836 = .ok (.istore 5, 2) := by decide +kernel
theorem dL_law_838 : decode cL_law 838 = .ok (.aload_n 2, 1) := by decide +kernel
theorem dL_law_839 : decode cL_law 839 = .ok (.aload_n 0, 1) := by decide +kernel
theorem dL_law_840 : decode cL_law 840 = .ok (.iload 4, 2) := by decide +kernel
theorem dL_law_842 : decode cL_law 842 = .ok (.iconst 1, 1) := by decide +kernel
theorem dL_law_843 : decode cL_law 843 = .ok (.iadd, 1) := by decide +kernel
theorem dL_law_844 : decode cL_law 844 = .ok (.iaload, 1) := by decide +kernel
theorem dL_law_845 : decode cL_law 845 = .ok (.aload_n 0, 1) := by decide +kernel
theorem dL_law_846 : decode cL_law 846 = .ok (.iload 4, 2) := by decide +kernel
theorem dL_law_848 : decode cL_law 848 = .ok (.iconst 2, 1) := by decide +kernel
theorem dL_law_849 : decode cL_law 849 = .ok (.iadd, 1) := by decide +kernel
theorem dL_law_850 : decode cL_law 850 = .ok (.iaload, 1) := by decide +kernel
theorem dL_law_851 : decode cL_law 851 = .ok (.aload_n 0, 1) := by decide +kernel
theorem dL_law_852 : decode cL_law 852 = .ok (.iload 4, 2) := by decide +kernel
theorem dL_law_854 : decode cL_law 854 = .ok (.iconst 3, 1) := by decide +kernel
theorem dL_law_855 : decode cL_law 855 = .ok (.iadd, 1) := by decide +kernel
theorem dL_law_856 : decode cL_law 856 = .ok (.iaload, 1) := by decide +kernel
theorem dL_law_857 : decode cL_law 857 = .ok (.invokevirtual 115, 3) := by decide +kernel
theorem dL_law_860 : decode cL_law 860 = .ok (.istore 6, 2) := by decide +kernel
theorem dL_law_862 : decode cL_law 862 = .ok (.aload_n 2, 1) := by decide +kernel
theorem dL_law_863 : decode cL_law 863 = .ok (.invokevirtual 81, 3) := by decide +kernel
theorem dL_law_866 : decode cL_law 866 = .ok (.iload 5, 2) := by decide +kernel
theorem dL_law_868 : decode cL_law 868 = .ok (.if_icmp .eq 5, 3) := by decide +kernel
theorem dL_law_871 : decode cL_law 871 = .ok (.iconst 0, 1) := by decide +kernel
theorem dL_law_872 : decode cL_law 872 = .ok (.ireturn, 1) := by decide +kernel
theorem dL_law_873 : decode cL_law 873 = .ok (.iload 5, 2) := by decide +kernel
theorem dL_law_875 : decode cL_law 875 = .ok (.ifCond .ne 15, 3) := by decide +kernel
theorem dL_law_878 : decode cL_law 878 = .ok (.aload_n 3, 1) := by decide +kernel
theorem dL_law_879 : decode cL_law 879 = .ok (.iconst 0, 1) := by decide +kernel
theorem dL_law_880 : decode cL_law 880 = .ok (.laload, 1) := by decide +kernel
theorem dL_law_881 : decode cL_law 881 = .ok (.iload 6, 2) := by decide +kernel
theorem dL_law_883 : decode cL_law 883 = .ok (.i2l, 1) := by decide +kernel
theorem dL_law_884 : decode cL_law 884 = .ok (.lcmp, 1) := by decide +kernel
theorem dL_law_885 : decode cL_law 885 = .ok (.ifCond .eq 5, 3) := by decide +kernel
theorem dL_law_888 : decode cL_law 888 = .ok (.iconst 0, 1) := by decide +kernel
theorem dL_law_889 : decode cL_law 889 = .ok (.ireturn, 1) := by decide +kernel
theorem dL_law_890 : decode cL_law 890 = .ok (.goto 535, 3) := by decide +kernel
theorem dL_law_893 : decode cL_law 893 = .ok (.aload_n 1, 1) := by decide +kernel
theorem dL_law_894 : decode cL_law 894 = .ok (.aload_n 0, 1) := by decide +kernel
theorem dL_law_895 : decode cL_law 895 = .ok (.iload 4, 2) := by decide +kernel
theorem dL_law_897 : decode cL_law 897 = .ok (.iconst 1, 1) := by decide +kernel
theorem dL_law_898 : decode cL_law 898 = .ok (.iadd, 1) := by decide +kernel
theorem dL_law_899 : decode cL_law 899 = .ok (.iaload, 1) := by decide +kernel
theorem dL_law_900 : decode cL_law 900 = .ok (.aload_n 0, 1) := by decide +kernel
theorem dL_law_901 : decode cL_law 901 = .ok (.iload 4, 2) := by decide +kernel
theorem dL_law_903 : decode cL_law 903 = .ok (.iconst 2, 1) := by decide +kernel
theorem dL_law_904 : decode cL_law 904 = .ok (.iadd, 1) := by decide +kernel
theorem dL_law_905 : decode cL_law 905 = .ok (.iaload, 1) := by decide +kernel
theorem dL_law_906 : decode cL_law 906 = .ok (.aload_n 3, 1) := by decide +kernel
theorem dL_law_907 : decode cL_law 907 = .ok (.invokestatic 116, 3) := by decide +kernel
theorem dL_law_910 : decode cL_law 910 = .ok (.istore 5, 2) := by decide +kernel
theorem dL_law_912 : decode cL_law 912 = .ok (.aload_n 2, 1) := by decide +kernel
theorem dL_law_913 : decode cL_law 913 = .ok (.aload_n 0, 1) := by decide +kernel
theorem dL_law_914 : decode cL_law 914 = .ok (.iload 4, 2) := by decide +kernel
theorem dL_law_916 : decode cL_law 916 = .ok (.iconst 1, 1) := by decide +kernel
theorem dL_law_917 : decode cL_law 917 = .ok (.iadd, 1) := by decide +kernel
theorem dL_law_918 : decode cL_law 918 = .ok (.iaload, 1) := by decide +kernel
theorem dL_law_919 : decode cL_law 919 = .ok (.aload_n 0, 1) := by decide +kernel
theorem dL_law_920 : decode cL_law 920 = .ok (.iload 4, 2) := by decide +kernel
theorem dL_law_922 : decode cL_law 922 = .ok (.iconst 2, 1) := by decide +kernel
theorem dL_law_923 : decode cL_law 923 = .ok (.iadd, 1) := by decide +kernel
theorem dL_law_924 : decode cL_law 924 = .ok (.iaload, 1) := by decide +kernel
theorem dL_law_925 : decode cL_law 925 = .ok (.invokevirtual 118, 3) := by decide +kernel
theorem dL_law_928 : decode cL_law 928 = .ok (.istore 6, 2) := by decide +kernel
theorem dL_law_930 : decode cL_law 930 = .ok (.aload_n 2, 1) := by decide +kernel
theorem dL_law_931 : decode cL_law 931 = .ok (.invokevirtual 81, 3) := by decide +kernel
theorem dL_law_934 : decode cL_law 934 = .ok (.iload 5, 2) := by decide +kernel
theorem dL_law_936 : decode cL_law 936 = .ok (.if_icmp .eq 5, 3) := by decide +kernel
theorem dL_law_939 : decode cL_law 939 = .ok (.iconst 0, 1) := by decide +kernel
theorem dL_law_940 : decode cL_law 940 = .ok (.ireturn, 1) := by decide +kernel
theorem dL_law_941 : decode cL_law 941 = .ok (.iload 5, 2) := by decide +kernel
theorem dL_law_943 : decode cL_law 943 = .ok (.ifCond .ne 15, 3) := by decide +kernel
theorem dL_law_946 : decode cL_law 946 = .ok (.aload_n 3, 1) := by decide +kernel
theorem dL_law_947 : decode cL_law 947 = .ok (.iconst 0, 1) := by decide +kernel
theorem dL_law_948 : decode cL_law 948 = .ok (.laload, 1) := by decide +kernel
theorem dL_law_949 : decode cL_law 949 = .ok (.iload 6, 2) := by decide +kernel
theorem dL_law_951 : decode cL_law 951 = .ok (.i2l, 1) := by decide +kernel
theorem dL_law_952 : decode cL_law 952 = .ok (.lcmp, 1) := by decide +kernel
theorem dL_law_953 : decode cL_law 953 = .ok (.ifCond .eq 5, 3) := by decide +kernel
theorem dL_law_956 : decode cL_law 956 = .ok (.iconst 0, 1) := by decide +kernel
theorem dL_law_957 : decode cL_law 957 = .ok (.ireturn, 1) := by decide +kernel
theorem dL_law_958 : decode cL_law 958 = .ok (.goto 467, 3) := by decide +kernel
theorem dL_law_961 : decode cL_law 961 = .ok (.aload_n 1, 1) := by decide +kernel
theorem dL_law_962 : decode cL_law 962 = .ok (.invokevirtual 119, 3) := by decide +kernel
theorem dL_law_965 : decode cL_law 965 = .ok (.aload_n 2, 1) := by decide +kernel
theorem dL_law_966 : decode cL_law 966 = .ok (.invokevirtual 122, 3) := by decide +kernel
theorem dL_law_969 : decode cL_law 969 = .ok (.if_icmp .eq 456, 3) := by decide +kernel
theorem dL_law_972 : decode cL_law 972 = .ok (.iconst 0, 1) := by decide +kernel
theorem dL_law_973 : decode cL_law 973 = .ok (.ireturn, 1) := by decide +kernel
theorem dL_law_974 : decode cL_law 974 = .ok (.aload_n 1, 1) := by decide +kernel
theorem dL_law_975 : decode cL_law 975 = .ok (.invokevirtual 123, 3) := by decide +kernel
theorem dL_law_978 : decode cL_law 978 = .ok (.aload_n 2, 1) := by decide +kernel
theorem dL_law_979 : decode cL_law 979 = .ok (.invokevirtual 126, 3) := by decide +kernel
theorem dL_law_982 : decode cL_law 982 = .ok (.if_icmp .eq 443, 3) := by decide +kernel
theorem dL_law_985 : decode cL_law 985 = .ok (.iconst 0, 1) := by decide +kernel
theorem dL_law_986 : decode cL_law 986 = .ok (.ireturn, 1) := by decide +kernel
theorem dL_law_987 : decode cL_law 987 = .ok (.aload_n 1, 1) := by decide +kernel
theorem dL_law_988 : decode cL_law 988 = .ok (.aload_n 0, 1) := by decide +kernel
theorem dL_law_989 : decode cL_law 989 = .ok (.iload 4, 2) := by decide +kernel
theorem dL_law_991 : decode cL_law 991 = .ok (.iconst 1, 1) := by decide +kernel
theorem dL_law_992 : decode cL_law 992 = .ok (.iadd, 1) := by decide +kernel
theorem dL_law_993 : decode cL_law 993 = .ok (.iaload, 1) := by decide +kernel
theorem dL_law_994 : decode cL_law 994 = .ok (.aload_n 0, 1) := by decide +kernel
theorem dL_law_995 : decode cL_law 995 = .ok (.iload 4, 2) := by decide +kernel
theorem dL_law_997 : decode cL_law 997 = .ok (.iconst 2, 1) := by decide +kernel
theorem dL_law_998 : decode cL_law 998 = .ok (.iadd, 1) := by decide +kernel
theorem dL_law_999 : decode cL_law 999 = .ok (.iaload, 1) := by decide +kernel
theorem dL_law_1000 : decode cL_law 1000 = .ok (.aload_n 3, 1) := by decide +kernel
theorem dL_law_1001 : decode cL_law 1001 = .ok (.invokestatic 127, 3) := by decide +kernel
theorem dL_law_1004 : decode cL_law 1004 = .ok (.istore 5, 2) := by decide +kernel
theorem dL_law_1006 : decode cL_law 1006 = .ok (.aload_n 2, 1) := by decide +kernel
theorem dL_law_1007 : decode cL_law 1007 = .ok (.aload_n 0, 1) := by decide +kernel
theorem dL_law_1008 : decode cL_law 1008 = .ok (.iload 4, 2) := by decide +kernel
theorem dL_law_1010 : decode cL_law 1010 = .ok (.iconst 1, 1) := by decide +kernel
theorem dL_law_1011 : decode cL_law 1011 = .ok (.iadd, 1) := by decide +kernel
theorem dL_law_1012 : decode cL_law 1012 = .ok (.iaload, 1) := by decide +kernel
theorem dL_law_1013 : decode cL_law 1013 = .ok (.aload_n 0, 1) := by decide +kernel
theorem dL_law_1014 : decode cL_law 1014 = .ok (.iload 4, 2) := by decide +kernel
theorem dL_law_1016 : decode cL_law 1016 = .ok (.iconst 2, 1) := by decide +kernel
theorem dL_law_1017 : decode cL_law 1017 = .ok (.iadd, 1) := by decide +kernel
theorem dL_law_1018 : decode cL_law 1018 = .ok (.iaload, 1) := by decide +kernel
theorem dL_law_1019 : decode cL_law 1019 = .ok (.invokevirtual 129, 3) := by decide +kernel
theorem dL_law_1022 : decode cL_law 1022 = .ok (.istore 6, 2) := by decide +kernel
theorem dL_law_1024 : decode cL_law 1024 = .ok (.aload_n 2, 1) := by decide +kernel
theorem dL_law_1025 : decode cL_law 1025 = .ok (.invokevirtual 81, 3) := by decide +kernel
theorem dL_law_1028 : decode cL_law 1028 = .ok (.iload 5, 2) := by decide +kernel
theorem dL_law_1030 : decode cL_law 1030 = .ok (.if_icmp .eq 5, 3) := by decide +kernel
theorem dL_law_1033 : decode cL_law 1033 = .ok (.iconst 0, 1) := by decide +kernel
theorem dL_law_1034 : decode cL_law 1034 = .ok (.ireturn, 1) := by decide +kernel
theorem dL_law_1035 : decode cL_law 1035 = .ok (.iload 5, 2) := by decide +kernel
theorem dL_law_1037 : decode cL_law 1037 = .ok (.ifCond .ne 15, 3) := by decide +kernel
theorem dL_law_1040 : decode cL_law 1040 = .ok (.aload_n 3, 1) := by decide +kernel
theorem dL_law_1041 : decode cL_law 1041 = .ok (.iconst 0, 1) := by decide +kernel
theorem dL_law_1042 : decode cL_law 1042 = .ok (.laload, 1) := by decide +kernel
theorem dL_law_1043 : decode cL_law 1043 = .ok (.iload 6, 2) := by decide +kernel
theorem dL_law_1045 : decode cL_law 1045 = .ok (.i2l, 1) := by decide +kernel
theorem dL_law_1046 : decode cL_law 1046 = .ok (.lcmp, 1) := by decide +kernel
theorem dL_law_1047 : decode cL_law 1047 = .ok (.ifCond .eq 5, 3) := by decide +kernel
theorem dL_law_1050 : decode cL_law 1050 = .ok (.iconst 0, 1) := by decide +kernel
theorem dL_law_1051 : decode cL_law 1051 = .ok (.ireturn, 1) := by decide +kernel
theorem dL_law_1052 : decode cL_law 1052 = .ok (.goto 373, 3) := by decide +kernel
theorem dL_law_1055 : decode cL_law 1055 = .ok (.aload_n 1, 1) := by decide +kernel
theorem dL_law_1056 : decode cL_law 1056 = .ok (.invokevirtual 130, 3) := by decide +kernel
theorem dL_law_1059 : decode cL_law 1059 = .ok (.dstore 5, 2) := by decide +kernel
theorem dL_law_1061 : decode cL_law 1061 = .ok (.aload_n 2, 1) := by decide +kernel
theorem dL_law_1062 : decode cL_law 1062 = .ok (.invokevirtual 134, 3) := by decide +kernel
theorem dL_law_1065 : decode cL_law 1065 = .ok (.dstore 7, 2) := by decide +kernel
theorem dL_law_1067 : decode cL_law 1067 = .ok (.dload 5, 2) := by decide +kernel
theorem dL_law_1069 : decode cL_law 1069 = .ok (.dload 7, 2) := by decide +kernel
theorem dL_law_1071 : decode cL_law 1071 = .ok (.dcmp .l, 1) := by decide +kernel
theorem dL_law_1072 : decode cL_law 1072 = .ok (.ifCond .eq 21, 3) := by decide +kernel
theorem dL_law_1075 : decode cL_law 1075 = .ok (.dload 5, 2) := by decide +kernel
theorem dL_law_1077 : decode cL_law 1077 = .ok (.dload 5, 2) := by decide +kernel
theorem dL_law_1079 : decode cL_law 1079 = .ok (.dcmp .l, 1) := by decide +kernel
theorem dL_law_1080 : decode cL_law 1080 = .ok (.ifCond .eq 11, 3) := by decide +kernel
theorem dL_law_1083 : decode cL_law 1083 = .ok (.dload 7, 2) := by decide +kernel
theorem dL_law_1085 : decode cL_law 1085 = .ok (.dload 7, 2) := by decide +kernel
theorem dL_law_1087 : decode cL_law 1087 = .ok (.dcmp .l, 1) := by decide +kernel
theorem dL_law_1088 : decode cL_law 1088 = .ok (.ifCond .ne 5, 3) := by decide +kernel
theorem dL_law_1091 : decode cL_law 1091 = .ok (.iconst 0, 1) := by decide +kernel
theorem dL_law_1092 : decode cL_law 1092 = .ok (.ireturn, 1) := by decide +kernel
theorem dL_law_1093 : decode cL_law 1093 = .ok (.goto 332, 3) := by decide +kernel
theorem dL_law_1096 : decode cL_law 1096 = .ok (.aload_n 1, 1) := by decide +kernel
theorem dL_law_1097 : decode cL_law 1097 = .ok (.invokevirtual 135, 3) := by decide +kernel
theorem dL_law_1100 : decode cL_law 1100 = .ok (.aload_n 2, 1) := by decide +kernel
theorem dL_law_1101 : decode cL_law 1101 = .ok (.invokevirtual 139, 3) := by decide +kernel
theorem dL_law_1104 : decode cL_law 1104 = .ok (.if_icmp .eq 321, 3) := by decide +kernel
theorem dL_law_1107 : decode cL_law 1107 = .ok (.iconst 0, 1) := by decide +kernel
theorem dL_law_1108 : decode cL_law 1108 = .ok (.ireturn, 1) := by decide +kernel
theorem dL_law_1109 : decode cL_law 1109 = .ok (.aload_n 1, 1) := by decide +kernel
theorem dL_law_1110 : decode cL_law 1110 = .ok (.aload_n 0, 1) := by decide +kernel
theorem dL_law_1111 : decode cL_law 1111 = .ok (.iload 4, 2) := by decide +kernel
theorem dL_law_1113 : decode cL_law 1113 = .ok (.iconst 1, 1) := by decide +kernel
theorem dL_law_1114 : decode cL_law 1114 = .ok (.iadd, 1) := by decide +kernel
theorem dL_law_1115 : decode cL_law 1115 = .ok (.iaload, 1) := by decide +kernel
theorem dL_law_1116 : decode cL_law 1116 = .ok (.aload_n 0, 1) := by decide +kernel
theorem dL_law_1117 : decode cL_law 1117 = .ok (.iload 4, 2) := by decide +kernel
theorem dL_law_1119 : decode cL_law 1119 = .ok (.iconst 2, 1) := by decide +kernel
theorem dL_law_1120 : decode cL_law 1120 = .ok (.iadd, 1) := by decide +kernel
theorem dL_law_1121 : decode cL_law 1121 = .ok (.iaload, 1) := by decide +kernel
theorem dL_law_1122 : decode cL_law 1122 = .ok (.aload_n 3, 1) := by decide +kernel
theorem dL_law_1123 : decode cL_law 1123 = .ok (.invokestatic 140, 3) := by decide +kernel
theorem dL_law_1126 : decode cL_law 1126 = .ok (.istore 5, 2) := by decide +kernel
theorem dL_law_1128 : decode cL_law 1128 = .ok (.aload_n 2, 1) := by decide +kernel
theorem dL_law_1129 : decode cL_law 1129 = .ok (.aload_n 0, 1) := by decide +kernel
theorem dL_law_1130 : decode cL_law 1130 = .ok (.iload 4, 2) := by decide +kernel
theorem dL_law_1132 : decode cL_law 1132 = .ok (.iconst 1, 1) := by decide +kernel
theorem dL_law_1133 : decode cL_law 1133 = .ok (.iadd, 1) := by decide +kernel
theorem dL_law_1134 : decode cL_law 1134 = .ok (.iaload, 1) := by decide +kernel
theorem dL_law_1135 : decode cL_law 1135 = .ok (.aload_n 0, 1) := by decide +kernel
theorem dL_law_1136 : decode cL_law 1136 = .ok (.iload 4, 2) := by decide +kernel
theorem dL_law_1138 : decode cL_law 1138 = .ok (.iconst 2, 1) := by decide +kernel
theorem dL_law_1139 : decode cL_law 1139 = .ok (.iadd, 1) := by decide +kernel
theorem dL_law_1140 : decode cL_law 1140 = .ok (.iaload, 1) := by decide +kernel
theorem dL_law_1141 : decode cL_law 1141 = .ok (.invokevirtual 142, 3) := by decide +kernel
theorem dL_law_1144 : decode cL_law 1144 = .ok (.istore 6, 2) := by decide +kernel
theorem dL_law_1146 : decode cL_law 1146 = .ok (.aload_n 2, 1) := by decide +kernel
theorem dL_law_1147 : decode cL_law 1147 = .ok (.invokevirtual 81, 3) := by decide +kernel
theorem dL_law_1150 : decode cL_law 1150 = .ok (.iload 5, 2) := by decide +kernel
theorem dL_law_1152 : decode cL_law 1152 = .ok (.if_icmp .eq 5, 3) := by decide +kernel
theorem dL_law_1155 : decode cL_law 1155 = .ok (.iconst 0, 1) := by decide +kernel
theorem dL_law_1156 : decode cL_law 1156 = .ok (.ireturn, 1) := by decide +kernel
theorem dL_law_1157 : decode cL_law 1157 = .ok (.iload 5, 2) := by decide +kernel
theorem dL_law_1159 : decode cL_law 1159 = .ok (.ifCond .ne 15, 3) := by decide +kernel
theorem dL_law_1162 : decode cL_law 1162 = .ok (.aload_n 3, 1) := by decide +kernel
theorem dL_law_1163 : decode cL_law 1163 = .ok (.iconst 0, 1) := by decide +kernel
theorem dL_law_1164 : decode cL_law 1164 = .ok (.laload, 1) := by decide +kernel
theorem dL_law_1165 : decode cL_law 1165 = .ok (.iload 6, 2) := by decide +kernel
theorem dL_law_1167 : decode cL_law 1167 = .ok (.i2l, 1) := by decide +kernel
theorem dL_law_1168 : decode cL_law 1168 = .ok (.lcmp, 1) := by decide +kernel
theorem dL_law_1169 : decode cL_law 1169 = .ok (.ifCond .eq 5, 3) := by decide +kernel
theorem dL_law_1172 : decode cL_law 1172 = .ok (.iconst 0, 1) := by decide +kernel
theorem dL_law_1173 : decode cL_law 1173 = .ok (.ireturn, 1) := by decide +kernel
theorem dL_law_1174 : decode cL_law 1174 = .ok (.goto 251, 3) := by decide +kernel
theorem dL_law_1177 : decode cL_law 1177 = .ok (.aload_n 1, 1) := by decide +kernel
theorem dL_law_1178 : decode cL_law 1178 = .ok (.invokevirtual 143, 3) := by decide +kernel
theorem dL_law_1181 : decode cL_law 1181 = .ok (.aload_n 2, 1) := by decide +kernel
theorem dL_law_1182 : decode cL_law 1182 = .ok (.invokevirtual 146, 3) := by decide +kernel
theorem dL_law_1185 : decode cL_law 1185 = .ok (.if_icmp .eq 240, 3) := by decide +kernel
theorem dL_law_1188 : decode cL_law 1188 = .ok (.iconst 0, 1) := by decide +kernel
theorem dL_law_1189 : decode cL_law 1189 = .ok (.ireturn, 1) := by decide +kernel
theorem dL_law_1190 : decode cL_law 1190 = .ok (.aload_n 1, 1) := by decide +kernel
theorem dL_law_1191 : decode cL_law 1191 = .ok (.aload_n 0, 1) := by decide +kernel
theorem dL_law_1192 : decode cL_law 1192 = .ok (.iload 4, 2) := by decide +kernel
theorem dL_law_1194 : decode cL_law 1194 = .ok (.iconst 1, 1) := by decide +kernel
theorem dL_law_1195 : decode cL_law 1195 = .ok (.iadd, 1) := by decide +kernel
theorem dL_law_1196 : decode cL_law 1196 = .ok (.iaload, 1) := by decide +kernel
theorem dL_law_1197 : decode cL_law 1197 = .ok (.aload_n 0, 1) := by decide +kernel
theorem dL_law_1198 : decode cL_law 1198 = .ok (.iload 4, 2) := by decide +kernel
theorem dL_law_1200 : decode cL_law 1200 = .ok (.iconst 2, 1) := by decide +kernel
theorem dL_law_1201 : decode cL_law 1201 = .ok (.iadd, 1) := by decide +kernel
theorem dL_law_1202 : decode cL_law 1202 = .ok (.iaload, 1) := by decide +kernel
theorem dL_law_1203 : decode cL_law 1203 = .ok (.ifCond .eq 7, 3) := by decide +kernel
theorem dL_law_1206 : decode cL_law 1206 = .ok (.iconst 1, 1) := by decide +kernel
theorem dL_law_1207 : decode cL_law 1207 = .ok (.goto 4, 3) := by decide +kernel
theorem dL_law_1210 : decode cL_law 1210 = .ok (.iconst 0, 1) := by decide +kernel
theorem dL_law_1211 : decode cL_law 1211 = .ok (.aload_n 3, 1) := by decide +kernel
theorem dL_law_1212 : decode cL_law 1212 = .ok (.invokestatic 147, 3) := by decide +kernel
theorem dL_law_1215 : decode cL_law 1215 = .ok (.istore 5, 2) := by decide +kernel
theorem dL_law_1217 : decode cL_law 1217 = .ok (.aload_n 2, 1) := by decide +kernel
theorem dL_law_1218 : decode cL_law 1218 = .ok (.aload_n 0, 1) := by decide +kernel
theorem dL_law_1219 : decode cL_law 1219 = .ok (.iload 4, 2) := by decide +kernel
theorem dL_law_1221 : decode cL_law 1221 = .ok (.iconst 1, 1) := by decide +kernel
theorem dL_law_1222 : decode cL_law 1222 = .ok (.iadd, 1) := by decide +kernel
theorem dL_law_1223 : decode cL_law 1223 = .ok (.iaload, 1) := by decide +kernel
theorem dL_law_1224 : decode cL_law 1224 = .ok (.aload_n 0, 1) := by decide +kernel
theorem dL_law_1225 : decode cL_law 1225 = .ok (.iload 4, 2) := by decide +kernel
theorem dL_law_1227 : decode cL_law 1227 = .ok (.iconst 2, 1) := by decide +kernel
theorem dL_law_1228 : decode cL_law 1228 = .ok (.iadd, 1) := by decide +kernel
theorem dL_law_1229 : decode cL_law 1229 = .ok (.iaload, 1) := by decide +kernel
theorem dL_law_1230 : decode cL_law 1230 = .ok (.ifCond .eq 7, 3) := by decide +kernel
theorem dL_law_1233 : decode cL_law 1233 = .ok (.iconst 1, 1) := by decide +kernel
theorem dL_law_1234 : decode cL_law 1234 = .ok (.goto 4, 3) := by decide +kernel
theorem dL_law_1237 : decode cL_law 1237 = .ok (.iconst 0, 1) := by decide +kernel
theorem dL_law_1238 : decode cL_law 1238 = .ok (.invokevirtual 150, 3) := by decide +kernel
theorem dL_law_1241 : decode cL_law 1241 = .ok (.istore 6, 2) := by decide +kernel
theorem dL_law_1243 : decode cL_law 1243 = .ok (.aload_n 2, 1) := by decide +kernel
theorem dL_law_1244 : decode cL_law 1244 = .ok (.invokevirtual 81, 3) := by decide +kernel
theorem dL_law_1247 : decode cL_law 1247 = .ok (.iload 5, 2) := by decide +kernel
theorem dL_law_1249 : decode cL_law 1249 = .ok (.if_icmp .eq 5, 3) := by decide +kernel
theorem dL_law_1252 : decode cL_law 1252 = .ok (.iconst 0, 1) := by decide +kernel
theorem dL_law_1253 : decode cL_law 1253 = .ok (.ireturn, 1) := by decide +kernel
theorem dL_law_1254 : decode cL_law 1254 = .ok (.iload 5, 2) := by decide +kernel
theorem dL_law_1256 : decode cL_law 1256 = .ok (.ifCond .ne 15, 3) := by decide +kernel
theorem dL_law_1259 : decode cL_law 1259 = .ok (.aload_n 3, 1) := by decide +kernel
theorem dL_law_1260 : decode cL_law 1260 = .ok (.iconst 0, 1) := by decide +kernel
theorem dL_law_1261 : decode cL_law 1261 = .ok (.laload, 1) := by decide +kernel
theorem dL_law_1262 : decode cL_law 1262 = .ok (.iload 6, 2) := by decide +kernel
theorem dL_law_1264 : decode cL_law 1264 = .ok (.i2l, 1) := by decide +kernel
theorem dL_law_1265 : decode cL_law 1265 = .ok (.lcmp, 1) := by decide +kernel
theorem dL_law_1266 : decode cL_law 1266 = .ok (.ifCond .eq 5, 3) := by decide +kernel
theorem dL_law_1269 : decode cL_law 1269 = .ok (.iconst 0, 1) := by decide +kernel
theorem dL_law_1270 : decode cL_law 1270 = .ok (.ireturn, 1) := by decide +kernel
theorem dL_law_1271 : decode cL_law 1271 = .ok (.goto 154, 3) := by decide +kernel
theorem dL_law_1274 : decode cL_law 1274 = .ok (.aload_n 1, 1) := by decide +kernel
theorem dL_law_1275 : decode cL_law 1275 = .ok (.aload_n 0, 1) := by decide +kernel
theorem dL_law_1276 : decode cL_law 1276 = .ok (.iload 4, 2) := by decide +kernel
theorem dL_law_1278 : decode cL_law 1278 = .ok (.iconst 1, 1) := by decide +kernel
theorem dL_law_1279 : decode cL_law 1279 = .ok (.iadd, 1) := by decide +kernel
theorem dL_law_1280 : decode cL_law 1280 = .ok (.iaload, 1) := by decide +kernel
theorem dL_law_1281 : decode cL_law 1281 = .ok (.aload_n 3, 1) := by decide +kernel
theorem dL_law_1282 : decode cL_law 1282 = .ok (.invokestatic 151, 3) := by decide +kernel
theorem dL_law_1285 : decode cL_law 1285 = .ok (.istore 5, 2) := by decide +kernel
theorem dL_law_1287 : decode cL_law 1287 = .ok (.aload_n 2, 1) := by decide +kernel
theorem dL_law_1288 : decode cL_law 1288 = .ok (.aload_n 0, 1) := by decide +kernel
theorem dL_law_1289 : decode cL_law 1289 = .ok (.iload 4, 2) := by decide +kernel
theorem dL_law_1291 : decode cL_law 1291 = .ok (.iconst 1, 1) := by decide +kernel
theorem dL_law_1292 : decode cL_law 1292 = .ok (.iadd, 1) := by decide +kernel
theorem dL_law_1293 : decode cL_law 1293 = .ok (.iaload, 1) := by decide +kernel
theorem dL_law_1294 : decode cL_law 1294 = .ok (.invokevirtual 153, 3) := by decide +kernel
theorem dL_law_1297 : decode cL_law 1297 = .ok (.istore 6, 2) := by decide +kernel
theorem dL_law_1299 : decode cL_law 1299 = .ok (.aload_n 2, 1) := by decide +kernel
theorem dL_law_1300 : decode cL_law 1300 = .ok (.invokevirtual 81, 3) := by decide +kernel
theorem dL_law_1303 : decode cL_law 1303 = .ok (.iload 5, 2) := by decide +kernel
theorem dL_law_1305 : decode cL_law 1305 = .ok (.if_icmp .eq 5, 3) := by decide +kernel
theorem dL_law_1308 : decode cL_law 1308 = .ok (.iconst 0, 1) := by decide +kernel
theorem dL_law_1309 : decode cL_law 1309 = .ok (.ireturn, 1) := by decide +kernel
theorem dL_law_1310 : decode cL_law 1310 = .ok (.iload 5, 2) := by decide +kernel
theorem dL_law_1312 : decode cL_law 1312 = .ok (.ifCond .ne 15, 3) := by decide +kernel
theorem dL_law_1315 : decode cL_law 1315 = .ok (.aload_n 3, 1) := by decide +kernel
theorem dL_law_1316 : decode cL_law 1316 = .ok (.iconst 0, 1) := by decide +kernel
theorem dL_law_1317 : decode cL_law 1317 = .ok (.laload, 1) := by decide +kernel
theorem dL_law_1318 : decode cL_law 1318 = .ok (.iload 6, 2) := by decide +kernel
theorem dL_law_1320 : decode cL_law 1320 = .ok (.i2l, 1) := by decide +kernel
theorem dL_law_1321 : decode cL_law 1321 = .ok (.lcmp, 1) := by decide +kernel
theorem dL_law_1322 : decode cL_law 1322 = .ok (.ifCond .eq 5, 3) := by decide +kernel
theorem dL_law_1325 : decode cL_law 1325 = .ok (.iconst 0, 1) := by decide +kernel
theorem dL_law_1326 : decode cL_law 1326 = .ok (.ireturn, 1) := by decide +kernel
theorem dL_law_1327 : decode cL_law 1327 = .ok (.goto 98, 3) := by decide +kernel
theorem dL_law_1330 : decode cL_law 1330 = .ok (.aload_n 1, 1) := by decide +kernel
theorem dL_law_1331 : decode cL_law 1331 = .ok (.aload_n 0, 1) := by decide +kernel
theorem dL_law_1332 : decode cL_law 1332 = .ok (.iload 4, 2) := by decide +kernel
theorem dL_law_1334 : decode cL_law 1334 = .ok (.iconst 1, 1) := by decide +kernel
theorem dL_law_1335 : decode cL_law 1335 = .ok (.iadd, 1) := by decide +kernel
theorem dL_law_1336 : decode cL_law 1336 = .ok (.iaload, 1) := by decide +kernel
theorem dL_law_1337 : decode cL_law 1337 = .ok (.aload_n 0, 1) := by decide +kernel
theorem dL_law_1338 : decode cL_law 1338 = .ok (.iload 4, 2) := by decide +kernel
theorem dL_law_1340 : decode cL_law 1340 = .ok (.iconst 2, 1) := by decide +kernel
theorem dL_law_1341 : decode cL_law 1341 = .ok (.iadd, 1) := by decide +kernel
theorem dL_law_1342 : decode cL_law 1342 = .ok (.iaload, 1) := by decide +kernel
theorem dL_law_1343 : decode cL_law 1343 = .ok (.aload_n 3, 1) := by decide +kernel
theorem dL_law_1344 : decode cL_law 1344 = .ok (.invokestatic 154, 3) := by decide +kernel
theorem dL_law_1347 : decode cL_law 1347 = .ok (.istore 5, 2) := by decide +kernel
theorem dL_law_1349 : decode cL_law 1349 = .ok (.aload_n 2, 1) := by decide +kernel
theorem dL_law_1350 : decode cL_law 1350 = .ok (.aload_n 0, 1) := by decide +kernel
theorem dL_law_1351 : decode cL_law 1351 = .ok (.iload 4, 2) := by decide +kernel
theorem dL_law_1353 : decode cL_law 1353 = .ok (.iconst 1, 1) := by decide +kernel
theorem dL_law_1354 : decode cL_law 1354 = .ok (.iadd, 1) := by decide +kernel
theorem dL_law_1355 : decode cL_law 1355 = .ok (.iaload, 1) := by decide +kernel
theorem dL_law_1356 : decode cL_law 1356 = .ok (.aload_n 0, 1) := by decide +kernel
theorem dL_law_1357 : decode cL_law 1357 = .ok (.iload 4, 2) := by decide +kernel
theorem dL_law_1359 : decode cL_law 1359 = .ok (.iconst 2, 1) := by decide +kernel
theorem dL_law_1360 : decode cL_law 1360 = .ok (.iadd, 1) := by decide +kernel
theorem dL_law_1361 : decode cL_law 1361 = .ok (.iaload, 1) := by decide +kernel
theorem dL_law_1362 : decode cL_law 1362 = .ok (.invokevirtual 156, 3) := by decide +kernel
theorem dL_law_1365 : decode cL_law 1365 = .ok (.istore 6, 2) := by decide +kernel
theorem dL_law_1367 : decode cL_law 1367 = .ok (.aload_n 2, 1) := by decide +kernel
theorem dL_law_1368 : decode cL_law 1368 = .ok (.invokevirtual 81, 3) := by decide +kernel
theorem dL_law_1371 : decode cL_law 1371 = .ok (.iload 5, 2) := by decide +kernel
theorem dL_law_1373 : decode cL_law 1373 = .ok (.if_icmp .eq 5, 3) := by decide +kernel
theorem dL_law_1376 : decode cL_law 1376 = .ok (.iconst 0, 1) := by decide +kernel
theorem dL_law_1377 : decode cL_law 1377 = .ok (.ireturn, 1) := by decide +kernel
theorem dL_law_1378 : decode cL_law 1378 = .ok (.iload 5, 2) := by decide +kernel
theorem dL_law_1380 : decode cL_law 1380 = .ok (.ifCond .ne 15, 3) := by decide +kernel
theorem dL_law_1383 : decode cL_law 1383 = .ok (.aload_n 3, 1) := by decide +kernel
theorem dL_law_1384 : decode cL_law 1384 = .ok (.iconst 0, 1) := by decide +kernel
theorem dL_law_1385 : decode cL_law 1385 = .ok (.laload, 1) := by decide +kernel
theorem dL_law_1386 : decode cL_law 1386 = .ok (.iload 6, 2) := by decide +kernel
theorem dL_law_1388 : decode cL_law 1388 = .ok (.i2l, 1) := by decide +kernel
theorem dL_law_1389 : decode cL_law 1389 = .ok (.lcmp, 1) := by decide +kernel
theorem dL_law_1390 : decode cL_law 1390 = .ok (.ifCond .eq 5, 3) := by decide +kernel
theorem dL_law_1393 : decode cL_law 1393 = .ok (.iconst 0, 1) := by decide +kernel
theorem dL_law_1394 : decode cL_law 1394 = .ok (.ireturn, 1) := by decide +kernel
theorem dL_law_1395 : decode cL_law 1395 = .ok (.goto 30, 3) := by decide +kernel
theorem dL_law_1398 : decode cL_law 1398 = .ok (.aload_n 1, 1) := by decide +kernel
theorem dL_law_1399 : decode cL_law 1399 = .ok (.invokevirtual 157, 3) := by decide +kernel
theorem dL_law_1402 : decode cL_law 1402 = .ok (.aload_n 2, 1) := by decide +kernel
theorem dL_law_1403 : decode cL_law 1403 = .ok (.invokevirtual 160, 3) := by decide +kernel
theorem dL_law_1406 : decode cL_law 1406 = .ok (.if_icmp .eq 19, 3) := by decide +kernel
theorem dL_law_1409 : decode cL_law 1409 = .ok (.iconst 0, 1) := by decide +kernel
theorem dL_law_1410 : decode cL_law 1410 = .ok (.ireturn, 1) := by decide +kernel
theorem dL_law_1411 : decode cL_law 1411 = .ok (.aload_n 1, 1) := by decide +kernel
theorem dL_law_1412 : decode cL_law 1412 = .ok (.invokevirtual 161, 3) := by decide +kernel
theorem dL_law_1415 : decode cL_law 1415 = .ok (.aload_n 2, 1) := by decide +kernel
theorem dL_law_1416 : decode cL_law 1416 = .ok (.invokevirtual 165, 3) := by decide +kernel
theorem dL_law_1419 : decode cL_law 1419 = .ok (.lcmp, 1) := by decide +kernel
theorem dL_law_1420 : decode cL_law 1420 = .ok (.ifCond .eq 5, 3) := by decide +kernel
theorem dL_law_1423 : decode cL_law 1423 = .ok (.iconst 0, 1) := by decide +kernel
theorem dL_law_1424 : decode cL_law 1424 = .ok (.ireturn, 1) := by decide +kernel
theorem dL_law_1425 : decode cL_law 1425 = .ok (.iinc 4 6, 3) := by decide +kernel
theorem dL_law_1428 : decode cL_law 1428 = .ok (.goto (-1405), 3) := by decide +kernel
theorem dL_law_1431 : decode cL_law 1431 = .ok (.iconst 1, 1) := by decide +kernel
theorem dL_law_1432 : decode cL_law 1432 = .ok (.ireturn, 1) := by decide +kernel

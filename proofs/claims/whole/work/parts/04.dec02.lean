theorem dX12_firstLand_16 : decode cX12_firstLand 16 = .ok (.iload_n 1, 1) := by decide +kernel
theorem dX12_firstLand_17 : decode cX12_firstLand 17 = .ok (.iadd, 1) := by decide +kernel
theorem dX12_firstLand_18 : decode cX12_firstLand 18 = .ok (.iaload, 1) := by decide +kernel
theorem dX12_firstLand_19 : decode cX12_firstLand 19 = .ok (.iconst 1, 1) := by decide +kernel
theorem dX12_firstLand_20 : decode cX12_firstLand 20 = .ok (.if_icmp .ne 9, 3) := by decide +kernel
theorem dX12_firstLand_23 : decode cX12_firstLand 23 = .ok (.iinc 1 1, 3) := by decide +kernel
theorem dX12_firstLand_26 : decode cX12_firstLand 26 = .ok (.goto (-24), 3) := by decide +kernel
theorem dX12_firstLand_29 : decode cX12_firstLand 29 = .ok (.iload_n 1, 1) := by decide +kernel
theorem dX12_firstLand_30 : decode cX12_firstLand 30 = .ok (.aload_n 0, 1) := by decide +kernel
theorem dX12_firstLand_31 : decode cX12_firstLand 31 = .ok (.iconst 0, 1) := by decide +kernel
theorem dX12_firstLand_32 : decode cX12_firstLand 32 = .ok (.iaload, 1) := by decide +kernel
theorem dX12_firstLand_33 : decode cX12_firstLand 33 = .ok (.aload_n 0, 1) := by decide +kernel
theorem dX12_firstLand_34 : decode cX12_firstLand 34 = .ok (.iconst 1, 1) := by decide +kernel
theorem dX12_firstLand_35 : decode cX12_firstLand 35 = .ok (.iaload, 1) := by decide +kernel
theorem dX12_firstLand_36 : decode cX12_firstLand 36 = .ok (.imul, 1) := by decide +kernel
theorem dX12_firstLand_37 : decode cX12_firstLand 37 = .ok (.if_icmp .ge 7, 3) := by decide +kernel
theorem dX12_firstLand_40 : decode cX12_firstLand 40 = .ok (.iload_n 1, 1) := by decide +kernel
theorem dX12_firstLand_41 : decode cX12_firstLand 41 = .ok (.goto 4, 3) := by decide +kernel
theorem dX12_firstLand_44 : decode cX12_firstLand 44 = .ok (.iconst (-1), 1) := by decide +kernel
theorem dX12_firstLand_45 : decode cX12_firstLand 45 = .ok (.ireturn, 1) := by decide +kernel
theorem dX12_readBend_0 : decode cX12_readBend 0 = .ok (.aload_n 0, 1) := by decide +kernel
theorem dX12_readBend_1 : decode cX12_readBend 1 = .ok (.getfield 20, 3) := by decide +kernel
theorem dX12_readBend_4 : decode cX12_readBend 4 = .ok (.iconst 2, 1) := by decide +kernel
theorem dX12_readBend_5 : decode cX12_readBend 5 = .ok (.iaload, 1) := by decide +kernel
theorem dX12_readBend_6 : decode cX12_readBend 6 = .ok (.bipush 8, 2) := by decide +kernel
theorem dX12_readBend_8 : decode cX12_readBend 8 = .ok (.if_icmp .ne 10, 3) := by decide +kernel
theorem dX12_readBend_11 : decode cX12_readBend 11 = .ok (.aload_n 0, 1) := by decide +kernel
theorem dX12_readBend_12 : decode cX12_readBend 12 = .ok (.bipush (-6), 2) := by decide +kernel
theorem dX12_readBend_14 : decode cX12_readBend 14 = .ok (.iload_n 1, 1) := by decide +kernel
theorem dX12_readBend_15 : decode cX12_readBend 15 = .ok (.invokevirtual 112, 3) := by decide +kernel
theorem dX12_readBend_18 : decode cX12_readBend 18 = .ok (.aload_n 0, 1) := by decide +kernel
theorem dX12_readBend_19 : decode cX12_readBend 19 = .ok (.invokevirtual 146, 3) := by decide +kernel
theorem dX12_readBend_22 : decode cX12_readBend 22 = .ok (.aload_n 0, 1) := by decide +kernel
theorem dX12_readBend_23 : decode cX12_readBend 23 = .ok (.ldc 159, 2) := by decide +kernel
theorem dX12_readBend_25 : decode cX12_readBend 25 = .ok (.invokevirtual 161, 3) := by decide +kernel
theorem dX12_readBend_28 : decode cX12_readBend 28 = .ok (.istore_n 2, 1) := by decide +kernel
theorem dX12_readBend_29 : decode cX12_readBend 29 = .ok (.aload_n 0, 1) := by decide +kernel
theorem dX12_readBend_30 : decode cX12_readBend 30 = .ok (.invokevirtual 95, 3) := by decide +kernel
theorem dX12_readBend_33 : decode cX12_readBend 33 = .ok (.ifCond .eq 26, 3) := by decide +kernel
theorem dX12_readBend_36 : decode cX12_readBend 36 = .ok (.iload_n 2, 1) := by decide +kernel
theorem dX12_readBend_37 : decode cX12_readBend 37 = .ok (.ifCond .ne 22, 3) := by decide +kernel
theorem dX12_readBend_40 : decode cX12_readBend 40 = .ok (.aload_n 0, 1) := by decide +kernel
theorem dX12_readBend_41 : decode cX12_readBend 41 = .ok (.ldc 165, 2) := by decide +kernel
theorem dX12_readBend_43 : decode cX12_readBend 43 = .ok (.invokevirtual 161, 3) := by decide +kernel
theorem dX12_readBend_46 : decode cX12_readBend 46 = .ok (.ifCond .ne 13, 3) := by decide +kernel
theorem dX12_readBend_49 : decode cX12_readBend 49 = .ok (.aload_n 0, 1) := by decide +kernel
theorem dX12_readBend_50 : decode cX12_readBend 50 = .ok (.bipush (-2), 2) := by decide +kernel
theorem dX12_readBend_52 : decode cX12_readBend 52 = .ok (.aload_n 0, 1) := by decide +kernel
theorem dX12_readBend_53 : decode cX12_readBend 53 = .ok (.getfield 78, 3) := by decide +kernel
theorem dX12_readBend_56 : decode cX12_readBend 56 = .ok (.invokevirtual 112, 3) := by decide +kernel
theorem dX12_readBend_59 : decode cX12_readBend 59 = .ok (.aload_n 0, 1) := by decide +kernel
theorem dX12_readBend_60 : decode cX12_readBend 60 = .ok (.iconst 1, 1) := by decide +kernel
theorem dX12_readBend_61 : decode cX12_readBend 61 = .ok (.iconst 3, 1) := by decide +kernel
theorem dX12_readBend_62 : decode cX12_readBend 62 = .ok (.invokevirtual 128, 3) := by decide +kernel
theorem dX12_readBend_65 : decode cX12_readBend 65 = .ok (.istore_n 3, 1) := by decide +kernel
theorem dX12_readBend_66 : decode cX12_readBend 66 = .ok (.aload_n 0, 1) := by decide +kernel
theorem dX12_readBend_67 : decode cX12_readBend 67 = .ok (.invokevirtual 95, 3) := by decide +kernel
theorem dX12_readBend_70 : decode cX12_readBend 70 = .ok (.ifCond .ne 4, 3) := by decide +kernel
theorem dX12_readBend_73 : decode cX12_readBend 73 = .ok (.return_, 1) := by decide +kernel
theorem dX12_readBend_74 : decode cX12_readBend 74 = .ok (.aload_n 0, 1) := by decide +kernel
theorem dX12_readBend_75 : decode cX12_readBend 75 = .ok (.getfield 20, 3) := by decide +kernel
theorem dX12_readBend_78 : decode cX12_readBend 78 = .ok (.iconst 2, 1) := by decide +kernel
theorem dX12_readBend_79 : decode cX12_readBend 79 = .ok (.iaload, 1) := by decide +kernel
theorem dX12_readBend_80 : decode cX12_readBend 80 = .ok (.invokestatic 167, 3) := by decide +kernel
theorem dX12_readBend_83 : decode cX12_readBend 83 = .ok (.istore 4, 2) := by decide +kernel
theorem dX12_readBend_85 : decode cX12_readBend 85 = .ok (.aload_n 0, 1) := by decide +kernel
theorem dX12_readBend_86 : decode cX12_readBend 86 = .ok (.getfield 20, 3) := by decide +kernel
theorem dX12_readBend_89 : decode cX12_readBend 89 = .ok (.iload 4, 2) := by decide +kernel
theorem dX12_readBend_91 : decode cX12_readBend 91 = .ok (.aload_n 0, 1) := by decide +kernel
theorem dX12_readBend_92 : decode cX12_readBend 92 = .ok (.getfield 131, 3) := by decide +kernel
theorem dX12_readBend_95 : decode cX12_readBend 95 = .ok (.iastore, 1) := by decide +kernel
theorem dX12_readBend_96 : decode cX12_readBend 96 = .ok (.aload_n 0, 1) := by decide +kernel
theorem dX12_readBend_97 : decode cX12_readBend 97 = .ok (.getfield 20, 3) := by decide +kernel
theorem dX12_readBend_100 : decode cX12_readBend 100 = .ok (.iload 4, 2) := by decide +kernel
theorem dX12_readBend_102 : decode cX12_readBend 102 = .ok (.iconst 1, 1) := by decide +kernel
theorem dX12_readBend_103 : decode cX12_readBend 103 = .ok (.iadd, 1) := by decide +kernel
theorem dX12_readBend_104 : decode cX12_readBend 104 = .ok (.aload_n 0, 1) := by decide +kernel
theorem dX12_readBend_105 : decode cX12_readBend 105 = .ok (.getfield 137, 3) := by decide +kernel
theorem dX12_readBend_108 : decode cX12_readBend 108 = .ok (.iastore, 1) := by decide +kernel
theorem dX12_readBend_109 : decode cX12_readBend 109 = .ok (.aload_n 0, 1) := by decide +kernel
theorem dX12_readBend_110 : decode cX12_readBend 110 = .ok (.getfield 20, 3) := by decide +kernel
theorem dX12_readBend_113 : decode cX12_readBend 113 = .ok (.iload 4, 2) := by decide +kernel
theorem dX12_readBend_115 : decode cX12_readBend 115 = .ok (.iconst 2, 1) := by decide +kernel
theorem dX12_readBend_116 : decode cX12_readBend 116 = .ok (.iadd, 1) := by decide +kernel
theorem dX12_readBend_117 : decode cX12_readBend 117 = .ok (.aload_n 0, 1) := by decide +kernel
theorem dX12_readBend_118 : decode cX12_readBend 118 = .ok (.getfield 140, 3) := by decide +kernel
theorem dX12_readBend_121 : decode cX12_readBend 121 = .ok (.iastore, 1) := by decide +kernel
theorem dX12_readBend_122 : decode cX12_readBend 122 = .ok (.aload_n 0, 1) := by decide +kernel
theorem dX12_readBend_123 : decode cX12_readBend 123 = .ok (.getfield 20, 3) := by decide +kernel
theorem dX12_readBend_126 : decode cX12_readBend 126 = .ok (.iload 4, 2) := by decide +kernel
theorem dX12_readBend_128 : decode cX12_readBend 128 = .ok (.iconst 3, 1) := by decide +kernel
theorem dX12_readBend_129 : decode cX12_readBend 129 = .ok (.iadd, 1) := by decide +kernel
theorem dX12_readBend_130 : decode cX12_readBend 130 = .ok (.aload_n 0, 1) := by decide +kernel
theorem dX12_readBend_131 : decode cX12_readBend 131 = .ok (.getfield 143, 3) := by decide +kernel
theorem dX12_readBend_134 : decode cX12_readBend 134 = .ok (.iastore, 1) := by decide +kernel
theorem dX12_readBend_135 : decode cX12_readBend 135 = .ok (.aload_n 0, 1) := by decide +kernel
theorem dX12_readBend_136 : decode cX12_readBend 136 = .ok (.getfield 20, 3) := by decide +kernel
theorem dX12_readBend_139 : decode cX12_readBend 139 = .ok (.iload 4, 2) := by decide +kernel
theorem dX12_readBend_141 : decode cX12_readBend 141 = .ok (.iconst 4, 1) := by decide +kernel
theorem dX12_readBend_142 : decode cX12_readBend 142 = .ok (.iadd, 1) := by decide +kernel
theorem dX12_readBend_143 : decode cX12_readBend 143 = .ok (.iload_n 2, 1) := by decide +kernel
theorem dX12_readBend_144 : decode cX12_readBend 144 = .ok (.ifCond .eq 8, 3) := by decide +kernel
theorem dX12_readBend_147 : decode cX12_readBend 147 = .ok (.iload_n 3, 1) := by decide +kernel
theorem dX12_readBend_148 : decode cX12_readBend 148 = .ok (.ineg, 1) := by decide +kernel
theorem dX12_readBend_149 : decode cX12_readBend 149 = .ok (.goto 4, 3) := by decide +kernel
theorem dX12_readBend_152 : decode cX12_readBend 152 = .ok (.iload_n 3, 1) := by decide +kernel
theorem dX12_readBend_153 : decode cX12_readBend 153 = .ok (.iastore, 1) := by decide +kernel
theorem dX12_readBend_154 : decode cX12_readBend 154 = .ok (.aload_n 0, 1) := by decide +kernel
theorem dX12_readBend_155 : decode cX12_readBend 155 = .ok (.getfield 20, 3) := by decide +kernel
theorem dX12_readBend_158 : decode cX12_readBend 158 = .ok (.iconst 2, 1) := by decide +kernel
theorem dX12_readBend_159 : decode cX12_readBend 159 = .ok (.dup2, 1) := by decide +kernel
theorem dX12_readBend_160 : decode cX12_readBend 160 = .ok (.iaload, 1) := by decide +kernel
theorem dX12_readBend_161 : decode cX12_readBend 161 = .ok (.iconst 1, 1) := by decide +kernel
theorem dX12_readBend_162 : decode cX12_readBend 162 = .ok (.iadd, 1) := by decide +kernel
theorem dX12_readBend_163 : decode cX12_readBend 163 = .ok (.iastore, 1) := by decide +kernel
theorem dX12_readBend_164 : decode cX12_readBend 164 = .ok (.return_, 1) := by decide +kernel
theorem dX12_letter_0 : decode cX12_letter 0 = .ok (.aload_n 0, 1) := by decide +kernel
theorem dX12_letter_1 : decode cX12_letter 1 = .ok (.invokevirtual 95, 3) := by decide +kernel
theorem dX12_letter_4 : decode cX12_letter 4 = .ok (.ifCond .ne 5, 3) := by decide +kernel
theorem dX12_letter_7 : decode cX12_letter 7 = .ok (.iconst 0, 1) := by decide +kernel
theorem dX12_letter_8 : decode cX12_letter 8 = .ok (.ireturn, 1) := by decide +kernel
theorem dX12_letter_9 : decode cX12_letter 9 = .ok (.aload_n 0, 1) := by decide +kernel
theorem dX12_letter_10 : decode cX12_letter 10 = .ok (.invokevirtual 99, 3) := by decide +kernel
theorem dX12_letter_13 : decode cX12_letter 13 = .ok (.istore_n 1, 1) := by decide +kernel
theorem dX12_letter_14 : decode cX12_letter 14 = .ok (.iload_n 1, 1) := by decide +kernel
theorem dX12_letter_15 : decode cX12_letter 15 = .ok (.bipush 97, 2) := by decide +kernel
theorem dX12_letter_17 : decode cX12_letter 17 = .ok (.bipush 104, 2) := by decide +kernel
theorem dX12_letter_19 : decode cX12_letter 19 = .ok (.invokestatic 91, 3) := by decide +kernel
theorem dX12_letter_22 : decode cX12_letter 22 = .ok (.ifCond .eq 23, 3) := by decide +kernel
theorem dX12_letter_25 : decode cX12_letter 25 = .ok (.aload_n 0, 1) := by decide +kernel
theorem dX12_letter_26 : decode cX12_letter 26 = .ok (.aload_n 0, 1) := by decide +kernel
theorem dX12_letter_27 : decode cX12_letter 27 = .ok (.getfield 78, 3) := by decide +kernel
theorem dX12_letter_30 : decode cX12_letter 30 = .ok (.iconst 1, 1) := by decide +kernel
theorem dX12_letter_31 : decode cX12_letter 31 = .ok (.iadd, 1) := by decide +kernel
theorem dX12_letter_32 : decode cX12_letter 32 = .ok (.invokevirtual 81, 3) := by decide +kernel
theorem dX12_letter_35 : decode cX12_letter 35 = .ok (.bipush 97, 2) := by decide +kernel
theorem dX12_letter_37 : decode cX12_letter 37 = .ok (.bipush 122, 2) := by decide +kernel
theorem dX12_letter_39 : decode cX12_letter 39 = .ok (.invokestatic 91, 3) := by decide +kernel
theorem dX12_letter_42 : decode cX12_letter 42 = .ok (.ifCond .eq 15, 3) := by decide +kernel
theorem dX12_letter_45 : decode cX12_letter 45 = .ok (.aload_n 0, 1) := by decide +kernel
theorem dX12_letter_46 : decode cX12_letter 46 = .ok (.bipush (-2), 2) := by decide +kernel
theorem dX12_letter_48 : decode cX12_letter 48 = .ok (.aload_n 0, 1) := by decide +kernel
theorem dX12_letter_49 : decode cX12_letter 49 = .ok (.getfield 78, 3) := by decide +kernel
theorem dX12_letter_52 : decode cX12_letter 52 = .ok (.invokevirtual 112, 3) := by decide +kernel
theorem dX12_letter_55 : decode cX12_letter 55 = .ok (.iconst 0, 1) := by decide +kernel
theorem dX12_letter_56 : decode cX12_letter 56 = .ok (.ireturn, 1) := by decide +kernel
theorem dX12_letter_57 : decode cX12_letter 57 = .ok (.aload_n 0, 1) := by decide +kernel
theorem dX12_letter_58 : decode cX12_letter 58 = .ok (.dup, 1) := by decide +kernel
theorem dX12_letter_59 : decode cX12_letter 59 = .ok (.getfield 78, 3) := by decide +kernel
theorem dX12_letter_62 : decode cX12_letter 62 = .ok (.iconst 1, 1) := by decide +kernel
theorem dX12_letter_63 : decode cX12_letter 63 = .ok (.iadd, 1) := by decide +kernel
theorem dX12_letter_64 : decode cX12_letter 64 = .ok (.putfield 78, 3) := by decide +kernel
theorem dX12_letter_67 : decode cX12_letter 67 = .ok (.iload_n 1, 1) := by decide +kernel
theorem dX12_letter_68 : decode cX12_letter 68 = .ok (.bipush 97, 2) := by decide +kernel
theorem dX12_letter_70 : decode cX12_letter 70 = .ok (.isub, 1) := by decide +kernel
theorem dX12_letter_71 : decode cX12_letter 71 = .ok (.ireturn, 1) := by decide +kernel
theorem dX12_readLand_0 : decode cX12_readLand 0 = .ok (.aload_n 0, 1) := by decide +kernel
theorem dX12_readLand_1 : decode cX12_readLand 1 = .ok (.iconst 0, 1) := by decide +kernel
theorem dX12_readLand_2 : decode cX12_readLand 2 = .ok (.aload_n 0, 1) := by decide +kernel
theorem dX12_readLand_3 : decode cX12_readLand 3 = .ok (.getfield 20, 3) := by decide +kernel
theorem dX12_readLand_6 : decode cX12_readLand 6 = .ok (.iconst 0, 1) := by decide +kernel
theorem dX12_readLand_7 : decode cX12_readLand 7 = .ok (.iaload, 1) := by decide +kernel
theorem dX12_readLand_8 : decode cX12_readLand 8 = .ok (.iconst 1, 1) := by decide +kernel
theorem dX12_readLand_9 : decode cX12_readLand 9 = .ok (.isub, 1) := by decide +kernel
theorem dX12_readLand_10 : decode cX12_readLand 10 = .ok (.invokevirtual 128, 3) := by decide +kernel
theorem dX12_readLand_13 : decode cX12_readLand 13 = .ok (.istore_n 1, 1) := by decide +kernel
theorem dX12_readLand_14 : decode cX12_readLand 14 = .ok (.aload_n 0, 1) := by decide +kernel
theorem dX12_readLand_15 : decode cX12_readLand 15 = .ok (.getfield 120, 3) := by decide +kernel
theorem dX12_readLand_18 : decode cX12_readLand 18 = .ok (.istore_n 2, 1) := by decide +kernel
theorem dX12_readLand_19 : decode cX12_readLand 19 = .ok (.aload_n 0, 1) := by decide +kernel
theorem dX12_readLand_20 : decode cX12_readLand 20 = .ok (.iconst 0, 1) := by decide +kernel
theorem dX12_readLand_21 : decode cX12_readLand 21 = .ok (.aload_n 0, 1) := by decide +kernel
theorem dX12_readLand_22 : decode cX12_readLand 22 = .ok (.getfield 20, 3) := by decide +kernel
theorem dX12_readLand_25 : decode cX12_readLand 25 = .ok (.iconst 1, 1) := by decide +kernel
theorem dX12_readLand_26 : decode cX12_readLand 26 = .ok (.iaload, 1) := by decide +kernel
theorem dX12_readLand_27 : decode cX12_readLand 27 = .ok (.iconst 1, 1) := by decide +kernel
theorem dX12_readLand_28 : decode cX12_readLand 28 = .ok (.isub, 1) := by decide +kernel
theorem dX12_readLand_29 : decode cX12_readLand 29 = .ok (.invokevirtual 128, 3) := by decide +kernel
theorem dX12_readLand_32 : decode cX12_readLand 32 = .ok (.istore_n 3, 1) := by decide +kernel
theorem dX12_readLand_33 : decode cX12_readLand 33 = .ok (.iload_n 3, 1) := by decide +kernel
theorem dX12_readLand_34 : decode cX12_readLand 34 = .ok (.aload_n 0, 1) := by decide +kernel
theorem dX12_readLand_35 : decode cX12_readLand 35 = .ok (.getfield 20, 3) := by decide +kernel
theorem dX12_readLand_38 : decode cX12_readLand 38 = .ok (.iconst 0, 1) := by decide +kernel
theorem dX12_readLand_39 : decode cX12_readLand 39 = .ok (.iaload, 1) := by decide +kernel
theorem dX12_readLand_40 : decode cX12_readLand 40 = .ok (.imul, 1) := by decide +kernel
theorem dX12_readLand_41 : decode cX12_readLand 41 = .ok (.iload_n 1, 1) := by decide +kernel
theorem dX12_readLand_42 : decode cX12_readLand 42 = .ok (.iadd, 1) := by decide +kernel
theorem dX12_readLand_43 : decode cX12_readLand 43 = .ok (.istore 4, 2) := by decide +kernel
theorem dX12_readLand_45 : decode cX12_readLand 45 = .ok (.aload_n 0, 1) := by decide +kernel
theorem dX12_readLand_46 : decode cX12_readLand 46 = .ok (.invokevirtual 95, 3) := by decide +kernel
theorem dX12_readLand_49 : decode cX12_readLand 49 = .ok (.ifCond .eq 24, 3) := by decide +kernel
theorem dX12_readLand_52 : decode cX12_readLand 52 = .ok (.aload_n 0, 1) := by decide +kernel
theorem dX12_readLand_53 : decode cX12_readLand 53 = .ok (.getfield 20, 3) := by decide +kernel
theorem dX12_readLand_56 : decode cX12_readLand 56 = .ok (.bipush 8, 2) := by decide +kernel
theorem dX12_readLand_58 : decode cX12_readLand 58 = .ok (.iload 4, 2) := by decide +kernel
theorem dX12_readLand_60 : decode cX12_readLand 60 = .ok (.iadd, 1) := by decide +kernel
theorem dX12_readLand_61 : decode cX12_readLand 61 = .ok (.iaload, 1) := by decide +kernel
theorem dX12_readLand_62 : decode cX12_readLand 62 = .ok (.iconst 1, 1) := by decide +kernel
theorem dX12_readLand_63 : decode cX12_readLand 63 = .ok (.if_icmp .ne 10, 3) := by decide +kernel
theorem dX12_readLand_66 : decode cX12_readLand 66 = .ok (.aload_n 0, 1) := by decide +kernel
theorem dX12_readLand_67 : decode cX12_readLand 67 = .ok (.bipush (-7), 2) := by decide +kernel
theorem dX12_readLand_69 : decode cX12_readLand 69 = .ok (.iload_n 2, 1) := by decide +kernel
theorem dX12_readLand_70 : decode cX12_readLand 70 = .ok (.invokevirtual 112, 3) := by decide +kernel
theorem dX12_readLand_73 : decode cX12_readLand 73 = .ok (.iload 4, 2) := by decide +kernel
theorem dX12_readLand_75 : decode cX12_readLand 75 = .ok (.ireturn, 1) := by decide +kernel
theorem dX12_readMark_0 : decode cX12_readMark 0 = .ok (.aload_n 0, 1) := by decide +kernel
theorem dX12_readMark_1 : decode cX12_readMark 1 = .ok (.invokevirtual 170, 3) := by decide +kernel
theorem dX12_readMark_4 : decode cX12_readMark 4 = .ok (.istore_n 1, 1) := by decide +kernel
theorem dX12_readMark_5 : decode cX12_readMark 5 = .ok (.aload_n 0, 1) := by decide +kernel
theorem dX12_readMark_6 : decode cX12_readMark 6 = .ok (.invokevirtual 95, 3) := by decide +kernel
theorem dX12_readMark_9 : decode cX12_readMark 9 = .ok (.ifCond .eq 29, 3) := by decide +kernel
theorem dX12_readMark_12 : decode cX12_readMark 12 = .ok (.aload_n 0, 1) := by decide +kernel
theorem dX12_readMark_13 : decode cX12_readMark 13 = .ok (.getfield 20, 3) := by decide +kernel
theorem dX12_readMark_16 : decode cX12_readMark 16 = .ok (.sipush 808, 3) := by decide +kernel
theorem dX12_readMark_19 : decode cX12_readMark 19 = .ok (.iload_n 1, 1) := by decide +kernel
theorem dX12_readMark_20 : decode cX12_readMark 20 = .ok (.iadd, 1) := by decide +kernel
theorem dX12_readMark_21 : decode cX12_readMark 21 = .ok (.iaload, 1) := by decide +kernel
theorem dX12_readMark_22 : decode cX12_readMark 22 = .ok (.iconst (-1), 1) := by decide +kernel
theorem dX12_readMark_23 : decode cX12_readMark 23 = .ok (.if_icmp .eq 15, 3) := by decide +kernel
theorem dX12_readMark_26 : decode cX12_readMark 26 = .ok (.aload_n 0, 1) := by decide +kernel
theorem dX12_readMark_27 : decode cX12_readMark 27 = .ok (.bipush (-4), 2) := by decide +kernel
theorem dX12_readMark_29 : decode cX12_readMark 29 = .ok (.aload_n 0, 1) := by decide +kernel
theorem dX12_readMark_30 : decode cX12_readMark 30 = .ok (.getfield 78, 3) := by decide +kernel
theorem dX12_readMark_33 : decode cX12_readMark 33 = .ok (.iconst 1, 1) := by decide +kernel
theorem dX12_readMark_34 : decode cX12_readMark 34 = .ok (.isub, 1) := by decide +kernel
theorem dX12_readMark_35 : decode cX12_readMark 35 = .ok (.invokevirtual 112, 3) := by decide +kernel
theorem dX12_readMark_38 : decode cX12_readMark 38 = .ok (.aload_n 0, 1) := by decide +kernel
theorem dX12_readMark_39 : decode cX12_readMark 39 = .ok (.invokevirtual 173, 3) := by decide +kernel
theorem dX12_readMark_42 : decode cX12_readMark 42 = .ok (.istore_n 2, 1) := by decide +kernel
theorem dX12_readMark_43 : decode cX12_readMark 43 = .ok (.aload_n 0, 1) := by decide +kernel
theorem dX12_readMark_44 : decode cX12_readMark 44 = .ok (.invokevirtual 95, 3) := by decide +kernel
theorem dX12_readMark_47 : decode cX12_readMark 47 = .ok (.ifCond .eq 14, 3) := by decide +kernel
theorem dX12_readMark_50 : decode cX12_readMark 50 = .ok (.aload_n 0, 1) := by decide +kernel
theorem dX12_readMark_51 : decode cX12_readMark 51 = .ok (.getfield 20, 3) := by decide +kernel
theorem dX12_readMark_54 : decode cX12_readMark 54 = .ok (.sipush 808, 3) := by decide +kernel
theorem dX12_readMark_57 : decode cX12_readMark 57 = .ok (.iload_n 1, 1) := by decide +kernel
theorem dX12_readMark_58 : decode cX12_readMark 58 = .ok (.iadd, 1) := by decide +kernel
theorem dX12_readMark_59 : decode cX12_readMark 59 = .ok (.iload_n 2, 1) := by decide +kernel
theorem dX12_readMark_60 : decode cX12_readMark 60 = .ok (.iastore, 1) := by decide +kernel
theorem dX12_readMark_61 : decode cX12_readMark 61 = .ok (.return_, 1) := by decide +kernel
theorem dX12_knownMark_0 : decode cX12_knownMark 0 = .ok (.aload_n 0, 1) := by decide +kernel
theorem dX12_knownMark_1 : decode cX12_knownMark 1 = .ok (.invokevirtual 170, 3) := by decide +kernel
theorem dX12_knownMark_4 : decode cX12_knownMark 4 = .ok (.istore_n 1, 1) := by decide +kernel
theorem dX12_knownMark_5 : decode cX12_knownMark 5 = .ok (.aload_n 0, 1) := by decide +kernel
theorem dX12_knownMark_6 : decode cX12_knownMark 6 = .ok (.invokevirtual 95, 3) := by decide +kernel
theorem dX12_knownMark_9 : decode cX12_knownMark 9 = .ok (.ifCond .eq 29, 3) := by decide +kernel
theorem dX12_knownMark_12 : decode cX12_knownMark 12 = .ok (.aload_n 0, 1) := by decide +kernel
theorem dX12_knownMark_13 : decode cX12_knownMark 13 = .ok (.getfield 20, 3) := by decide +kernel
theorem dX12_knownMark_16 : decode cX12_knownMark 16 = .ok (.sipush 808, 3) := by decide +kernel
theorem dX12_knownMark_19 : decode cX12_knownMark 19 = .ok (.iload_n 1, 1) := by decide +kernel
theorem dX12_knownMark_20 : decode cX12_knownMark 20 = .ok (.iadd, 1) := by decide +kernel
theorem dX12_knownMark_21 : decode cX12_knownMark 21 = .ok (.iaload, 1) := by decide +kernel
theorem dX12_knownMark_22 : decode cX12_knownMark 22 = .ok (.iconst (-1), 1) := by decide +kernel
theorem dX12_knownMark_23 : decode cX12_knownMark 23 = .ok (.if_icmp .ne 15, 3) := by decide +kernel
theorem dX12_knownMark_26 : decode cX12_knownMark 26 = .ok (.aload_n 0, 1) := by decide +kernel
theorem dX12_knownMark_27 : decode cX12_knownMark 27 = .ok (.bipush (-5), 2) := by decide +kernel
theorem dX12_knownMark_29 : decode cX12_knownMark 29 = .ok (.aload_n 0, 1) := by decide +kernel
theorem dX12_knownMark_30 : decode cX12_knownMark 30 = .ok (.getfield 78, 3) := by decide +kernel
theorem dX12_knownMark_33 : decode cX12_knownMark 33 = .ok (.iconst 1, 1) := by decide +kernel
theorem dX12_knownMark_34 : decode cX12_knownMark 34 = .ok (.isub, 1) := by decide +kernel
theorem dX12_knownMark_35 : decode cX12_knownMark 35 = .ok (.invokevirtual 112, 3) := by decide +kernel
theorem dX12_knownMark_38 : decode cX12_knownMark 38 = .ok (.iload_n 1, 1) := by decide +kernel
theorem dX12_knownMark_39 : decode cX12_knownMark 39 = .ok (.ireturn, 1) := by decide +kernel
theorem dX12_readStart_0 : decode cX12_readStart 0 = .ok (.aload_n 0, 1) := by decide +kernel
theorem dX12_readStart_1 : decode cX12_readStart 1 = .ok (.invokevirtual 176, 3) := by decide +kernel
theorem dX12_readStart_4 : decode cX12_readStart 4 = .ok (.istore_n 2, 1) := by decide +kernel
theorem dX12_readStart_5 : decode cX12_readStart 5 = .ok (.iconst 0, 1) := by decide +kernel
theorem dX12_readStart_6 : decode cX12_readStart 6 = .ok (.istore_n 3, 1) := by decide +kernel
theorem dX12_readStart_7 : decode cX12_readStart 7 = .ok (.iload_n 3, 1) := by decide +kernel
theorem dX12_readStart_8 : decode cX12_readStart 8 = .ok (.aload_n 0, 1) := by decide +kernel
theorem dX12_readStart_9 : decode cX12_readStart 9 = .ok (.getfield 20, 3) := by decide +kernel
theorem dX12_readStart_12 : decode cX12_readStart 12 = .ok (.iload_n 1, 1) := by decide +kernel
theorem dX12_readStart_13 : decode cX12_readStart 13 = .ok (.iconst 1, 1) := by decide +kernel
theorem dX12_readStart_14 : decode cX12_readStart 14 = .ok (.iadd, 1) := by decide +kernel
theorem dX12_readStart_15 : decode cX12_readStart 15 = .ok (.iaload, 1) := by decide +kernel
theorem dX12_readStart_16 : decode cX12_readStart 16 = .ok (.if_icmp .ge 42, 3) := by decide +kernel
theorem dX12_readStart_19 : decode cX12_readStart 19 = .ok (.aload_n 0, 1) := by decide +kernel
theorem dX12_readStart_20 : decode cX12_readStart 20 = .ok (.invokevirtual 95, 3) := by decide +kernel
theorem dX12_readStart_23 : decode cX12_readStart 23 = .ok (.ifCond .eq 29, 3) := by decide +kernel
theorem dX12_readStart_26 : decode cX12_readStart 26 = .ok (.aload_n 0, 1) := by decide +kernel
theorem dX12_readStart_27 : decode cX12_readStart 27 = .ok (.getfield 20, 3) := by decide +kernel
theorem dX12_readStart_30 : decode cX12_readStart 30 = .ok (.iload_n 1, 1) := by decide +kernel
theorem dX12_readStart_31 : decode cX12_readStart 31 = .ok (.iconst 3, 1) := by decide +kernel
theorem dX12_readStart_32 : decode cX12_readStart 32 = .ok (.iadd, 1) := by decide +kernel
theorem dX12_readStart_33 : decode cX12_readStart 33 = .ok (.iload_n 3, 1) := by decide +kernel
theorem dX12_readStart_34 : decode cX12_readStart 34 = .ok (.iadd, 1) := by decide +kernel
theorem dX12_readStart_35 : decode cX12_readStart 35 = .ok (.iaload, 1) := by decide +kernel
theorem dX12_readStart_36 : decode cX12_readStart 36 = .ok (.iload_n 2, 1) := by decide +kernel
theorem dX12_readStart_37 : decode cX12_readStart 37 = .ok (.if_icmp .ne 15, 3) := by decide +kernel
theorem dX12_readStart_40 : decode cX12_readStart 40 = .ok (.aload_n 0, 1) := by decide +kernel
theorem dX12_readStart_41 : decode cX12_readStart 41 = .ok (.bipush (-4), 2) := by decide +kernel
theorem dX12_readStart_43 : decode cX12_readStart 43 = .ok (.aload_n 0, 1) := by decide +kernel
theorem dX12_readStart_44 : decode cX12_readStart 44 = .ok (.getfield 78, 3) := by decide +kernel
theorem dX12_readStart_47 : decode cX12_readStart 47 = .ok (.iconst 1, 1) := by decide +kernel
theorem dX12_readStart_48 : decode cX12_readStart 48 = .ok (.isub, 1) := by decide +kernel
theorem dX12_readStart_49 : decode cX12_readStart 49 = .ok (.invokevirtual 112, 3) := by decide +kernel
theorem dX12_readStart_52 : decode cX12_readStart 52 = .ok (.iinc 3 1, 3) := by decide +kernel
theorem dX12_readStart_55 : decode cX12_readStart 55 = .ok (.goto (-48), 3) := by decide +kernel
theorem dX12_readStart_58 : decode cX12_readStart 58 = .ok (.aload_n 0, 1) := by decide +kernel
theorem dX12_readStart_59 : decode cX12_readStart 59 = .ok (.invokevirtual 95, 3) := by decide +kernel
theorem dX12_readStart_62 : decode cX12_readStart 62 = .ok (.ifCond .ne 4, 3) := by decide +kernel
theorem dX12_readStart_65 : decode cX12_readStart 65 = .ok (.return_, 1) := by decide +kernel
theorem dX12_readStart_66 : decode cX12_readStart 66 = .ok (.aload_n 0, 1) := by decide +kernel
theorem dX12_readStart_67 : decode cX12_readStart 67 = .ok (.getfield 20, 3) := by decide +kernel
theorem dX12_readStart_70 : decode cX12_readStart 70 = .ok (.iload_n 1, 1) := by decide +kernel
theorem dX12_readStart_71 : decode cX12_readStart 71 = .ok (.iconst 3, 1) := by decide +kernel
theorem dX12_readStart_72 : decode cX12_readStart 72 = .ok (.iadd, 1) := by decide +kernel
theorem dX12_readStart_73 : decode cX12_readStart 73 = .ok (.aload_n 0, 1) := by decide +kernel
theorem dX12_readStart_74 : decode cX12_readStart 74 = .ok (.getfield 20, 3) := by decide +kernel
theorem dX12_readStart_77 : decode cX12_readStart 77 = .ok (.iload_n 1, 1) := by decide +kernel
theorem dX12_readStart_78 : decode cX12_readStart 78 = .ok (.iconst 1, 1) := by decide +kernel
theorem dX12_readStart_79 : decode cX12_readStart 79 = .ok (.iadd, 1) := by decide +kernel
theorem dX12_readStart_80 : decode cX12_readStart 80 = .ok (.iaload, 1) := by decide +kernel
theorem dX12_readStart_81 : decode cX12_readStart 81 = .ok (.iadd, 1) := by decide +kernel
theorem dX12_readStart_82 : decode cX12_readStart 82 = .ok (.iload_n 2, 1) := by decide +kernel
theorem dX12_readStart_83 : decode cX12_readStart 83 = .ok (.iastore, 1) := by decide +kernel
theorem dX12_readStart_84 : decode cX12_readStart 84 = .ok (.aload_n 0, 1) := by decide +kernel
theorem dX12_readStart_85 : decode cX12_readStart 85 = .ok (.getfield 20, 3) := by decide +kernel
theorem dX12_readStart_88 : decode cX12_readStart 88 = .ok (.iload_n 1, 1) := by decide +kernel
theorem dX12_readStart_89 : decode cX12_readStart 89 = .ok (.iconst 1, 1) := by decide +kernel
theorem dX12_readStart_90 : decode cX12_readStart 90 = .ok (.iadd, 1) := by decide +kernel
theorem dX12_readStart_91 : decode cX12_readStart 91 = .ok (.dup2, 1) := by decide +kernel
theorem dX12_readStart_92 : decode cX12_readStart 92 = .ok (.iaload, 1) := by decide +kernel
theorem dX12_readStart_93 : decode cX12_readStart 93 = .ok (.iconst 1, 1) := by decide +kernel
theorem dX12_readStart_94 : decode cX12_readStart 94 = .ok (.iadd, 1) := by decide +kernel
theorem dX12_readStart_95 : decode cX12_readStart 95 = .ok (.iastore, 1) := by decide +kernel
theorem dX12_readStart_96 : decode cX12_readStart 96 = .ok (.return_, 1) := by decide +kernel
theorem dX12_bearing_0 : decode cX12_bearing 0 = .ok (.aload_n 0, 1) := by decide +kernel
theorem dX12_bearing_1 : decode cX12_bearing 1 = .ok (.invokevirtual 95, 3) := by decide +kernel
theorem dX12_bearing_4 : decode cX12_bearing 4 = .ok (.ifCond .ne 5, 3) := by decide +kernel
theorem dX12_bearing_7 : decode cX12_bearing 7 = .ok (.iconst 0, 1) := by decide +kernel
theorem dX12_bearing_8 : decode cX12_bearing 8 = .ok (.ireturn, 1) := by decide +kernel
theorem dX12_bearing_9 : decode cX12_bearing 9 = .ok (.aload_n 0, 1) := by decide +kernel
theorem dX12_bearing_10 : decode cX12_bearing 10 = .ok (.ldc 179, 2) := by decide +kernel
theorem dX12_bearing_12 : decode cX12_bearing 12 = .ok (.invokevirtual 161, 3) := by decide +kernel
theorem dX12_bearing_15 : decode cX12_bearing 15 = .ok (.ifCond .eq 7, 3) := by decide +kernel
theorem dX12_bearing_18 : decode cX12_bearing 18 = .ok (.iconst 0, 1) := by decide +kernel
theorem dX12_bearing_19 : decode cX12_bearing 19 = .ok (.goto 97, 3) := by decide +kernel
theorem dX12_bearing_22 : decode cX12_bearing 22 = .ok (.aload_n 0, 1) := by decide +kernel
theorem dX12_bearing_23 : decode cX12_bearing 23 = .ok (.ldc 181, 2) := by decide +kernel
theorem dX12_bearing_25 : decode cX12_bearing 25 = .ok (.invokevirtual 161, 3) := by decide +kernel
theorem dX12_bearing_28 : decode cX12_bearing 28 = .ok (.ifCond .eq 7, 3) := by decide +kernel
theorem dX12_bearing_31 : decode cX12_bearing 31 = .ok (.iconst 1, 1) := by decide +kernel
theorem dX12_bearing_32 : decode cX12_bearing 32 = .ok (.goto 84, 3) := by decide +kernel
theorem dX12_bearing_35 : decode cX12_bearing 35 = .ok (.aload_n 0, 1) := by decide +kernel
theorem dX12_bearing_36 : decode cX12_bearing 36 = .ok (.ldc 183, 2) := by decide +kernel
theorem dX12_bearing_38 : decode cX12_bearing 38 = .ok (.invokevirtual 161, 3) := by decide +kernel
theorem dX12_bearing_41 : decode cX12_bearing 41 = .ok (.ifCond .eq 7, 3) := by decide +kernel
theorem dX12_bearing_44 : decode cX12_bearing 44 = .ok (.iconst 2, 1) := by decide +kernel
theorem dX12_bearing_45 : decode cX12_bearing 45 = .ok (.goto 71, 3) := by decide +kernel
theorem dX12_bearing_48 : decode cX12_bearing 48 = .ok (.aload_n 0, 1) := by decide +kernel
theorem dX12_bearing_49 : decode cX12_bearing 49 = .ok (.ldc 185, 2) := by decide +kernel
theorem dX12_bearing_51 : decode cX12_bearing 51 = .ok (.invokevirtual 161, 3) := by decide +kernel
theorem dX12_bearing_54 : decode cX12_bearing 54 = .ok (.ifCond .eq 7, 3) := by decide +kernel
theorem dX12_bearing_57 : decode cX12_bearing 57 = .ok (.iconst 3, 1) := by decide +kernel
theorem dX12_bearing_58 : decode cX12_bearing 58 = .ok (.goto 58, 3) := by decide +kernel
theorem dX12_bearing_61 : decode cX12_bearing 61 = .ok (.aload_n 0, 1) := by decide +kernel
theorem dX12_bearing_62 : decode cX12_bearing 62 = .ok (.ldc 187, 2) := by decide +kernel
theorem dX12_bearing_64 : decode cX12_bearing 64 = .ok (.invokevirtual 161, 3) := by decide +kernel
theorem dX12_bearing_67 : decode cX12_bearing 67 = .ok (.ifCond .eq 7, 3) := by decide +kernel
theorem dX12_bearing_70 : decode cX12_bearing 70 = .ok (.iconst 4, 1) := by decide +kernel
theorem dX12_bearing_71 : decode cX12_bearing 71 = .ok (.goto 45, 3) := by decide +kernel
theorem dX12_bearing_74 : decode cX12_bearing 74 = .ok (.aload_n 0, 1) := by decide +kernel
theorem dX12_bearing_75 : decode cX12_bearing 75 = .ok (.ldc 189, 2) := by decide +kernel
theorem dX12_bearing_77 : decode cX12_bearing 77 = .ok (.invokevirtual 161, 3) := by decide +kernel
theorem dX12_bearing_80 : decode cX12_bearing 80 = .ok (.ifCond .eq 7, 3) := by decide +kernel
theorem dX12_bearing_83 : decode cX12_bearing 83 = .ok (.iconst 5, 1) := by decide +kernel
theorem dX12_bearing_84 : decode cX12_bearing 84 = .ok (.goto 32, 3) := by decide +kernel
theorem dX12_bearing_87 : decode cX12_bearing 87 = .ok (.aload_n 0, 1) := by decide +kernel
theorem dX12_bearing_88 : decode cX12_bearing 88 = .ok (.ldc 191, 2) := by decide +kernel
theorem dX12_bearing_90 : decode cX12_bearing 90 = .ok (.invokevirtual 161, 3) := by decide +kernel
theorem dX12_bearing_93 : decode cX12_bearing 93 = .ok (.ifCond .eq 8, 3) := by decide +kernel
theorem dX12_bearing_96 : decode cX12_bearing 96 = .ok (.bipush 6, 2) := by decide +kernel
theorem dX12_bearing_98 : decode cX12_bearing 98 = .ok (.goto 18, 3) := by decide +kernel
theorem dX12_bearing_101 : decode cX12_bearing 101 = .ok (.aload_n 0, 1) := by decide +kernel
theorem dX12_bearing_102 : decode cX12_bearing 102 = .ok (.ldc 193, 2) := by decide +kernel
theorem dX12_bearing_104 : decode cX12_bearing 104 = .ok (.invokevirtual 161, 3) := by decide +kernel
theorem dX12_bearing_107 : decode cX12_bearing 107 = .ok (.ifCond .eq 8, 3) := by decide +kernel
theorem dX12_bearing_110 : decode cX12_bearing 110 = .ok (.bipush 7, 2) := by decide +kernel
theorem dX12_bearing_112 : decode cX12_bearing 112 = .ok (.goto 4, 3) := by decide +kernel
theorem dX12_bearing_115 : decode cX12_bearing 115 = .ok (.iconst (-1), 1) := by decide +kernel
theorem dX12_bearing_116 : decode cX12_bearing 116 = .ok (.istore_n 1, 1) := by decide +kernel
theorem dX12_bearing_117 : decode cX12_bearing 117 = .ok (.iload_n 1, 1) := by decide +kernel
theorem dX12_bearing_118 : decode cX12_bearing 118 = .ok (.iconst (-1), 1) := by decide +kernel
theorem dX12_bearing_119 : decode cX12_bearing 119 = .ok (.if_icmp .ne 13, 3) := by decide +kernel
theorem dX12_bearing_122 : decode cX12_bearing 122 = .ok (.aload_n 0, 1) := by decide +kernel
theorem dX12_bearing_123 : decode cX12_bearing 123 = .ok (.bipush (-2), 2) := by decide +kernel
theorem dX12_bearing_125 : decode cX12_bearing 125 = .ok (.aload_n 0, 1) := by decide +kernel
theorem dX12_bearing_126 : decode cX12_bearing 126 = .ok (.getfield 78, 3) := by decide +kernel
theorem dX12_bearing_129 : decode cX12_bearing 129 = .ok (.invokevirtual 112, 3) := by decide +kernel
theorem dX12_bearing_132 : decode cX12_bearing 132 = .ok (.iload_n 1, 1) := by decide +kernel
theorem dX12_bearing_133 : decode cX12_bearing 133 = .ok (.ireturn, 1) := by decide +kernel
theorem dX12_readLeg_0 : decode cX12_readLeg 0 = .ok (.iload_n 2, 1) := by decide +kernel
theorem dX12_readLeg_1 : decode cX12_readLeg 1 = .ok (.ifCond .ne 13, 3) := by decide +kernel
theorem dX12_readLeg_4 : decode cX12_readLeg 4 = .ok (.aload_n 0, 1) := by decide +kernel
theorem dX12_readLeg_5 : decode cX12_readLeg 5 = .ok (.iconst 0, 1) := by decide +kernel
theorem dX12_readLeg_6 : decode cX12_readLeg 6 = .ok (.bipush 30, 2) := by decide +kernel
theorem dX12_readLeg_8 : decode cX12_readLeg 8 = .ok (.invokevirtual 128, 3) := by decide +kernel
theorem dX12_readLeg_11 : decode cX12_readLeg 11 = .ok (.goto 16, 3) := by decide +kernel
theorem dX12_readLeg_14 : decode cX12_readLeg 14 = .ok (.iload_n 2, 1) := by decide +kernel
theorem dX12_readLeg_15 : decode cX12_readLeg 15 = .ok (.iconst 1, 1) := by decide +kernel
theorem dX12_readLeg_16 : decode cX12_readLeg 16 = .ok (.if_icmp .ne 10, 3) := by decide +kernel
theorem dX12_readLeg_19 : decode cX12_readLeg 19 = .ok (.aload_n 0, 1) := by decide +kernel
theorem dX12_readLeg_20 : decode cX12_readLeg 20 = .ok (.invokevirtual 176, 3) := by decide +kernel
theorem dX12_readLeg_23 : decode cX12_readLeg 23 = .ok (.goto 4, 3) := by decide +kernel
theorem dX12_readLeg_26 : decode cX12_readLeg 26 = .ok (.iconst 0, 1) := by decide +kernel
theorem dX12_readLeg_27 : decode cX12_readLeg 27 = .ok (.istore_n 3, 1) := by decide +kernel
theorem dX12_readLeg_28 : decode cX12_readLeg 28 = .ok (.aload_n 0, 1) := by decide +kernel
theorem dX12_readLeg_29 : decode cX12_readLeg 29 = .ok (.invokevirtual 195, 3) := by decide +kernel
theorem dX12_readLeg_32 : decode cX12_readLeg 32 = .ok (.istore 4, 2) := by decide +kernel
theorem dX12_readLeg_34 : decode cX12_readLeg 34 = .ok (.iconst 0, 1) := by decide +kernel
theorem dX12_readLeg_35 : decode cX12_readLeg 35 = .ok (.istore 5, 2) := by decide +kernel
theorem dX12_readLeg_37 : decode cX12_readLeg 37 = .ok (.iload_n 2, 1) := by decide +kernel
theorem dX12_readLeg_38 : decode cX12_readLeg 38 = .ok (.ifCond .ne 20, 3) := by decide +kernel
theorem dX12_readLeg_41 : decode cX12_readLeg 41 = .ok (.aload_n 0, 1) := by decide +kernel
theorem dX12_readLeg_42 : decode cX12_readLeg 42 = .ok (.ldc 198, 2) := by decide +kernel
theorem dX12_readLeg_44 : decode cX12_readLeg 44 = .ok (.invokevirtual 161, 3) := by decide +kernel
theorem dX12_readLeg_47 : decode cX12_readLeg 47 = .ok (.ifCond .eq 11, 3) := by decide +kernel
theorem dX12_readLeg_50 : decode cX12_readLeg 50 = .ok (.aload_n 0, 1) := by decide +kernel
theorem dX12_readLeg_51 : decode cX12_readLeg 51 = .ok (.iconst 0, 1) := by decide +kernel
theorem dX12_readLeg_52 : decode cX12_readLeg 52 = .ok (.iconst 5, 1) := by decide +kernel
theorem dX12_readLeg_53 : decode cX12_readLeg 53 = .ok (.invokevirtual 128, 3) := by decide +kernel
theorem dX12_readLeg_56 : decode cX12_readLeg 56 = .ok (.istore 5, 2) := by decide +kernel
theorem dX12_readLeg_58 : decode cX12_readLeg 58 = .ok (.aload_n 0, 1) := by decide +kernel
theorem dX12_readLeg_59 : decode cX12_readLeg 59 = .ok (.invokevirtual 95, 3) := by decide +kernel
theorem dX12_readLeg_62 : decode cX12_readLeg 62 = .ok (.ifCond .ne 4, 3) := by decide +kernel
theorem dX12_readLeg_65 : decode cX12_readLeg 65 = .ok (.return_, 1) := by decide +kernel
theorem dX12_readLeg_66 : decode cX12_readLeg 66 = .ok (.iload_n 1, 1) := by decide +kernel
theorem dX12_readLeg_67 : decode cX12_readLeg 67 = .ok (.bipush 11, 2) := by decide +kernel
theorem dX12_readLeg_69 : decode cX12_readLeg 69 = .ok (.iadd, 1) := by decide +kernel
theorem dX12_readLeg_70 : decode cX12_readLeg 70 = .ok (.iconst 4, 1) := by decide +kernel
theorem dX12_readLeg_71 : decode cX12_readLeg 71 = .ok (.aload_n 0, 1) := by decide +kernel
theorem dX12_readLeg_72 : decode cX12_readLeg 72 = .ok (.getfield 20, 3) := by decide +kernel
theorem dX12_readLeg_75 : decode cX12_readLeg 75 = .ok (.iload_n 1, 1) := by decide +kernel
theorem dX12_readLeg_76 : decode cX12_readLeg 76 = .ok (.iconst 2, 1) := by decide +kernel
theorem dX12_readLeg_77 : decode cX12_readLeg 77 = .ok (.iadd, 1) := by decide +kernel
theorem dX12_readLeg_78 : decode cX12_readLeg 78 = .ok (.iaload, 1) := by decide +kernel
theorem dX12_readLeg_79 : decode cX12_readLeg 79 = .ok (.imul, 1) := by decide +kernel
theorem dX12_readLeg_80 : decode cX12_readLeg 80 = .ok (.iadd, 1) := by decide +kernel
theorem dX12_readLeg_81 : decode cX12_readLeg 81 = .ok (.istore 6, 2) := by decide +kernel
theorem dX12_readLeg_83 : decode cX12_readLeg 83 = .ok (.aload_n 0, 1) := by decide +kernel
theorem dX12_readLeg_84 : decode cX12_readLeg 84 = .ok (.getfield 20, 3) := by decide +kernel
theorem dX12_readLeg_87 : decode cX12_readLeg 87 = .ok (.iload 6, 2) := by decide +kernel
theorem dX12_readLeg_89 : decode cX12_readLeg 89 = .ok (.iconst 0, 1) := by decide +kernel
theorem dX12_readLeg_90 : decode cX12_readLeg 90 = .ok (.iadd, 1) := by decide +kernel
theorem dX12_readLeg_91 : decode cX12_readLeg 91 = .ok (.iload_n 2, 1) := by decide +kernel
theorem dX12_readLeg_92 : decode cX12_readLeg 92 = .ok (.iastore, 1) := by decide +kernel
theorem dX12_readLeg_93 : decode cX12_readLeg 93 = .ok (.aload_n 0, 1) := by decide +kernel
theorem dX12_readLeg_94 : decode cX12_readLeg 94 = .ok (.getfield 20, 3) := by decide +kernel
theorem dX12_readLeg_97 : decode cX12_readLeg 97 = .ok (.iload 6, 2) := by decide +kernel
theorem dX12_readLeg_99 : decode cX12_readLeg 99 = .ok (.iconst 1, 1) := by decide +kernel
theorem dX12_readLeg_100 : decode cX12_readLeg 100 = .ok (.iadd, 1) := by decide +kernel
theorem dX12_readLeg_101 : decode cX12_readLeg 101 = .ok (.iload_n 3, 1) := by decide +kernel
theorem dX12_readLeg_102 : decode cX12_readLeg 102 = .ok (.iastore, 1) := by decide +kernel
theorem dX12_readLeg_103 : decode cX12_readLeg 103 = .ok (.aload_n 0, 1) := by decide +kernel
theorem dX12_readLeg_104 : decode cX12_readLeg 104 = .ok (.getfield 20, 3) := by decide +kernel
theorem dX12_readLeg_107 : decode cX12_readLeg 107 = .ok (.iload 6, 2) := by decide +kernel
theorem dX12_readLeg_109 : decode cX12_readLeg 109 = .ok (.iconst 2, 1) := by decide +kernel
theorem dX12_readLeg_110 : decode cX12_readLeg 110 = .ok (.iadd, 1) := by decide +kernel
theorem dX12_readLeg_111 : decode cX12_readLeg 111 = .ok (.iload 5, 2) := by decide +kernel
theorem dX12_readLeg_113 : decode cX12_readLeg 113 = .ok (.iastore, 1) := by decide +kernel
theorem dX12_readLeg_114 : decode cX12_readLeg 114 = .ok (.aload_n 0, 1) := by decide +kernel
theorem dX12_readLeg_115 : decode cX12_readLeg 115 = .ok (.getfield 20, 3) := by decide +kernel
theorem dX12_readLeg_118 : decode cX12_readLeg 118 = .ok (.iload 6, 2) := by decide +kernel
theorem dX12_readLeg_120 : decode cX12_readLeg 120 = .ok (.iconst 3, 1) := by decide +kernel
theorem dX12_readLeg_121 : decode cX12_readLeg 121 = .ok (.iadd, 1) := by decide +kernel
theorem dX12_readLeg_122 : decode cX12_readLeg 122 = .ok (.iload 4, 2) := by decide +kernel
theorem dX12_readLeg_124 : decode cX12_readLeg 124 = .ok (.iastore, 1) := by decide +kernel
theorem dX12_readLeg_125 : decode cX12_readLeg 125 = .ok (.aload_n 0, 1) := by decide +kernel
theorem dX12_readLeg_126 : decode cX12_readLeg 126 = .ok (.getfield 20, 3) := by decide +kernel
theorem dX12_readLeg_129 : decode cX12_readLeg 129 = .ok (.iload_n 1, 1) := by decide +kernel
theorem dX12_readLeg_130 : decode cX12_readLeg 130 = .ok (.iconst 2, 1) := by decide +kernel
theorem dX12_readLeg_131 : decode cX12_readLeg 131 = .ok (.iadd, 1) := by decide +kernel
theorem dX12_readLeg_132 : decode cX12_readLeg 132 = .ok (.dup2, 1) := by decide +kernel
theorem dX12_readLeg_133 : decode cX12_readLeg 133 = .ok (.iaload, 1) := by decide +kernel
theorem dX12_readLeg_134 : decode cX12_readLeg 134 = .ok (.iconst 1, 1) := by decide +kernel
theorem dX12_readLeg_135 : decode cX12_readLeg 135 = .ok (.iadd, 1) := by decide +kernel
theorem dX12_readLeg_136 : decode cX12_readLeg 136 = .ok (.iastore, 1) := by decide +kernel
theorem dX12_readLeg_137 : decode cX12_readLeg 137 = .ok (.return_, 1) := by decide +kernel
theorem dX12_readClue_0 : decode cX12_readClue 0 = .ok (.aload_n 0, 1) := by decide +kernel
theorem dX12_readClue_1 : decode cX12_readClue 1 = .ok (.getfield 20, 3) := by decide +kernel
theorem dX12_readClue_4 : decode cX12_readClue 4 = .ok (.iconst 3, 1) := by decide +kernel
theorem dX12_readClue_5 : decode cX12_readClue 5 = .ok (.iaload, 1) := by decide +kernel
theorem dX12_readClue_6 : decode cX12_readClue 6 = .ok (.iconst 4, 1) := by decide +kernel
theorem dX12_readClue_7 : decode cX12_readClue 7 = .ok (.if_icmp .ne 10, 3) := by decide +kernel
theorem dX12_readClue_10 : decode cX12_readClue 10 = .ok (.aload_n 0, 1) := by decide +kernel
theorem dX12_readClue_11 : decode cX12_readClue 11 = .ok (.bipush (-6), 2) := by decide +kernel
theorem dX12_readClue_13 : decode cX12_readClue 13 = .ok (.iload_n 1, 1) := by decide +kernel
theorem dX12_readClue_14 : decode cX12_readClue 14 = .ok (.invokevirtual 112, 3) := by decide +kernel
theorem dX12_readClue_17 : decode cX12_readClue 17 = .ok (.aload_n 0, 1) := by decide +kernel
theorem dX12_readClue_18 : decode cX12_readClue 18 = .ok (.invokevirtual 95, 3) := by decide +kernel
theorem dX12_readClue_21 : decode cX12_readClue 21 = .ok (.ifCond .ne 4, 3) := by decide +kernel
theorem dX12_readClue_24 : decode cX12_readClue 24 = .ok (.return_, 1) := by decide +kernel
theorem dX12_readClue_25 : decode cX12_readClue 25 = .ok (.aload_n 0, 1) := by decide +kernel
theorem dX12_readClue_26 : decode cX12_readClue 26 = .ok (.getfield 20, 3) := by decide +kernel
theorem dX12_readClue_29 : decode cX12_readClue 29 = .ok (.iconst 3, 1) := by decide +kernel
theorem dX12_readClue_30 : decode cX12_readClue 30 = .ok (.iaload, 1) := by decide +kernel
theorem dX12_readClue_31 : decode cX12_readClue 31 = .ok (.invokestatic 200, 3) := by decide +kernel
theorem dX12_readClue_34 : decode cX12_readClue 34 = .ok (.istore_n 2, 1) := by decide +kernel
theorem dX12_readClue_35 : decode cX12_readClue 35 = .ok (.aload_n 0, 1) := by decide +kernel
theorem dX12_readClue_36 : decode cX12_readClue 36 = .ok (.iload_n 2, 1) := by decide +kernel
theorem dX12_readClue_37 : decode cX12_readClue 37 = .ok (.invokevirtual 203, 3) := by decide +kernel
theorem dX12_readClue_40 : decode cX12_readClue 40 = .ok (.aload_n 0, 1) := by decide +kernel
theorem dX12_readClue_41 : decode cX12_readClue 41 = .ok (.ldc 207, 2) := by decide +kernel
theorem dX12_readClue_43 : decode cX12_readClue 43 = .ok (.invokevirtual 161, 3) := by decide +kernel
theorem dX12_readClue_46 : decode cX12_readClue 46 = .ok (.ifCond .eq 11, 3) := by decide +kernel
theorem dX12_readClue_49 : decode cX12_readClue 49 = .ok (.aload_n 0, 1) := by decide +kernel
theorem dX12_readClue_50 : decode cX12_readClue 50 = .ok (.iload_n 2, 1) := by decide +kernel
theorem dX12_readClue_51 : decode cX12_readClue 51 = .ok (.invokevirtual 203, 3) := by decide +kernel
theorem dX12_readClue_54 : decode cX12_readClue 54 = .ok (.goto (-14), 3) := by decide +kernel
theorem dX12_readClue_57 : decode cX12_readClue 57 = .ok (.aload_n 0, 1) := by decide +kernel
theorem dX12_readClue_58 : decode cX12_readClue 58 = .ok (.invokevirtual 95, 3) := by decide +kernel
theorem dX12_readClue_61 : decode cX12_readClue 61 = .ok (.istore_n 3, 1) := by decide +kernel
theorem dX12_readClue_62 : decode cX12_readClue 62 = .ok (.iload_n 3, 1) := by decide +kernel
theorem dX12_readClue_63 : decode cX12_readClue 63 = .ok (.ifCond .eq 131, 3) := by decide +kernel
theorem dX12_readClue_66 : decode cX12_readClue 66 = .ok (.aload_n 0, 1) := by decide +kernel
theorem dX12_readClue_67 : decode cX12_readClue 67 = .ok (.invokevirtual 99, 3) := by decide +kernel
theorem dX12_readClue_70 : decode cX12_readClue 70 = .ok (.pop, 1) := by decide +kernel
theorem dX12_readClue_71 : decode cX12_readClue 71 = .ok (.aload_n 0, 1) := by decide +kernel
theorem dX12_readClue_72 : decode cX12_readClue 72 = .ok (.getfield 78, 3) := by decide +kernel
theorem dX12_readClue_75 : decode cX12_readClue 75 = .ok (.istore 4, 2) := by decide +kernel
theorem dX12_readClue_77 : decode cX12_readClue 77 = .ok (.aload_n 0, 1) := by decide +kernel
theorem dX12_readClue_78 : decode cX12_readClue 78 = .ok (.ldc 209, 2) := by decide +kernel
theorem dX12_readClue_80 : decode cX12_readClue 80 = .ok (.invokevirtual 161, 3) := by decide +kernel
theorem dX12_readClue_83 : decode cX12_readClue 83 = .ok (.ifCond .eq 7, 3) := by decide +kernel
theorem dX12_readClue_86 : decode cX12_readClue 86 = .ok (.iconst 0, 1) := by decide +kernel
theorem dX12_readClue_87 : decode cX12_readClue 87 = .ok (.goto 30, 3) := by decide +kernel
theorem dX12_readClue_90 : decode cX12_readClue 90 = .ok (.aload_n 0, 1) := by decide +kernel
theorem dX12_readClue_91 : decode cX12_readClue 91 = .ok (.ldc 211, 2) := by decide +kernel
theorem dX12_readClue_93 : decode cX12_readClue 93 = .ok (.invokevirtual 161, 3) := by decide +kernel
theorem dX12_readClue_96 : decode cX12_readClue 96 = .ok (.ifCond .eq 7, 3) := by decide +kernel
theorem dX12_readClue_99 : decode cX12_readClue 99 = .ok (.iconst 1, 1) := by decide +kernel
theorem dX12_readClue_100 : decode cX12_readClue 100 = .ok (.goto 17, 3) := by decide +kernel
theorem dX12_readClue_103 : decode cX12_readClue 103 = .ok (.aload_n 0, 1) := by decide +kernel
theorem dX12_readClue_104 : decode cX12_readClue 104 = .ok (.ldc 213, 2) := by decide +kernel
theorem dX12_readClue_106 : decode cX12_readClue 106 = .ok (.invokevirtual 161, 3) := by decide +kernel
theorem dX12_readClue_109 : decode cX12_readClue 109 = .ok (.ifCond .eq 7, 3) := by decide +kernel
theorem dX12_readClue_112 : decode cX12_readClue 112 = .ok (.iconst 2, 1) := by decide +kernel
theorem dX12_readClue_113 : decode cX12_readClue 113 = .ok (.goto 4, 3) := by decide +kernel
theorem dX12_readClue_116 : decode cX12_readClue 116 = .ok (.iconst (-1), 1) := by decide +kernel
theorem dX12_readClue_117 : decode cX12_readClue 117 = .ok (.istore 5, 2) := by decide +kernel
theorem dX12_readClue_119 : decode cX12_readClue 119 = .ok (.iload 5, 2) := by decide +kernel
theorem dX12_readClue_121 : decode cX12_readClue 121 = .ok (.iconst (-1), 1) := by decide +kernel
theorem dX12_readClue_122 : decode cX12_readClue 122 = .ok (.if_icmp .eq 7, 3) := by decide +kernel
theorem dX12_readClue_125 : decode cX12_readClue 125 = .ok (.iconst 1, 1) := by decide +kernel
theorem dX12_readClue_126 : decode cX12_readClue 126 = .ok (.goto 4, 3) := by decide +kernel
theorem dX12_readClue_129 : decode cX12_readClue 129 = .ok (.iconst 0, 1) := by decide +kernel
theorem dX12_readClue_130 : decode cX12_readClue 130 = .ok (.istore_n 3, 1) := by decide +kernel
theorem dX12_readClue_131 : decode cX12_readClue 131 = .ok (.iload_n 3, 1) := by decide +kernel
theorem dX12_readClue_132 : decode cX12_readClue 132 = .ok (.ifCond .eq 24, 3) := by decide +kernel
theorem dX12_readClue_135 : decode cX12_readClue 135 = .ok (.aload_n 0, 1) := by decide +kernel
theorem dX12_readClue_136 : decode cX12_readClue 136 = .ok (.getfield 20, 3) := by decide +kernel
theorem dX12_readClue_139 : decode cX12_readClue 139 = .ok (.iload_n 2, 1) := by decide +kernel
theorem dX12_readClue_140 : decode cX12_readClue 140 = .ok (.iconst 2, 1) := by decide +kernel
theorem dX12_readClue_141 : decode cX12_readClue 141 = .ok (.iadd, 1) := by decide +kernel
theorem dX12_readClue_142 : decode cX12_readClue 142 = .ok (.iaload, 1) := by decide +kernel
theorem dX12_readClue_143 : decode cX12_readClue 143 = .ok (.bipush 8, 2) := by decide +kernel
theorem dX12_readClue_145 : decode cX12_readClue 145 = .ok (.if_icmp .ne 11, 3) := by decide +kernel
theorem dX12_readClue_148 : decode cX12_readClue 148 = .ok (.aload_n 0, 1) := by decide +kernel
theorem dX12_readClue_149 : decode cX12_readClue 149 = .ok (.bipush (-6), 2) := by decide +kernel
theorem dX12_readClue_151 : decode cX12_readClue 151 = .ok (.iload 4, 2) := by decide +kernel
theorem dX12_readClue_153 : decode cX12_readClue 153 = .ok (.invokevirtual 112, 3) := by decide +kernel
theorem dX12_readClue_156 : decode cX12_readClue 156 = .ok (.iload_n 3, 1) := by decide +kernel
theorem dX12_readClue_157 : decode cX12_readClue 157 = .ok (.ifCond .eq 17, 3) := by decide +kernel
theorem dX12_readClue_160 : decode cX12_readClue 160 = .ok (.aload_n 0, 1) := by decide +kernel
theorem dX12_readClue_161 : decode cX12_readClue 161 = .ok (.invokevirtual 95, 3) := by decide +kernel
theorem dX12_readClue_164 : decode cX12_readClue 164 = .ok (.ifCond .eq 10, 3) := by decide +kernel
theorem dX12_readClue_167 : decode cX12_readClue 167 = .ok (.aload_n 0, 1) := by decide +kernel
theorem dX12_readClue_168 : decode cX12_readClue 168 = .ok (.iload_n 2, 1) := by decide +kernel
theorem dX12_readClue_169 : decode cX12_readClue 169 = .ok (.iload 5, 2) := by decide +kernel
theorem dX12_readClue_171 : decode cX12_readClue 171 = .ok (.invokevirtual 215, 3) := by decide +kernel
theorem dX12_readClue_174 : decode cX12_readClue 174 = .ok (.iload_n 3, 1) := by decide +kernel
theorem dX12_readClue_175 : decode cX12_readClue 175 = .ok (.ifCond .eq 14, 3) := by decide +kernel
theorem dX12_readClue_178 : decode cX12_readClue 178 = .ok (.aload_n 0, 1) := by decide +kernel
theorem dX12_readClue_179 : decode cX12_readClue 179 = .ok (.invokevirtual 95, 3) := by decide +kernel
theorem dX12_readClue_182 : decode cX12_readClue 182 = .ok (.ifCond .eq 7, 3) := by decide +kernel
theorem dX12_readClue_185 : decode cX12_readClue 185 = .ok (.iconst 1, 1) := by decide +kernel
theorem dX12_readClue_186 : decode cX12_readClue 186 = .ok (.goto 4, 3) := by decide +kernel
theorem dX12_readClue_189 : decode cX12_readClue 189 = .ok (.iconst 0, 1) := by decide +kernel
theorem dX12_readClue_190 : decode cX12_readClue 190 = .ok (.istore_n 3, 1) := by decide +kernel
theorem dX12_readClue_191 : decode cX12_readClue 191 = .ok (.goto (-129), 3) := by decide +kernel
theorem dX12_readClue_194 : decode cX12_readClue 194 = .ok (.aload_n 0, 1) := by decide +kernel
theorem dX12_readClue_195 : decode cX12_readClue 195 = .ok (.invokevirtual 95, 3) := by decide +kernel
theorem dX12_readClue_198 : decode cX12_readClue 198 = .ok (.ifCond .ne 4, 3) := by decide +kernel
theorem dX12_readClue_201 : decode cX12_readClue 201 = .ok (.return_, 1) := by decide +kernel
theorem dX12_readClue_202 : decode cX12_readClue 202 = .ok (.aload_n 0, 1) := by decide +kernel
theorem dX12_readClue_203 : decode cX12_readClue 203 = .ok (.getfield 20, 3) := by decide +kernel
theorem dX12_readClue_206 : decode cX12_readClue 206 = .ok (.iload_n 2, 1) := by decide +kernel
theorem dX12_readClue_207 : decode cX12_readClue 207 = .ok (.iconst 0, 1) := by decide +kernel
theorem dX12_readClue_208 : decode cX12_readClue 208 = .ok (.iadd, 1) := by decide +kernel
theorem dX12_readClue_209 : decode cX12_readClue 209 = .ok (.iconst 1, 1) := by decide +kernel
theorem dX12_readClue_210 : decode cX12_readClue 210 = .ok (.iastore, 1) := by decide +kernel
theorem dX12_readClue_211 : decode cX12_readClue 211 = .ok (.aload_n 0, 1) := by decide +kernel
theorem dX12_readClue_212 : decode cX12_readClue 212 = .ok (.getfield 20, 3) := by decide +kernel
theorem dX12_readClue_215 : decode cX12_readClue 215 = .ok (.iconst 3, 1) := by decide +kernel
theorem dX12_readClue_216 : decode cX12_readClue 216 = .ok (.dup2, 1) := by decide +kernel
theorem dX12_readClue_217 : decode cX12_readClue 217 = .ok (.iaload, 1) := by decide +kernel
theorem dX12_readClue_218 : decode cX12_readClue 218 = .ok (.iconst 1, 1) := by decide +kernel
theorem dX12_readClue_219 : decode cX12_readClue 219 = .ok (.iadd, 1) := by decide +kernel
theorem dX12_readClue_220 : decode cX12_readClue 220 = .ok (.iastore, 1) := by decide +kernel
theorem dX12_readClue_221 : decode cX12_readClue 221 = .ok (.return_, 1) := by decide +kernel
theorem dX12_readTeam_0 : decode cX12_readTeam 0 = .ok (.aload_n 0, 1) := by decide +kernel
theorem dX12_readTeam_1 : decode cX12_readTeam 1 = .ok (.getfield 149, 3) := by decide +kernel
theorem dX12_readTeam_4 : decode cX12_readTeam 4 = .ok (.iconst (-1), 1) := by decide +kernel
theorem dX12_readTeam_5 : decode cX12_readTeam 5 = .ok (.if_icmp .eq 10, 3) := by decide +kernel
theorem dX12_readTeam_8 : decode cX12_readTeam 8 = .ok (.aload_n 0, 1) := by decide +kernel
theorem dX12_readTeam_9 : decode cX12_readTeam 9 = .ok (.bipush (-2), 2) := by decide +kernel
theorem dX12_readTeam_11 : decode cX12_readTeam 11 = .ok (.iload_n 1, 1) := by decide +kernel
theorem dX12_readTeam_12 : decode cX12_readTeam 12 = .ok (.invokevirtual 112, 3) := by decide +kernel
theorem dX12_readTeam_15 : decode cX12_readTeam 15 = .ok (.aload_n 0, 1) := by decide +kernel
theorem dX12_readTeam_16 : decode cX12_readTeam 16 = .ok (.invokevirtual 173, 3) := by decide +kernel
theorem dX12_readTeam_19 : decode cX12_readTeam 19 = .ok (.istore_n 2, 1) := by decide +kernel
theorem dX12_readTeam_20 : decode cX12_readTeam 20 = .ok (.aload_n 0, 1) := by decide +kernel
theorem dX12_readTeam_21 : decode cX12_readTeam 21 = .ok (.invokevirtual 95, 3) := by decide +kernel
theorem dX12_readTeam_24 : decode cX12_readTeam 24 = .ok (.ifCond .eq 8, 3) := by decide +kernel
theorem dX12_readTeam_27 : decode cX12_readTeam 27 = .ok (.aload_n 0, 1) := by decide +kernel
theorem dX12_readTeam_28 : decode cX12_readTeam 28 = .ok (.iload_n 2, 1) := by decide +kernel
theorem dX12_readTeam_29 : decode cX12_readTeam 29 = .ok (.putfield 149, 3) := by decide +kernel
theorem dX12_readTeam_32 : decode cX12_readTeam 32 = .ok (.return_, 1) := by decide +kernel
theorem dX12_statement_0 : decode cX12_statement 0 = .ok (.aload_n 0, 1) := by decide +kernel
theorem dX12_statement_1 : decode cX12_statement 1 = .ok (.invokevirtual 99, 3) := by decide +kernel
theorem dX12_statement_4 : decode cX12_statement 4 = .ok (.pop, 1) := by decide +kernel
theorem dX12_statement_5 : decode cX12_statement 5 = .ok (.aload_n 0, 1) := by decide +kernel
theorem dX12_statement_6 : decode cX12_statement 6 = .ok (.getfield 78, 3) := by decide +kernel
theorem dX12_statement_9 : decode cX12_statement 9 = .ok (.istore_n 1, 1) := by decide +kernel
theorem dX12_statement_10 : decode cX12_statement 10 = .ok (.aload_n 0, 1) := by decide +kernel
theorem dX12_statement_11 : decode cX12_statement 11 = .ok (.ldc 218, 2) := by decide +kernel
theorem dX12_statement_13 : decode cX12_statement 13 = .ok (.invokevirtual 161, 3) := by decide +kernel
theorem dX12_statement_16 : decode cX12_statement 16 = .ok (.ifCond .eq 10, 3) := by decide +kernel
theorem dX12_statement_19 : decode cX12_statement 19 = .ok (.aload_n 0, 1) := by decide +kernel
theorem dX12_statement_20 : decode cX12_statement 20 = .ok (.invokevirtual 220, 3) := by decide +kernel
theorem dX12_statement_23 : decode cX12_statement 23 = .ok (.goto 77, 3) := by decide +kernel
theorem dX12_statement_26 : decode cX12_statement 26 = .ok (.aload_n 0, 1) := by decide +kernel
theorem dX12_statement_27 : decode cX12_statement 27 = .ok (.ldc 223, 2) := by decide +kernel
theorem dX12_statement_29 : decode cX12_statement 29 = .ok (.invokevirtual 161, 3) := by decide +kernel
theorem dX12_statement_32 : decode cX12_statement 32 = .ok (.ifCond .eq 11, 3) := by decide +kernel
theorem dX12_statement_35 : decode cX12_statement 35 = .ok (.aload_n 0, 1) := by decide +kernel
theorem dX12_statement_36 : decode cX12_statement 36 = .ok (.iload_n 1, 1) := by decide +kernel
theorem dX12_statement_37 : decode cX12_statement 37 = .ok (.invokevirtual 225, 3) := by decide +kernel
theorem dX12_statement_40 : decode cX12_statement 40 = .ok (.goto 60, 3) := by decide +kernel
theorem dX12_statement_43 : decode cX12_statement 43 = .ok (.aload_n 0, 1) := by decide +kernel
theorem dX12_statement_44 : decode cX12_statement 44 = .ok (.ldc 228, 2) := by decide +kernel
theorem dX12_statement_46 : decode cX12_statement 46 = .ok (.invokevirtual 161, 3) := by decide +kernel
theorem dX12_statement_49 : decode cX12_statement 49 = .ok (.ifCond .eq 10, 3) := by decide +kernel
theorem dX12_statement_52 : decode cX12_statement 52 = .ok (.aload_n 0, 1) := by decide +kernel
theorem dX12_statement_53 : decode cX12_statement 53 = .ok (.invokevirtual 230, 3) := by decide +kernel
theorem dX12_statement_56 : decode cX12_statement 56 = .ok (.goto 44, 3) := by decide +kernel
theorem dX12_statement_59 : decode cX12_statement 59 = .ok (.aload_n 0, 1) := by decide +kernel
theorem dX12_statement_60 : decode cX12_statement 60 = .ok (.ldc 233, 2) := by decide +kernel
theorem dX12_statement_62 : decode cX12_statement 62 = .ok (.invokevirtual 161, 3) := by decide +kernel
theorem dX12_statement_65 : decode cX12_statement 65 = .ok (.ifCond .eq 11, 3) := by decide +kernel
theorem dX12_statement_68 : decode cX12_statement 68 = .ok (.aload_n 0, 1) := by decide +kernel
theorem dX12_statement_69 : decode cX12_statement 69 = .ok (.iload_n 1, 1) := by decide +kernel
theorem dX12_statement_70 : decode cX12_statement 70 = .ok (.invokevirtual 235, 3) := by decide +kernel
theorem dX12_statement_73 : decode cX12_statement 73 = .ok (.goto 27, 3) := by decide +kernel
theorem dX12_statement_76 : decode cX12_statement 76 = .ok (.aload_n 0, 1) := by decide +kernel
theorem dX12_statement_77 : decode cX12_statement 77 = .ok (.ldc 238, 2) := by decide +kernel
theorem dX12_statement_79 : decode cX12_statement 79 = .ok (.invokevirtual 161, 3) := by decide +kernel
theorem dX12_statement_82 : decode cX12_statement 82 = .ok (.ifCond .eq 11, 3) := by decide +kernel
theorem dX12_statement_85 : decode cX12_statement 85 = .ok (.aload_n 0, 1) := by decide +kernel
theorem dX12_statement_86 : decode cX12_statement 86 = .ok (.iload_n 1, 1) := by decide +kernel
theorem dX12_statement_87 : decode cX12_statement 87 = .ok (.invokevirtual 240, 3) := by decide +kernel
theorem dX12_statement_90 : decode cX12_statement 90 = .ok (.goto 10, 3) := by decide +kernel
theorem dX12_statement_93 : decode cX12_statement 93 = .ok (.aload_n 0, 1) := by decide +kernel
theorem dX12_statement_94 : decode cX12_statement 94 = .ok (.bipush (-2), 2) := by decide +kernel
theorem dX12_statement_96 : decode cX12_statement 96 = .ok (.iload_n 1, 1) := by decide +kernel
theorem dX12_statement_97 : decode cX12_statement 97 = .ok (.invokevirtual 112, 3) := by decide +kernel
theorem dX12_statement_100 : decode cX12_statement 100 = .ok (.aload_n 0, 1) := by decide +kernel
theorem dX12_statement_101 : decode cX12_statement 101 = .ok (.bipush 59, 2) := by decide +kernel
theorem dX12_statement_103 : decode cX12_statement 103 = .ok (.invokevirtual 243, 3) := by decide +kernel
theorem dX12_statement_106 : decode cX12_statement 106 = .ok (.return_, 1) := by decide +kernel
theorem dX12_load_0 : decode cX12_load 0 = .ok (.aload_n 0, 1) := by decide +kernel
theorem dX12_load_1 : decode cX12_load 1 = .ok (.iconst 0, 1) := by decide +kernel
theorem dX12_load_2 : decode cX12_load 2 = .ok (.putfield 69, 3) := by decide +kernel
theorem dX12_load_5 : decode cX12_load 5 = .ok (.aload_n 0, 1) := by decide +kernel
theorem dX12_load_6 : decode cX12_load 6 = .ok (.iload_n 1, 1) := by decide +kernel
theorem dX12_load_7 : decode cX12_load 7 = .ok (.iconst 0, 1) := by decide +kernel
theorem dX12_load_8 : decode cX12_load 8 = .ok (.aload_n 0, 1) := by decide +kernel
theorem dX12_load_9 : decode cX12_load 9 = .ok (.getfield 72, 3) := by decide +kernel
theorem dX12_load_12 : decode cX12_load 12 = .ok (.invokestatic 91, 3) := by decide +kernel
theorem dX12_load_15 : decode cX12_load 15 = .ok (.ifCond .ne 7, 3) := by decide +kernel
theorem dX12_load_18 : decode cX12_load 18 = .ok (.iconst 1, 1) := by decide +kernel
theorem dX12_load_19 : decode cX12_load 19 = .ok (.goto 4, 3) := by decide +kernel
theorem dX12_load_22 : decode cX12_load 22 = .ok (.iconst 0, 1) := by decide +kernel
theorem dX12_load_23 : decode cX12_load 23 = .ok (.iconst 1, 1) := by decide +kernel
theorem dX12_load_24 : decode cX12_load 24 = .ok (.invokevirtual 246, 3) := by decide +kernel
theorem dX12_load_27 : decode cX12_load 27 = .ok (.ifCond .eq 5, 3) := by decide +kernel
theorem dX12_load_30 : decode cX12_load 30 = .ok (.iconst 0, 1) := by decide +kernel
theorem dX12_load_31 : decode cX12_load 31 = .ok (.ireturn, 1) := by decide +kernel
theorem dX12_load_32 : decode cX12_load 32 = .ok (.aload_n 0, 1) := by decide +kernel
theorem dX12_load_33 : decode cX12_load 33 = .ok (.iconst 0, 1) := by decide +kernel
theorem dX12_load_34 : decode cX12_load 34 = .ok (.putfield 72, 3) := by decide +kernel
theorem dX12_load_37 : decode cX12_load 37 = .ok (.aload_n 0, 1) := by decide +kernel
theorem dX12_load_38 : decode cX12_load 38 = .ok (.iload_n 1, 1) := by decide +kernel
theorem dX12_load_39 : decode cX12_load 39 = .ok (.putfield 75, 3) := by decide +kernel
theorem dX12_load_42 : decode cX12_load 42 = .ok (.aload_n 0, 1) := by decide +kernel
theorem dX12_load_43 : decode cX12_load 43 = .ok (.iconst 0, 1) := by decide +kernel
theorem dX12_load_44 : decode cX12_load 44 = .ok (.putfield 78, 3) := by decide +kernel
theorem dX12_load_47 : decode cX12_load 47 = .ok (.aload_n 0, 1) := by decide +kernel
theorem dX12_load_48 : decode cX12_load 48 = .ok (.iconst 0, 1) := by decide +kernel
theorem dX12_load_49 : decode cX12_load 49 = .ok (.putfield 85, 3) := by decide +kernel
theorem dX12_load_52 : decode cX12_load 52 = .ok (.aload_n 0, 1) := by decide +kernel
theorem dX12_load_53 : decode cX12_load 53 = .ok (.iconst (-1), 1) := by decide +kernel
theorem dX12_load_54 : decode cX12_load 54 = .ok (.putfield 88, 3) := by decide +kernel
theorem dX12_load_57 : decode cX12_load 57 = .ok (.aload_n 0, 1) := by decide +kernel
theorem dX12_load_58 : decode cX12_load 58 = .ok (.iconst (-1), 1) := by decide +kernel
theorem dX12_load_59 : decode cX12_load 59 = .ok (.putfield 149, 3) := by decide +kernel
theorem dX12_load_62 : decode cX12_load 62 = .ok (.aload_n 0, 1) := by decide +kernel
theorem dX12_load_63 : decode cX12_load 63 = .ok (.ldc 250, 2) := by decide +kernel
theorem dX12_load_65 : decode cX12_load 65 = .ok (.invokevirtual 161, 3) := by decide +kernel
theorem dX12_load_68 : decode cX12_load 68 = .ok (.ifCond .ne 13, 3) := by decide +kernel
theorem dX12_load_71 : decode cX12_load 71 = .ok (.aload_n 0, 1) := by decide +kernel
theorem dX12_load_72 : decode cX12_load 72 = .ok (.bipush (-2), 2) := by decide +kernel
theorem dX12_load_74 : decode cX12_load 74 = .ok (.aload_n 0, 1) := by decide +kernel
theorem dX12_load_75 : decode cX12_load 75 = .ok (.getfield 78, 3) := by decide +kernel
theorem dX12_load_78 : decode cX12_load 78 = .ok (.invokevirtual 112, 3) := by decide +kernel
theorem dX12_load_81 : decode cX12_load 81 = .ok (.aload_n 0, 1) := by decide +kernel
theorem dX12_load_82 : decode cX12_load 82 = .ok (.iconst 1, 1) := by decide +kernel
theorem dX12_load_83 : decode cX12_load 83 = .ok (.bipush 20, 2) := by decide +kernel
theorem dX12_load_85 : decode cX12_load 85 = .ok (.invokevirtual 128, 3) := by decide +kernel
theorem dX12_load_88 : decode cX12_load 88 = .ok (.istore_n 2, 1) := by decide +kernel
theorem dX12_load_89 : decode cX12_load 89 = .ok (.aload_n 0, 1) := by decide +kernel
theorem dX12_load_90 : decode cX12_load 90 = .ok (.iconst 1, 1) := by decide +kernel
theorem dX12_load_91 : decode cX12_load 91 = .ok (.bipush 20, 2) := by decide +kernel
theorem dX12_load_93 : decode cX12_load 93 = .ok (.invokevirtual 128, 3) := by decide +kernel
theorem dX12_load_96 : decode cX12_load 96 = .ok (.istore_n 3, 1) := by decide +kernel
theorem dX12_load_97 : decode cX12_load 97 = .ok (.aload_n 0, 1) := by decide +kernel
theorem dX12_load_98 : decode cX12_load 98 = .ok (.getfield 20, 3) := by decide +kernel
theorem dX12_load_101 : decode cX12_load 101 = .ok (.iconst 1, 1) := by decide +kernel
theorem dX12_load_102 : decode cX12_load 102 = .ok (.iload_n 2, 1) := by decide +kernel
theorem dX12_load_103 : decode cX12_load 103 = .ok (.invokestatic 252, 3) := by decide +kernel
theorem dX12_load_106 : decode cX12_load 106 = .ok (.iconst 1, 1) := by decide +kernel
theorem dX12_load_107 : decode cX12_load 107 = .ok (.iload_n 3, 1) := by decide +kernel
theorem dX12_load_108 : decode cX12_load 108 = .ok (.invokestatic 252, 3) := by decide +kernel
theorem dX12_load_111 : decode cX12_load 111 = .ok (.invokestatic 65, 3) := by decide +kernel
theorem dX12_load_114 : decode cX12_load 114 = .ok (.aload_n 0, 1) := by decide +kernel
theorem dX12_load_115 : decode cX12_load 115 = .ok (.bipush 59, 2) := by decide +kernel
theorem dX12_load_117 : decode cX12_load 117 = .ok (.invokevirtual 243, 3) := by decide +kernel
theorem dX12_load_120 : decode cX12_load 120 = .ok (.aload_n 0, 1) := by decide +kernel
theorem dX12_load_121 : decode cX12_load 121 = .ok (.invokevirtual 95, 3) := by decide +kernel
theorem dX12_load_124 : decode cX12_load 124 = .ok (.ifCond .eq 18, 3) := by decide +kernel
theorem dX12_load_127 : decode cX12_load 127 = .ok (.aload_n 0, 1) := by decide +kernel
theorem dX12_load_128 : decode cX12_load 128 = .ok (.invokevirtual 99, 3) := by decide +kernel
theorem dX12_load_131 : decode cX12_load 131 = .ok (.iconst (-1), 1) := by decide +kernel
theorem dX12_load_132 : decode cX12_load 132 = .ok (.if_icmp .eq 10, 3) := by decide +kernel
theorem dX12_load_135 : decode cX12_load 135 = .ok (.aload_n 0, 1) := by decide +kernel
theorem dX12_load_136 : decode cX12_load 136 = .ok (.invokevirtual 255, 3) := by decide +kernel
theorem dX12_load_139 : decode cX12_load 139 = .ok (.goto (-19), 3) := by decide +kernel
theorem dX12_load_142 : decode cX12_load 142 = .ok (.aload_n 0, 1) := by decide +kernel
theorem dX12_load_143 : decode cX12_load 143 = .ok (.aload_n 0, 1) := by decide +kernel
theorem dX12_load_144 : decode cX12_load 144 = .ok (.getfield 88, 3) := by decide +kernel
theorem dX12_load_147 : decode cX12_load 147 = .ok (.putfield 13, 3) := by decide +kernel
theorem dX12_load_150 : decode cX12_load 150 = .ok (.aload_n 0, 1) := by decide +kernel
theorem dX12_load_151 : decode cX12_load 151 = .ok (.invokevirtual 95, 3) := by decide +kernel
theorem dX12_load_154 : decode cX12_load 154 = .ok (.ifCond .ne 8, 3) := by decide +kernel
theorem dX12_load_157 : decode cX12_load 157 = .ok (.aload_n 0, 1) := by decide +kernel
theorem dX12_load_158 : decode cX12_load 158 = .ok (.getfield 85, 3) := by decide +kernel
theorem dX12_load_161 : decode cX12_load 161 = .ok (.ireturn, 1) := by decide +kernel
theorem dX12_load_162 : decode cX12_load 162 = .ok (.aload_n 0, 1) := by decide +kernel
theorem dX12_load_163 : decode cX12_load 163 = .ok (.getfield 20, 3) := by decide +kernel
theorem dX12_load_166 : decode cX12_load 166 = .ok (.iconst 4, 1) := by decide +kernel
theorem dX12_load_167 : decode cX12_load 167 = .ok (.aload_n 0, 1) := by decide +kernel
theorem dX12_load_168 : decode cX12_load 168 = .ok (.getfield 149, 3) := by decide +kernel
theorem dX12_load_171 : decode cX12_load 171 = .ok (.iconst (-1), 1) := by decide +kernel
theorem dX12_load_172 : decode cX12_load 172 = .ok (.if_icmp .ne 13, 3) := by decide +kernel
theorem dX12_load_175 : decode cX12_load 175 = .ok (.aload_n 0, 1) := by decide +kernel
theorem dX12_load_176 : decode cX12_load 176 = .ok (.getfield 20, 3) := by decide +kernel
theorem dX12_load_179 : decode cX12_load 179 = .ok (.invokestatic 155, 3) := by decide +kernel
theorem dX12_load_182 : decode cX12_load 182 = .ok (.goto 7, 3) := by decide +kernel
theorem dX12_load_185 : decode cX12_load 185 = .ok (.aload_n 0, 1) := by decide +kernel
theorem dX12_load_186 : decode cX12_load 186 = .ok (.getfield 149, 3) := by decide +kernel
theorem dX12_load_189 : decode cX12_load 189 = .ok (.iastore, 1) := by decide +kernel
theorem dX12_load_190 : decode cX12_load 190 = .ok (.aload_n 0, 1) := by decide +kernel
theorem dX12_load_191 : decode cX12_load 191 = .ok (.invokevirtual 258, 3) := by decide +kernel
theorem dX12_load_194 : decode cX12_load 194 = .ok (.aload_n 0, 1) := by decide +kernel
theorem dX12_load_195 : decode cX12_load 195 = .ok (.getfield 20, 3) := by decide +kernel
theorem dX12_load_198 : decode cX12_load 198 = .ok (.aload_n 0, 1) := by decide +kernel
theorem dX12_load_199 : decode cX12_load 199 = .ok (.getfield 17, 3) := by decide +kernel
theorem dX12_load_202 : decode cX12_load 202 = .ok (.invokestatic 261, 3) := by decide +kernel
theorem dX12_load_205 : decode cX12_load 205 = .ok (.aload_n 0, 1) := by decide +kernel
theorem dX12_load_206 : decode cX12_load 206 = .ok (.getfield 17, 3) := by decide +kernel
theorem dX12_load_209 : decode cX12_load 209 = .ok (.iconst 3, 1) := by decide +kernel
theorem dX12_load_210 : decode cX12_load 210 = .ok (.iaload, 1) := by decide +kernel
theorem dX12_load_211 : decode cX12_load 211 = .ok (.ireturn, 1) := by decide +kernel
theorem dX12_errorOffset_0 : decode cX12_errorOffset 0 = .ok (.aload_n 0, 1) := by decide +kernel
theorem dX12_errorOffset_1 : decode cX12_errorOffset 1 = .ok (.iconst 0, 1) := by decide +kernel
theorem dX12_errorOffset_2 : decode cX12_errorOffset 2 = .ok (.putfield 69, 3) := by decide +kernel
theorem dX12_errorOffset_5 : decode cX12_errorOffset 5 = .ok (.aload_n 0, 1) := by decide +kernel
theorem dX12_errorOffset_6 : decode cX12_errorOffset 6 = .ok (.getfield 13, 3) := by decide +kernel
theorem dX12_errorOffset_9 : decode cX12_errorOffset 9 = .ok (.ireturn, 1) := by decide +kernel
theorem dX12_bendAt_0 : decode cX12_bendAt 0 = .ok (.sipush 816, 3) := by decide +kernel
theorem dX12_bendAt_3 : decode cX12_bendAt 3 = .ok (.iconst 5, 1) := by decide +kernel
theorem dX12_bendAt_4 : decode cX12_bendAt 4 = .ok (.iload_n 0, 1) := by decide +kernel
theorem dX12_bendAt_5 : decode cX12_bendAt 5 = .ok (.imul, 1) := by decide +kernel
theorem dX12_bendAt_6 : decode cX12_bendAt 6 = .ok (.iadd, 1) := by decide +kernel
theorem dX12_bendAt_7 : decode cX12_bendAt 7 = .ok (.ireturn, 1) := by decide +kernel
theorem dX12_clueAt_0 : decode cX12_clueAt 0 = .ok (.sipush 856, 3) := by decide +kernel
theorem dX12_clueAt_3 : decode cX12_clueAt 3 = .ok (.bipush 43, 2) := by decide +kernel
theorem dX12_clueAt_5 : decode cX12_clueAt 5 = .ok (.iload_n 0, 1) := by decide +kernel
theorem dX12_clueAt_6 : decode cX12_clueAt 6 = .ok (.imul, 1) := by decide +kernel
theorem dX12_clueAt_7 : decode cX12_clueAt 7 = .ok (.iadd, 1) := by decide +kernel
theorem dX12_clueAt_8 : decode cX12_clueAt 8 = .ok (.ireturn, 1) := by decide +kernel
theorem dX12_cells_0 : decode cX12_cells 0 = .ok (.aload_n 0, 1) := by decide +kernel
theorem dX12_cells_1 : decode cX12_cells 1 = .ok (.getfield 17, 3) := by decide +kernel
theorem dX12_cells_4 : decode cX12_cells 4 = .ok (.iconst 0, 1) := by decide +kernel
theorem dX12_cells_5 : decode cX12_cells 5 = .ok (.iaload, 1) := by decide +kernel
theorem dX12_cells_6 : decode cX12_cells 6 = .ok (.aload_n 0, 1) := by decide +kernel
theorem dX12_cells_7 : decode cX12_cells 7 = .ok (.getfield 17, 3) := by decide +kernel
theorem dX12_cells_10 : decode cX12_cells 10 = .ok (.iconst 1, 1) := by decide +kernel
theorem dX12_cells_11 : decode cX12_cells 11 = .ok (.iaload, 1) := by decide +kernel
theorem dX12_cells_12 : decode cX12_cells 12 = .ok (.imul, 1) := by decide +kernel
theorem dX12_cells_13 : decode cX12_cells 13 = .ok (.ireturn, 1) := by decide +kernel
theorem dX12_cellAt_0 : decode cX12_cellAt 0 = .ok (.iload_n 2, 1) := by decide +kernel
theorem dX12_cellAt_1 : decode cX12_cellAt 1 = .ok (.aload_n 0, 1) := by decide +kernel
theorem dX12_cellAt_2 : decode cX12_cellAt 2 = .ok (.getfield 17, 3) := by decide +kernel
theorem dX12_cellAt_5 : decode cX12_cellAt 5 = .ok (.iconst 0, 1) := by decide +kernel
theorem dX12_cellAt_6 : decode cX12_cellAt 6 = .ok (.iaload, 1) := by decide +kernel
theorem dX12_cellAt_7 : decode cX12_cellAt 7 = .ok (.imul, 1) := by decide +kernel
theorem dX12_cellAt_8 : decode cX12_cellAt 8 = .ok (.iload_n 1, 1) := by decide +kernel
theorem dX12_cellAt_9 : decode cX12_cellAt 9 = .ok (.iadd, 1) := by decide +kernel
theorem dX12_cellAt_10 : decode cX12_cellAt 10 = .ok (.ireturn, 1) := by decide +kernel
theorem dX12_isLand_0 : decode cX12_isLand 0 = .ok (.aload_n 0, 1) := by decide +kernel
theorem dX12_isLand_1 : decode cX12_isLand 1 = .ok (.getfield 17, 3) := by decide +kernel
theorem dX12_isLand_4 : decode cX12_isLand 4 = .ok (.bipush 8, 2) := by decide +kernel
theorem dX12_isLand_6 : decode cX12_isLand 6 = .ok (.iload_n 1, 1) := by decide +kernel
theorem dX12_isLand_7 : decode cX12_isLand 7 = .ok (.iadd, 1) := by decide +kernel
theorem dX12_isLand_8 : decode cX12_isLand 8 = .ok (.iaload, 1) := by decide +kernel
theorem dX12_isLand_9 : decode cX12_isLand 9 = .ok (.ifCond .ne 7, 3) := by decide +kernel
theorem dX12_isLand_12 : decode cX12_isLand 12 = .ok (.iconst 1, 1) := by decide +kernel
theorem dX12_isLand_13 : decode cX12_isLand 13 = .ok (.goto 4, 3) := by decide +kernel
theorem dX12_isLand_16 : decode cX12_isLand 16 = .ok (.iconst 0, 1) := by decide +kernel
theorem dX12_isLand_17 : decode cX12_isLand 17 = .ok (.ireturn, 1) := by decide +kernel
theorem dX12_eastOf_0 : decode cX12_eastOf 0 = .ok (.iload_n 0, 1) := by decide +kernel
theorem dX12_eastOf_1 : decode cX12_eastOf 1 = .ok (.iconst 4, 1) := by decide +kernel
theorem dX12_eastOf_2 : decode cX12_eastOf 2 = .ok (.irem, 1) := by decide +kernel
theorem dX12_eastOf_3 : decode cX12_eastOf 3 = .ok (.ifCond .ne 7, 3) := by decide +kernel
theorem dX12_eastOf_6 : decode cX12_eastOf 6 = .ok (.iconst 0, 1) := by decide +kernel
theorem dX12_eastOf_7 : decode cX12_eastOf 7 = .ok (.goto 13, 3) := by decide +kernel
theorem dX12_eastOf_10 : decode cX12_eastOf 10 = .ok (.iload_n 0, 1) := by decide +kernel
theorem dX12_eastOf_11 : decode cX12_eastOf 11 = .ok (.iconst 4, 1) := by decide +kernel
theorem dX12_eastOf_12 : decode cX12_eastOf 12 = .ok (.if_icmp .ge 7, 3) := by decide +kernel
theorem dX12_eastOf_15 : decode cX12_eastOf 15 = .ok (.iconst 1, 1) := by decide +kernel
theorem dX12_eastOf_16 : decode cX12_eastOf 16 = .ok (.goto 4, 3) := by decide +kernel
theorem dX12_eastOf_19 : decode cX12_eastOf 19 = .ok (.iconst (-1), 1) := by decide +kernel
theorem dX12_eastOf_20 : decode cX12_eastOf 20 = .ok (.ireturn, 1) := by decide +kernel
theorem dX12_southOf_0 : decode cX12_southOf 0 = .ok (.iload_n 0, 1) := by decide +kernel
theorem dX12_southOf_1 : decode cX12_southOf 1 = .ok (.iconst 4, 1) := by decide +kernel
theorem dX12_southOf_2 : decode cX12_southOf 2 = .ok (.irem, 1) := by decide +kernel
theorem dX12_southOf_3 : decode cX12_southOf 3 = .ok (.iconst 2, 1) := by decide +kernel
theorem dX12_southOf_4 : decode cX12_southOf 4 = .ok (.if_icmp .ne 7, 3) := by decide +kernel
theorem dX12_southOf_7 : decode cX12_southOf 7 = .ok (.iconst 0, 1) := by decide +kernel
theorem dX12_southOf_8 : decode cX12_southOf 8 = .ok (.goto 19, 3) := by decide +kernel
theorem dX12_southOf_11 : decode cX12_southOf 11 = .ok (.iload_n 0, 1) := by decide +kernel
theorem dX12_southOf_12 : decode cX12_southOf 12 = .ok (.iconst 2, 1) := by decide +kernel
theorem dX12_southOf_13 : decode cX12_southOf 13 = .ok (.if_icmp .le 13, 3) := by decide +kernel
theorem dX12_southOf_16 : decode cX12_southOf 16 = .ok (.iload_n 0, 1) := by decide +kernel
theorem dX12_southOf_17 : decode cX12_southOf 17 = .ok (.bipush 6, 2) := by decide +kernel
theorem dX12_southOf_19 : decode cX12_southOf 19 = .ok (.if_icmp .ge 7, 3) := by decide +kernel
theorem dX12_southOf_22 : decode cX12_southOf 22 = .ok (.iconst 1, 1) := by decide +kernel
theorem dX12_southOf_23 : decode cX12_southOf 23 = .ok (.goto 4, 3) := by decide +kernel
theorem dX12_southOf_26 : decode cX12_southOf 26 = .ok (.iconst (-1), 1) := by decide +kernel
theorem dX12_southOf_27 : decode cX12_southOf 27 = .ok (.ireturn, 1) := by decide +kernel
theorem dX12_neighbour_0 : decode cX12_neighbour 0 = .ok (.iload_n 1, 1) := by decide +kernel
theorem dX12_neighbour_1 : decode cX12_neighbour 1 = .ok (.aload_n 0, 1) := by decide +kernel
theorem dX12_neighbour_2 : decode cX12_neighbour 2 = .ok (.getfield 17, 3) := by decide +kernel
theorem dX12_neighbour_5 : decode cX12_neighbour 5 = .ok (.iconst 0, 1) := by decide +kernel
theorem dX12_neighbour_6 : decode cX12_neighbour 6 = .ok (.iaload, 1) := by decide +kernel
theorem dX12_neighbour_7 : decode cX12_neighbour 7 = .ok (.irem, 1) := by decide +kernel
theorem dX12_neighbour_8 : decode cX12_neighbour 8 = .ok (.iload_n 2, 1) := by decide +kernel
theorem dX12_neighbour_9 : decode cX12_neighbour 9 = .ok (.invokestatic 265, 3) := by decide +kernel
theorem dX12_neighbour_12 : decode cX12_neighbour 12 = .ok (.iadd, 1) := by decide +kernel
theorem dX12_neighbour_13 : decode cX12_neighbour 13 = .ok (.istore_n 3, 1) := by decide +kernel
theorem dX12_neighbour_14 : decode cX12_neighbour 14 = .ok (.iload_n 1, 1) := by decide +kernel
theorem dX12_neighbour_15 : decode cX12_neighbour 15 = .ok (.aload_n 0, 1) := by decide +kernel
theorem dX12_neighbour_16 : decode cX12_neighbour 16 = .ok (.getfield 17, 3) := by decide +kernel
theorem dX12_neighbour_19 : decode cX12_neighbour 19 = .ok (.iconst 0, 1) := by decide +kernel
theorem dX12_neighbour_20 : decode cX12_neighbour 20 = .ok (.iaload, 1) := by decide +kernel
theorem dX12_neighbour_21 : decode cX12_neighbour 21 = .ok (.idiv, 1) := by decide +kernel
theorem dX12_neighbour_22 : decode cX12_neighbour 22 = .ok (.iload_n 2, 1) := by decide +kernel
theorem dX12_neighbour_23 : decode cX12_neighbour 23 = .ok (.invokestatic 268, 3) := by decide +kernel
theorem dX12_neighbour_26 : decode cX12_neighbour 26 = .ok (.iadd, 1) := by decide +kernel
theorem dX12_neighbour_27 : decode cX12_neighbour 27 = .ok (.istore 4, 2) := by decide +kernel
theorem dX12_neighbour_29 : decode cX12_neighbour 29 = .ok (.iload_n 3, 1) := by decide +kernel
theorem dX12_neighbour_30 : decode cX12_neighbour 30 = .ok (.iconst 0, 1) := by decide +kernel
theorem dX12_neighbour_31 : decode cX12_neighbour 31 = .ok (.aload_n 0, 1) := by decide +kernel
theorem dX12_neighbour_32 : decode cX12_neighbour 32 = .ok (.getfield 17, 3) := by decide +kernel
theorem dX12_neighbour_35 : decode cX12_neighbour 35 = .ok (.iconst 0, 1) := by decide +kernel
theorem dX12_neighbour_36 : decode cX12_neighbour 36 = .ok (.iaload, 1) := by decide +kernel
theorem dX12_neighbour_37 : decode cX12_neighbour 37 = .ok (.iconst 1, 1) := by decide +kernel
theorem dX12_neighbour_38 : decode cX12_neighbour 38 = .ok (.isub, 1) := by decide +kernel
theorem dX12_neighbour_39 : decode cX12_neighbour 39 = .ok (.invokestatic 91, 3) := by decide +kernel
theorem dX12_neighbour_42 : decode cX12_neighbour 42 = .ok (.ifCond .eq 20, 3) := by decide +kernel
theorem dX12_neighbour_45 : decode cX12_neighbour 45 = .ok (.iload 4, 2) := by decide +kernel
theorem dX12_neighbour_47 : decode cX12_neighbour 47 = .ok (.iconst 0, 1) := by decide +kernel
theorem dX12_neighbour_48 : decode cX12_neighbour 48 = .ok (.aload_n 0, 1) := by decide +kernel
theorem dX12_neighbour_49 : decode cX12_neighbour 49 = .ok (.getfield 17, 3) := by decide +kernel
theorem dX12_neighbour_52 : decode cX12_neighbour 52 = .ok (.iconst 1, 1) := by decide +kernel
theorem dX12_neighbour_53 : decode cX12_neighbour 53 = .ok (.iaload, 1) := by decide +kernel
theorem dX12_neighbour_54 : decode cX12_neighbour 54 = .ok (.iconst 1, 1) := by decide +kernel
theorem dX12_neighbour_55 : decode cX12_neighbour 55 = .ok (.isub, 1) := by decide +kernel
theorem dX12_neighbour_56 : decode cX12_neighbour 56 = .ok (.invokestatic 91, 3) := by decide +kernel
theorem dX12_neighbour_59 : decode cX12_neighbour 59 = .ok (.ifCond .ne 5, 3) := by decide +kernel
theorem dX12_neighbour_62 : decode cX12_neighbour 62 = .ok (.iconst (-1), 1) := by decide +kernel
theorem dX12_neighbour_63 : decode cX12_neighbour 63 = .ok (.ireturn, 1) := by decide +kernel
theorem dX12_neighbour_64 : decode cX12_neighbour 64 = .ok (.aload_n 0, 1) := by decide +kernel
theorem dX12_neighbour_65 : decode cX12_neighbour 65 = .ok (.aload_n 0, 1) := by decide +kernel
theorem dX12_neighbour_66 : decode cX12_neighbour 66 = .ok (.iload_n 3, 1) := by decide +kernel
theorem dX12_neighbour_67 : decode cX12_neighbour 67 = .ok (.iload 4, 2) := by decide +kernel
theorem dX12_neighbour_69 : decode cX12_neighbour 69 = .ok (.invokevirtual 271, 3) := by decide +kernel
theorem dX12_neighbour_72 : decode cX12_neighbour 72 = .ok (.invokevirtual 274, 3) := by decide +kernel
theorem dX12_neighbour_75 : decode cX12_neighbour 75 = .ok (.ifCond .eq 13, 3) := by decide +kernel
theorem dX12_neighbour_78 : decode cX12_neighbour 78 = .ok (.aload_n 0, 1) := by decide +kernel
theorem dX12_neighbour_79 : decode cX12_neighbour 79 = .ok (.iload_n 3, 1) := by decide +kernel
theorem dX12_neighbour_80 : decode cX12_neighbour 80 = .ok (.iload 4, 2) := by decide +kernel
theorem dX12_neighbour_82 : decode cX12_neighbour 82 = .ok (.invokevirtual 271, 3) := by decide +kernel
theorem dX12_neighbour_85 : decode cX12_neighbour 85 = .ok (.goto 4, 3) := by decide +kernel
theorem dX12_neighbour_88 : decode cX12_neighbour 88 = .ok (.iconst (-1), 1) := by decide +kernel
theorem dX12_neighbour_89 : decode cX12_neighbour 89 = .ok (.ireturn, 1) := by decide +kernel
theorem dX12_step_0 : decode cX12_step 0 = .ok (.iload_n 1, 1) := by decide +kernel
theorem dX12_step_1 : decode cX12_step 1 = .ok (.aload_n 0, 1) := by decide +kernel
theorem dX12_step_2 : decode cX12_step 2 = .ok (.getfield 17, 3) := by decide +kernel
theorem dX12_step_5 : decode cX12_step 5 = .ok (.iconst 0, 1) := by decide +kernel
theorem dX12_step_6 : decode cX12_step 6 = .ok (.iaload, 1) := by decide +kernel
theorem dX12_step_7 : decode cX12_step 7 = .ok (.irem, 1) := by decide +kernel
theorem dX12_step_8 : decode cX12_step 8 = .ok (.istore_n 3, 1) := by decide +kernel
theorem dX12_step_9 : decode cX12_step 9 = .ok (.iload_n 1, 1) := by decide +kernel
theorem dX12_step_10 : decode cX12_step 10 = .ok (.aload_n 0, 1) := by decide +kernel
theorem dX12_step_11 : decode cX12_step 11 = .ok (.getfield 17, 3) := by decide +kernel
theorem dX12_step_14 : decode cX12_step 14 = .ok (.iconst 0, 1) := by decide +kernel
theorem dX12_step_15 : decode cX12_step 15 = .ok (.iaload, 1) := by decide +kernel
theorem dX12_step_16 : decode cX12_step 16 = .ok (.idiv, 1) := by decide +kernel
theorem dX12_step_17 : decode cX12_step 17 = .ok (.istore 4, 2) := by decide +kernel
theorem dX12_step_19 : decode cX12_step 19 = .ok (.iload_n 2, 1) := by decide +kernel
theorem dX12_step_20 : decode cX12_step 20 = .ok (.bipush 24, 2) := by decide +kernel
theorem dX12_step_22 : decode cX12_step 22 = .ok (.iadd, 1) := by decide +kernel
theorem dX12_step_23 : decode cX12_step 23 = .ok (.istore 5, 2) := by decide +kernel
theorem dX12_step_25 : decode cX12_step 25 = .ok (.iconst 0, 1) := by decide +kernel
theorem dX12_step_26 : decode cX12_step 26 = .ok (.istore 6, 2) := by decide +kernel
theorem dX12_step_28 : decode cX12_step 28 = .ok (.iload 6, 2) := by decide +kernel
theorem dX12_step_30 : decode cX12_step 30 = .ok (.aload_n 0, 1) := by decide +kernel
theorem dX12_step_31 : decode cX12_step 31 = .ok (.getfield 17, 3) := by decide +kernel
theorem dX12_step_34 : decode cX12_step 34 = .ok (.iconst 2, 1) := by decide +kernel
theorem dX12_step_35 : decode cX12_step 35 = .ok (.iaload, 1) := by decide +kernel
theorem dX12_step_36 : decode cX12_step 36 = .ok (.if_icmp .ge 79, 3) := by decide +kernel
theorem dX12_step_39 : decode cX12_step 39 = .ok (.iload 6, 2) := by decide +kernel
theorem dX12_step_41 : decode cX12_step 41 = .ok (.invokestatic 167, 3) := by decide +kernel
theorem dX12_step_44 : decode cX12_step 44 = .ok (.istore 7, 2) := by decide +kernel
theorem dX12_step_46 : decode cX12_step 46 = .ok (.iload_n 3, 1) := by decide +kernel
theorem dX12_step_47 : decode cX12_step 47 = .ok (.aload_n 0, 1) := by decide +kernel
theorem dX12_step_48 : decode cX12_step 48 = .ok (.getfield 17, 3) := by decide +kernel
theorem dX12_step_51 : decode cX12_step 51 = .ok (.iload 7, 2) := by decide +kernel
theorem dX12_step_53 : decode cX12_step 53 = .ok (.iaload, 1) := by decide +kernel
theorem dX12_step_54 : decode cX12_step 54 = .ok (.aload_n 0, 1) := by decide +kernel
theorem dX12_step_55 : decode cX12_step 55 = .ok (.getfield 17, 3) := by decide +kernel
theorem dX12_step_58 : decode cX12_step 58 = .ok (.iload 7, 2) := by decide +kernel
theorem dX12_step_60 : decode cX12_step 60 = .ok (.iconst 2, 1) := by decide +kernel
theorem dX12_step_61 : decode cX12_step 61 = .ok (.iadd, 1) := by decide +kernel
theorem dX12_step_62 : decode cX12_step 62 = .ok (.iaload, 1) := by decide +kernel
theorem dX12_step_63 : decode cX12_step 63 = .ok (.invokestatic 91, 3) := by decide +kernel
theorem dX12_step_66 : decode cX12_step 66 = .ok (.ifCond .eq 43, 3) := by decide +kernel
theorem dX12_step_69 : decode cX12_step 69 = .ok (.iload 4, 2) := by decide +kernel
theorem dX12_step_71 : decode cX12_step 71 = .ok (.aload_n 0, 1) := by decide +kernel
theorem dX12_step_72 : decode cX12_step 72 = .ok (.getfield 17, 3) := by decide +kernel
theorem dX12_step_75 : decode cX12_step 75 = .ok (.iload 7, 2) := by decide +kernel
theorem dX12_step_77 : decode cX12_step 77 = .ok (.iconst 1, 1) := by decide +kernel
theorem dX12_step_78 : decode cX12_step 78 = .ok (.iadd, 1) := by decide +kernel
theorem dX12_step_79 : decode cX12_step 79 = .ok (.iaload, 1) := by decide +kernel
theorem dX12_step_80 : decode cX12_step 80 = .ok (.aload_n 0, 1) := by decide +kernel
theorem dX12_step_81 : decode cX12_step 81 = .ok (.getfield 17, 3) := by decide +kernel
theorem dX12_step_84 : decode cX12_step 84 = .ok (.iload 7, 2) := by decide +kernel
theorem dX12_step_86 : decode cX12_step 86 = .ok (.iconst 3, 1) := by decide +kernel
theorem dX12_step_87 : decode cX12_step 87 = .ok (.iadd, 1) := by decide +kernel
theorem dX12_step_88 : decode cX12_step 88 = .ok (.iaload, 1) := by decide +kernel
theorem dX12_step_89 : decode cX12_step 89 = .ok (.invokestatic 91, 3) := by decide +kernel
theorem dX12_step_92 : decode cX12_step 92 = .ok (.ifCond .eq 17, 3) := by decide +kernel
theorem dX12_step_95 : decode cX12_step 95 = .ok (.iload 5, 2) := by decide +kernel
theorem dX12_step_97 : decode cX12_step 97 = .ok (.aload_n 0, 1) := by decide +kernel
theorem dX12_step_98 : decode cX12_step 98 = .ok (.getfield 17, 3) := by decide +kernel
theorem dX12_step_101 : decode cX12_step 101 = .ok (.iload 7, 2) := by decide +kernel
theorem dX12_step_103 : decode cX12_step 103 = .ok (.iconst 4, 1) := by decide +kernel
theorem dX12_step_104 : decode cX12_step 104 = .ok (.iadd, 1) := by decide +kernel
theorem dX12_step_105 : decode cX12_step 105 = .ok (.iaload, 1) := by decide +kernel
theorem dX12_step_106 : decode cX12_step 106 = .ok (.iadd, 1) := by decide +kernel
theorem dX12_step_107 : decode cX12_step 107 = .ok (.istore 5, 2) := by decide +kernel
theorem dX12_step_109 : decode cX12_step 109 = .ok (.iinc 6 1, 3) := by decide +kernel
theorem dX12_step_112 : decode cX12_step 112 = .ok (.goto (-84), 3) := by decide +kernel
theorem dX12_step_115 : decode cX12_step 115 = .ok (.aload_n 0, 1) := by decide +kernel
theorem dX12_step_116 : decode cX12_step 116 = .ok (.iload_n 1, 1) := by decide +kernel
theorem dX12_step_117 : decode cX12_step 117 = .ok (.iload 5, 2) := by decide +kernel
theorem dX12_step_119 : decode cX12_step 119 = .ok (.bipush 8, 2) := by decide +kernel
theorem dX12_step_121 : decode cX12_step 121 = .ok (.irem, 1) := by decide +kernel
theorem dX12_step_122 : decode cX12_step 122 = .ok (.invokevirtual 277, 3) := by decide +kernel
theorem dX12_step_125 : decode cX12_step 125 = .ok (.ireturn, 1) := by decide +kernel
theorem dX12_layEnds_0 : decode cX12_layEnds 0 = .ok (.aload_n 0, 1) := by decide +kernel
theorem dX12_layEnds_1 : decode cX12_layEnds 1 = .ok (.getfield 17, 3) := by decide +kernel
theorem dX12_layEnds_4 : decode cX12_layEnds 4 = .ok (.iload_n 1, 1) := by decide +kernel
theorem dX12_layEnds_5 : decode cX12_layEnds 5 = .ok (.iconst 0, 1) := by decide +kernel
theorem dX12_layEnds_6 : decode cX12_layEnds 6 = .ok (.iadd, 1) := by decide +kernel
theorem dX12_layEnds_7 : decode cX12_layEnds 7 = .ok (.iaload, 1) := by decide +kernel
theorem dX12_layEnds_8 : decode cX12_layEnds 8 = .ok (.istore_n 3, 1) := by decide +kernel
theorem dX12_layEnds_9 : decode cX12_layEnds 9 = .ok (.iload_n 3, 1) := by decide +kernel
theorem dX12_layEnds_10 : decode cX12_layEnds 10 = .ok (.ifCond .ne 23, 3) := by decide +kernel
theorem dX12_layEnds_13 : decode cX12_layEnds 13 = .ok (.aload_n 0, 1) := by decide +kernel
theorem dX12_layEnds_14 : decode cX12_layEnds 14 = .ok (.getfield 17, 3) := by decide +kernel
theorem dX12_layEnds_17 : decode cX12_layEnds 17 = .ok (.iload_n 1, 1) := by decide +kernel
theorem dX12_layEnds_18 : decode cX12_layEnds 18 = .ok (.iconst 1, 1) := by decide +kernel
theorem dX12_layEnds_19 : decode cX12_layEnds 19 = .ok (.iadd, 1) := by decide +kernel
theorem dX12_layEnds_20 : decode cX12_layEnds 20 = .ok (.iaload, 1) := by decide +kernel
theorem dX12_layEnds_21 : decode cX12_layEnds 21 = .ok (.aload_n 0, 1) := by decide +kernel
theorem dX12_layEnds_22 : decode cX12_layEnds 22 = .ok (.getfield 17, 3) := by decide +kernel
theorem dX12_layEnds_25 : decode cX12_layEnds 25 = .ok (.iload_n 1, 1) := by decide +kernel
theorem dX12_layEnds_26 : decode cX12_layEnds 26 = .ok (.iconst 2, 1) := by decide +kernel
theorem dX12_layEnds_27 : decode cX12_layEnds 27 = .ok (.iadd, 1) := by decide +kernel
theorem dX12_layEnds_28 : decode cX12_layEnds 28 = .ok (.iaload, 1) := by decide +kernel
theorem dX12_layEnds_29 : decode cX12_layEnds 29 = .ok (.iadd, 1) := by decide +kernel
theorem dX12_layEnds_30 : decode cX12_layEnds 30 = .ok (.goto 5, 3) := by decide +kernel
theorem dX12_layEnds_33 : decode cX12_layEnds 33 = .ok (.bipush 60, 2) := by decide +kernel
theorem dX12_layEnds_35 : decode cX12_layEnds 35 = .ok (.istore 4, 2) := by decide +kernel
theorem dX12_layEnds_37 : decode cX12_layEnds 37 = .ok (.iload_n 3, 1) := by decide +kernel
theorem dX12_layEnds_38 : decode cX12_layEnds 38 = .ok (.ifCond .ne 23, 3) := by decide +kernel
theorem dX12_layEnds_41 : decode cX12_layEnds 41 = .ok (.aload_n 0, 1) := by decide +kernel
theorem dX12_layEnds_42 : decode cX12_layEnds 42 = .ok (.getfield 17, 3) := by decide +kernel
theorem dX12_layEnds_45 : decode cX12_layEnds 45 = .ok (.iload_n 1, 1) := by decide +kernel
theorem dX12_layEnds_46 : decode cX12_layEnds 46 = .ok (.iconst 1, 1) := by decide +kernel
theorem dX12_layEnds_47 : decode cX12_layEnds 47 = .ok (.iadd, 1) := by decide +kernel
theorem dX12_layEnds_48 : decode cX12_layEnds 48 = .ok (.iaload, 1) := by decide +kernel
theorem dX12_layEnds_49 : decode cX12_layEnds 49 = .ok (.aload_n 0, 1) := by decide +kernel
theorem dX12_layEnds_50 : decode cX12_layEnds 50 = .ok (.getfield 17, 3) := by decide +kernel
theorem dX12_layEnds_53 : decode cX12_layEnds 53 = .ok (.iload_n 1, 1) := by decide +kernel
theorem dX12_layEnds_54 : decode cX12_layEnds 54 = .ok (.iconst 2, 1) := by decide +kernel
theorem dX12_layEnds_55 : decode cX12_layEnds 55 = .ok (.iadd, 1) := by decide +kernel
theorem dX12_layEnds_56 : decode cX12_layEnds 56 = .ok (.iaload, 1) := by decide +kernel
theorem dX12_layEnds_57 : decode cX12_layEnds 57 = .ok (.isub, 1) := by decide +kernel
theorem dX12_layEnds_58 : decode cX12_layEnds 58 = .ok (.goto 4, 3) := by decide +kernel
theorem dX12_layEnds_61 : decode cX12_layEnds 61 = .ok (.iconst 0, 1) := by decide +kernel
theorem dX12_layEnds_62 : decode cX12_layEnds 62 = .ok (.istore 5, 2) := by decide +kernel
theorem dX12_layEnds_64 : decode cX12_layEnds 64 = .ok (.iconst 0, 1) := by decide +kernel
theorem dX12_layEnds_65 : decode cX12_layEnds 65 = .ok (.istore 6, 2) := by decide +kernel
theorem dX12_layEnds_67 : decode cX12_layEnds 67 = .ok (.iload_n 2, 1) := by decide +kernel
theorem dX12_layEnds_68 : decode cX12_layEnds 68 = .ok (.istore 7, 2) := by decide +kernel
theorem dX12_layEnds_70 : decode cX12_layEnds 70 = .ok (.iconst 0, 1) := by decide +kernel
theorem dX12_layEnds_71 : decode cX12_layEnds 71 = .ok (.istore 8, 2) := by decide +kernel
theorem dX12_layEnds_73 : decode cX12_layEnds 73 = .ok (.iload 8, 2) := by decide +kernel
theorem dX12_layEnds_75 : decode cX12_layEnds 75 = .ok (.iload 4, 2) := by decide +kernel
theorem dX12_layEnds_77 : decode cX12_layEnds 77 = .ok (.if_icmp .gt 142, 3) := by decide +kernel
theorem dX12_layEnds_80 : decode cX12_layEnds 80 = .ok (.iload 7, 2) := by decide +kernel
theorem dX12_layEnds_82 : decode cX12_layEnds 82 = .ok (.iconst (-1), 1) := by decide +kernel
theorem dX12_layEnds_83 : decode cX12_layEnds 83 = .ok (.if_icmp .eq 136, 3) := by decide +kernel
theorem dX12_layEnds_86 : decode cX12_layEnds 86 = .ok (.aload_n 0, 1) := by decide +kernel
theorem dX12_layEnds_87 : decode cX12_layEnds 87 = .ok (.iload 7, 2) := by decide +kernel
theorem dX12_layEnds_89 : decode cX12_layEnds 89 = .ok (.aload_n 0, 1) := by decide +kernel
theorem dX12_layEnds_90 : decode cX12_layEnds 90 = .ok (.getfield 17, 3) := by decide +kernel
theorem dX12_layEnds_93 : decode cX12_layEnds 93 = .ok (.iload_n 1, 1) := by decide +kernel
theorem dX12_layEnds_94 : decode cX12_layEnds 94 = .ok (.iconst 3, 1) := by decide +kernel
theorem dX12_layEnds_95 : decode cX12_layEnds 95 = .ok (.iadd, 1) := by decide +kernel
theorem dX12_layEnds_96 : decode cX12_layEnds 96 = .ok (.iaload, 1) := by decide +kernel
theorem dX12_layEnds_97 : decode cX12_layEnds 97 = .ok (.invokevirtual 280, 3) := by decide +kernel
theorem dX12_layEnds_100 : decode cX12_layEnds 100 = .ok (.istore 9, 2) := by decide +kernel
theorem dX12_layEnds_102 : decode cX12_layEnds 102 = .ok (.iload_n 3, 1) := by decide +kernel
theorem dX12_layEnds_103 : decode cX12_layEnds 103 = .ok (.ifCond .ne 18, 3) := by decide +kernel
theorem dX12_layEnds_106 : decode cX12_layEnds 106 = .ok (.iload 8, 2) := by decide +kernel
theorem dX12_layEnds_108 : decode cX12_layEnds 108 = .ok (.iload 5, 2) := by decide +kernel
theorem dX12_layEnds_110 : decode cX12_layEnds 110 = .ok (.if_icmp .lt 7, 3) := by decide +kernel
theorem dX12_layEnds_113 : decode cX12_layEnds 113 = .ok (.iconst 1, 1) := by decide +kernel
theorem dX12_layEnds_114 : decode cX12_layEnds 114 = .ok (.goto 60, 3) := by decide +kernel
theorem dX12_layEnds_117 : decode cX12_layEnds 117 = .ok (.iconst 0, 1) := by decide +kernel
theorem dX12_layEnds_118 : decode cX12_layEnds 118 = .ok (.goto 56, 3) := by decide +kernel
theorem dX12_layEnds_121 : decode cX12_layEnds 121 = .ok (.iload_n 3, 1) := by decide +kernel
theorem dX12_layEnds_122 : decode cX12_layEnds 122 = .ok (.iconst 1, 1) := by decide +kernel
theorem dX12_layEnds_123 : decode cX12_layEnds 123 = .ok (.if_icmp .ne 33, 3) := by decide +kernel
theorem dX12_layEnds_126 : decode cX12_layEnds 126 = .ok (.iload 7, 2) := by decide +kernel
theorem dX12_layEnds_128 : decode cX12_layEnds 128 = .ok (.aload_n 0, 1) := by decide +kernel
theorem dX12_layEnds_129 : decode cX12_layEnds 129 = .ok (.getfield 17, 3) := by decide +kernel
theorem dX12_layEnds_132 : decode cX12_layEnds 132 = .ok (.sipush 808, 3) := by decide +kernel
theorem dX12_layEnds_135 : decode cX12_layEnds 135 = .ok (.aload_n 0, 1) := by decide +kernel
theorem dX12_layEnds_136 : decode cX12_layEnds 136 = .ok (.getfield 17, 3) := by decide +kernel
theorem dX12_layEnds_139 : decode cX12_layEnds 139 = .ok (.iload_n 1, 1) := by decide +kernel
theorem dX12_layEnds_140 : decode cX12_layEnds 140 = .ok (.iconst 1, 1) := by decide +kernel
theorem dX12_layEnds_141 : decode cX12_layEnds 141 = .ok (.iadd, 1) := by decide +kernel
theorem dX12_layEnds_142 : decode cX12_layEnds 142 = .ok (.iaload, 1) := by decide +kernel
theorem dX12_layEnds_143 : decode cX12_layEnds 143 = .ok (.iadd, 1) := by decide +kernel
theorem dX12_layEnds_144 : decode cX12_layEnds 144 = .ok (.iaload, 1) := by decide +kernel
theorem dX12_layEnds_145 : decode cX12_layEnds 145 = .ok (.if_icmp .ne 7, 3) := by decide +kernel
theorem dX12_layEnds_148 : decode cX12_layEnds 148 = .ok (.iconst 1, 1) := by decide +kernel
theorem dX12_layEnds_149 : decode cX12_layEnds 149 = .ok (.goto 25, 3) := by decide +kernel
theorem dX12_layEnds_152 : decode cX12_layEnds 152 = .ok (.iconst 0, 1) := by decide +kernel
theorem dX12_layEnds_153 : decode cX12_layEnds 153 = .ok (.goto 21, 3) := by decide +kernel
theorem dX12_layEnds_156 : decode cX12_layEnds 156 = .ok (.iload 9, 2) := by decide +kernel
theorem dX12_layEnds_158 : decode cX12_layEnds 158 = .ok (.iconst (-1), 1) := by decide +kernel
theorem dX12_layEnds_159 : decode cX12_layEnds 159 = .ok (.if_icmp .ne 14, 3) := by decide +kernel
theorem dX12_layEnds_162 : decode cX12_layEnds 162 = .ok (.iload 8, 2) := by decide +kernel
theorem dX12_layEnds_164 : decode cX12_layEnds 164 = .ok (.bipush 60, 2) := by decide +kernel
theorem dX12_layEnds_166 : decode cX12_layEnds 166 = .ok (.if_icmp .ge 7, 3) := by decide +kernel
theorem dX12_layEnds_169 : decode cX12_layEnds 169 = .ok (.iconst 1, 1) := by decide +kernel
theorem dX12_layEnds_170 : decode cX12_layEnds 170 = .ok (.goto 4, 3) := by decide +kernel
theorem dX12_layEnds_173 : decode cX12_layEnds 173 = .ok (.iconst 0, 1) := by decide +kernel
theorem dX12_layEnds_174 : decode cX12_layEnds 174 = .ok (.istore 10, 2) := by decide +kernel
theorem dX12_layEnds_176 : decode cX12_layEnds 176 = .ok (.iload 10, 2) := by decide +kernel
theorem dX12_layEnds_178 : decode cX12_layEnds 178 = .ok (.ifCond .eq 31, 3) := by decide +kernel
theorem dX12_layEnds_181 : decode cX12_layEnds 181 = .ok (.aload_n 0, 1) := by decide +kernel
theorem dX12_layEnds_182 : decode cX12_layEnds 182 = .ok (.getfield 28, 3) := by decide +kernel
theorem dX12_layEnds_185 : decode cX12_layEnds 185 = .ok (.iload 6, 2) := by decide +kernel
theorem dX12_layEnds_187 : decode cX12_layEnds 187 = .ok (.iload 7, 2) := by decide +kernel
theorem dX12_layEnds_189 : decode cX12_layEnds 189 = .ok (.iastore, 1) := by decide +kernel
theorem dX12_layEnds_190 : decode cX12_layEnds 190 = .ok (.aload_n 0, 1) := by decide +kernel
theorem dX12_layEnds_191 : decode cX12_layEnds 191 = .ok (.getfield 31, 3) := by decide +kernel
theorem dX12_layEnds_194 : decode cX12_layEnds 194 = .ok (.iload 6, 2) := by decide +kernel
theorem dX12_layEnds_196 : decode cX12_layEnds 196 = .ok (.iload 8, 2) := by decide +kernel
theorem dX12_layEnds_198 : decode cX12_layEnds 198 = .ok (.iastore, 1) := by decide +kernel
theorem dX12_layEnds_199 : decode cX12_layEnds 199 = .ok (.iinc 6 1, 3) := by decide +kernel
theorem dX12_layEnds_202 : decode cX12_layEnds 202 = .ok (.iload_n 3, 1) := by decide +kernel
theorem dX12_layEnds_203 : decode cX12_layEnds 203 = .ok (.ifCond .eq 6, 3) := by decide +kernel
theorem dX12_layEnds_206 : decode cX12_layEnds 206 = .ok (.iload 6, 2) := by decide +kernel
theorem dX12_layEnds_208 : decode cX12_layEnds 208 = .ok (.ireturn, 1) := by decide +kernel
theorem dX12_layEnds_209 : decode cX12_layEnds 209 = .ok (.iload 9, 2) := by decide +kernel
theorem dX12_layEnds_211 : decode cX12_layEnds 211 = .ok (.istore 7, 2) := by decide +kernel
theorem dX12_layEnds_213 : decode cX12_layEnds 213 = .ok (.iinc 8 1, 3) := by decide +kernel
theorem dX12_layEnds_216 : decode cX12_layEnds 216 = .ok (.goto (-143), 3) := by decide +kernel
theorem dX12_layEnds_219 : decode cX12_layEnds 219 = .ok (.iload 6, 2) := by decide +kernel
theorem dX12_layEnds_221 : decode cX12_layEnds 221 = .ok (.ireturn, 1) := by decide +kernel
theorem dX12_legAt_0 : decode cX12_legAt 0 = .ok (.iload_n 0, 1) := by decide +kernel
theorem dX12_legAt_1 : decode cX12_legAt 1 = .ok (.invokestatic 200, 3) := by decide +kernel
theorem dX12_legAt_4 : decode cX12_legAt 4 = .ok (.bipush 11, 2) := by decide +kernel
theorem dX12_legAt_6 : decode cX12_legAt 6 = .ok (.iadd, 1) := by decide +kernel
theorem dX12_legAt_7 : decode cX12_legAt 7 = .ok (.iconst 4, 1) := by decide +kernel
theorem dX12_legAt_8 : decode cX12_legAt 8 = .ok (.iload_n 1, 1) := by decide +kernel
theorem dX12_legAt_9 : decode cX12_legAt 9 = .ok (.imul, 1) := by decide +kernel
theorem dX12_legAt_10 : decode cX12_legAt 10 = .ok (.iadd, 1) := by decide +kernel
theorem dX12_legAt_11 : decode cX12_legAt 11 = .ok (.ireturn, 1) := by decide +kernel
theorem dX12_legs_0 : decode cX12_legs 0 = .ok (.aload_n 0, 1) := by decide +kernel
theorem dX12_legs_1 : decode cX12_legs 1 = .ok (.getfield 17, 3) := by decide +kernel
theorem dX12_legs_4 : decode cX12_legs 4 = .ok (.iload_n 1, 1) := by decide +kernel
theorem dX12_legs_5 : decode cX12_legs 5 = .ok (.invokestatic 200, 3) := by decide +kernel
theorem dX12_legs_8 : decode cX12_legs 8 = .ok (.iconst 2, 1) := by decide +kernel
theorem dX12_legs_9 : decode cX12_legs 9 = .ok (.iadd, 1) := by decide +kernel
theorem dX12_legs_10 : decode cX12_legs 10 = .ok (.iaload, 1) := by decide +kernel
theorem dX12_legs_11 : decode cX12_legs 11 = .ok (.ireturn, 1) := by decide +kernel
theorem dX12_startOf_0 : decode cX12_startOf 0 = .ok (.aload_n 0, 1) := by decide +kernel
theorem dX12_startOf_1 : decode cX12_startOf 1 = .ok (.getfield 17, 3) := by decide +kernel
theorem dX12_startOf_4 : decode cX12_startOf 4 = .ok (.sipush 808, 3) := by decide +kernel
theorem dX12_startOf_7 : decode cX12_startOf 7 = .ok (.aload_n 0, 1) := by decide +kernel
theorem dX12_startOf_8 : decode cX12_startOf 8 = .ok (.getfield 17, 3) := by decide +kernel
theorem dX12_startOf_11 : decode cX12_startOf 11 = .ok (.iload_n 1, 1) := by decide +kernel
theorem dX12_startOf_12 : decode cX12_startOf 12 = .ok (.invokestatic 200, 3) := by decide +kernel
theorem dX12_startOf_15 : decode cX12_startOf 15 = .ok (.iconst 3, 1) := by decide +kernel
theorem dX12_startOf_16 : decode cX12_startOf 16 = .ok (.iadd, 1) := by decide +kernel
theorem dX12_startOf_17 : decode cX12_startOf 17 = .ok (.iload_n 2, 1) := by decide +kernel
theorem dX12_startOf_18 : decode cX12_startOf 18 = .ok (.iadd, 1) := by decide +kernel
theorem dX12_startOf_19 : decode cX12_startOf 19 = .ok (.iaload, 1) := by decide +kernel
theorem dX12_startOf_20 : decode cX12_startOf 20 = .ok (.iadd, 1) := by decide +kernel
theorem dX12_startOf_21 : decode cX12_startOf 21 = .ok (.iaload, 1) := by decide +kernel
theorem dX12_startOf_22 : decode cX12_startOf 22 = .ok (.ireturn, 1) := by decide +kernel
theorem dX12_lay_0 : decode cX12_lay 0 = .ok (.aload_n 0, 1) := by decide +kernel
theorem dX12_lay_1 : decode cX12_lay 1 = .ok (.getfield 283, 3) := by decide +kernel
theorem dX12_lay_4 : decode cX12_lay 4 = .ok (.ifCond .eq 4, 3) := by decide +kernel
theorem dX12_lay_7 : decode cX12_lay 7 = .ok (.return_, 1) := by decide +kernel
theorem dX12_lay_8 : decode cX12_lay 8 = .ok (.aload_n 0, 1) := by decide +kernel
theorem dX12_lay_9 : decode cX12_lay 9 = .ok (.iconst 1, 1) := by decide +kernel
theorem dX12_lay_10 : decode cX12_lay 10 = .ok (.putfield 283, 3) := by decide +kernel
theorem dX12_lay_13 : decode cX12_lay 13 = .ok (.iconst 0, 1) := by decide +kernel
theorem dX12_lay_14 : decode cX12_lay 14 = .ok (.istore_n 1, 1) := by decide +kernel
theorem dX12_lay_15 : decode cX12_lay 15 = .ok (.iload_n 1, 1) := by decide +kernel
theorem dX12_lay_16 : decode cX12_lay 16 = .ok (.aload_n 0, 1) := by decide +kernel
theorem dX12_lay_17 : decode cX12_lay 17 = .ok (.getfield 17, 3) := by decide +kernel
theorem dX12_lay_20 : decode cX12_lay 20 = .ok (.iconst 3, 1) := by decide +kernel
theorem dX12_lay_21 : decode cX12_lay 21 = .ok (.iaload, 1) := by decide +kernel
theorem dX12_lay_22 : decode cX12_lay 22 = .ok (.if_icmp .ge 115, 3) := by decide +kernel
theorem dX12_lay_25 : decode cX12_lay 25 = .ok (.iconst 0, 1) := by decide +kernel
theorem dX12_lay_26 : decode cX12_lay 26 = .ok (.istore_n 2, 1) := by decide +kernel
theorem dX12_lay_27 : decode cX12_lay 27 = .ok (.iload_n 2, 1) := by decide +kernel
theorem dX12_lay_28 : decode cX12_lay 28 = .ok (.aload_n 0, 1) := by decide +kernel
theorem dX12_lay_29 : decode cX12_lay 29 = .ok (.iload_n 1, 1) := by decide +kernel
theorem dX12_lay_30 : decode cX12_lay 30 = .ok (.invokevirtual 287, 3) := by decide +kernel
theorem dX12_lay_33 : decode cX12_lay 33 = .ok (.if_icmp .gt 36, 3) := by decide +kernel
theorem dX12_lay_36 : decode cX12_lay 36 = .ok (.iconst 0, 1) := by decide +kernel
theorem dX12_lay_37 : decode cX12_lay 37 = .ok (.istore_n 3, 1) := by decide +kernel
theorem dX12_lay_38 : decode cX12_lay 38 = .ok (.iload_n 3, 1) := by decide +kernel
theorem dX12_lay_39 : decode cX12_lay 39 = .ok (.aload_n 0, 1) := by decide +kernel
theorem dX12_lay_40 : decode cX12_lay 40 = .ok (.invokevirtual 290, 3) := by decide +kernel
theorem dX12_lay_43 : decode cX12_lay 43 = .ok (.if_icmp .ge 20, 3) := by decide +kernel
theorem dX12_lay_46 : decode cX12_lay 46 = .ok (.aload_n 0, 1) := by decide +kernel
theorem dX12_lay_47 : decode cX12_lay 47 = .ok (.getfield 36, 3) := by decide +kernel
theorem dX12_lay_50 : decode cX12_lay 50 = .ok (.iload_n 1, 1) := by decide +kernel
theorem dX12_lay_51 : decode cX12_lay 51 = .ok (.aaload, 1) := by decide +kernel
theorem dX12_lay_52 : decode cX12_lay 52 = .ok (.iload_n 2, 1) := by decide +kernel
theorem dX12_lay_53 : decode cX12_lay 53 = .ok (.aaload, 1) := by decide +kernel
theorem dX12_lay_54 : decode cX12_lay 54 = .ok (.iload_n 3, 1) := by decide +kernel
theorem dX12_lay_55 : decode cX12_lay 55 = .ok (.iconst 0, 1) := by decide +kernel
theorem dX12_lay_56 : decode cX12_lay 56 = .ok (.bastore, 1) := by decide +kernel
theorem dX12_lay_57 : decode cX12_lay 57 = .ok (.iinc 3 1, 3) := by decide +kernel
theorem dX12_lay_60 : decode cX12_lay 60 = .ok (.goto (-22), 3) := by decide +kernel
theorem dX12_lay_63 : decode cX12_lay 63 = .ok (.iinc 2 1, 3) := by decide +kernel
theorem dX12_lay_66 : decode cX12_lay 66 = .ok (.goto (-39), 3) := by decide +kernel
theorem dX12_lay_69 : decode cX12_lay 69 = .ok (.iconst 0, 1) := by decide +kernel
theorem dX12_lay_70 : decode cX12_lay 70 = .ok (.istore_n 2, 1) := by decide +kernel
theorem dX12_lay_71 : decode cX12_lay 71 = .ok (.iload_n 2, 1) := by decide +kernel
theorem dX12_lay_72 : decode cX12_lay 72 = .ok (.aload_n 0, 1) := by decide +kernel
theorem dX12_lay_73 : decode cX12_lay 73 = .ok (.getfield 17, 3) := by decide +kernel
theorem dX12_lay_76 : decode cX12_lay 76 = .ok (.iload_n 1, 1) := by decide +kernel
theorem dX12_lay_77 : decode cX12_lay 77 = .ok (.invokestatic 200, 3) := by decide +kernel
theorem dX12_lay_80 : decode cX12_lay 80 = .ok (.iconst 1, 1) := by decide +kernel
theorem dX12_lay_81 : decode cX12_lay 81 = .ok (.iadd, 1) := by decide +kernel
theorem dX12_lay_82 : decode cX12_lay 82 = .ok (.iaload, 1) := by decide +kernel
theorem dX12_lay_83 : decode cX12_lay 83 = .ok (.if_icmp .ge 25, 3) := by decide +kernel
theorem dX12_lay_86 : decode cX12_lay 86 = .ok (.aload_n 0, 1) := by decide +kernel
theorem dX12_lay_87 : decode cX12_lay 87 = .ok (.getfield 36, 3) := by decide +kernel
theorem dX12_lay_90 : decode cX12_lay 90 = .ok (.iload_n 1, 1) := by decide +kernel
theorem dX12_lay_91 : decode cX12_lay 91 = .ok (.aaload, 1) := by decide +kernel
theorem dX12_lay_92 : decode cX12_lay 92 = .ok (.iconst 0, 1) := by decide +kernel
theorem dX12_lay_93 : decode cX12_lay 93 = .ok (.aaload, 1) := by decide +kernel
theorem dX12_lay_94 : decode cX12_lay 94 = .ok (.aload_n 0, 1) := by decide +kernel
theorem dX12_lay_95 : decode cX12_lay 95 = .ok (.iload_n 1, 1) := by decide +kernel
theorem dX12_lay_96 : decode cX12_lay 96 = .ok (.iload_n 2, 1) := by decide +kernel
theorem dX12_lay_97 : decode cX12_lay 97 = .ok (.invokevirtual 293, 3) := by decide +kernel
theorem dX12_lay_100 : decode cX12_lay 100 = .ok (.iconst 1, 1) := by decide +kernel
theorem dX12_lay_101 : decode cX12_lay 101 = .ok (.bastore, 1) := by decide +kernel
theorem dX12_lay_102 : decode cX12_lay 102 = .ok (.iinc 2 1, 3) := by decide +kernel
theorem dX12_lay_105 : decode cX12_lay 105 = .ok (.goto (-34), 3) := by decide +kernel
theorem dX12_lay_108 : decode cX12_lay 108 = .ok (.iconst 0, 1) := by decide +kernel
theorem dX12_lay_109 : decode cX12_lay 109 = .ok (.istore_n 2, 1) := by decide +kernel
theorem dX12_lay_110 : decode cX12_lay 110 = .ok (.iload_n 2, 1) := by decide +kernel
theorem dX12_lay_111 : decode cX12_lay 111 = .ok (.aload_n 0, 1) := by decide +kernel
theorem dX12_lay_112 : decode cX12_lay 112 = .ok (.iload_n 1, 1) := by decide +kernel
theorem dX12_lay_113 : decode cX12_lay 113 = .ok (.invokevirtual 287, 3) := by decide +kernel
theorem dX12_lay_116 : decode cX12_lay 116 = .ok (.if_icmp .ge 15, 3) := by decide +kernel
theorem dX12_lay_119 : decode cX12_lay 119 = .ok (.aload_n 0, 1) := by decide +kernel
theorem dX12_lay_120 : decode cX12_lay 120 = .ok (.iload_n 1, 1) := by decide +kernel
theorem dX12_lay_121 : decode cX12_lay 121 = .ok (.iload_n 2, 1) := by decide +kernel
theorem dX12_lay_122 : decode cX12_lay 122 = .ok (.invokevirtual 296, 3) := by decide +kernel
theorem dX12_lay_125 : decode cX12_lay 125 = .ok (.iinc 2 1, 3) := by decide +kernel
theorem dX12_lay_128 : decode cX12_lay 128 = .ok (.goto (-18), 3) := by decide +kernel
theorem dX12_lay_131 : decode cX12_lay 131 = .ok (.iinc 1 1, 3) := by decide +kernel
theorem dX12_lay_134 : decode cX12_lay 134 = .ok (.goto (-119), 3) := by decide +kernel
theorem dX12_lay_137 : decode cX12_lay 137 = .ok (.return_, 1) := by decide +kernel
theorem dX12_layLeg_0 : decode cX12_layLeg 0 = .ok (.iconst 0, 1) := by decide +kernel
theorem dX12_layLeg_1 : decode cX12_layLeg 1 = .ok (.istore_n 3, 1) := by decide +kernel
theorem dX12_layLeg_2 : decode cX12_layLeg 2 = .ok (.iload_n 3, 1) := by decide +kernel
theorem dX12_layLeg_3 : decode cX12_layLeg 3 = .ok (.aload_n 0, 1) := by decide +kernel
theorem dX12_layLeg_4 : decode cX12_layLeg 4 = .ok (.invokevirtual 290, 3) := by decide +kernel
theorem dX12_layLeg_7 : decode cX12_layLeg 7 = .ok (.if_icmp .ge 73, 3) := by decide +kernel
theorem dX12_layLeg_10 : decode cX12_layLeg 10 = .ok (.aload_n 0, 1) := by decide +kernel
theorem dX12_layLeg_11 : decode cX12_layLeg 11 = .ok (.getfield 36, 3) := by decide +kernel
theorem dX12_layLeg_14 : decode cX12_layLeg 14 = .ok (.iload_n 1, 1) := by decide +kernel
theorem dX12_layLeg_15 : decode cX12_layLeg 15 = .ok (.aaload, 1) := by decide +kernel
theorem dX12_layLeg_16 : decode cX12_layLeg 16 = .ok (.iload_n 2, 1) := by decide +kernel
theorem dX12_layLeg_17 : decode cX12_layLeg 17 = .ok (.aaload, 1) := by decide +kernel
theorem dX12_layLeg_18 : decode cX12_layLeg 18 = .ok (.iload_n 3, 1) := by decide +kernel
theorem dX12_layLeg_19 : decode cX12_layLeg 19 = .ok (.baload, 1) := by decide +kernel
theorem dX12_layLeg_20 : decode cX12_layLeg 20 = .ok (.ifCond .eq 16, 3) := by decide +kernel
theorem dX12_layLeg_23 : decode cX12_layLeg 23 = .ok (.aload_n 0, 1) := by decide +kernel
theorem dX12_layLeg_24 : decode cX12_layLeg 24 = .ok (.iload_n 1, 1) := by decide +kernel
theorem dX12_layLeg_25 : decode cX12_layLeg 25 = .ok (.iload_n 2, 1) := by decide +kernel
theorem dX12_layLeg_26 : decode cX12_layLeg 26 = .ok (.invokestatic 299, 3) := by decide +kernel
theorem dX12_layLeg_29 : decode cX12_layLeg 29 = .ok (.iload_n 3, 1) := by decide +kernel
theorem dX12_layLeg_30 : decode cX12_layLeg 30 = .ok (.invokevirtual 302, 3) := by decide +kernel
theorem dX12_layLeg_33 : decode cX12_layLeg 33 = .ok (.goto 4, 3) := by decide +kernel
theorem dX12_layLeg_36 : decode cX12_layLeg 36 = .ok (.iconst 0, 1) := by decide +kernel
theorem dX12_layLeg_37 : decode cX12_layLeg 37 = .ok (.istore 4, 2) := by decide +kernel
theorem dX12_layLeg_39 : decode cX12_layLeg 39 = .ok (.iconst 0, 1) := by decide +kernel
theorem dX12_layLeg_40 : decode cX12_layLeg 40 = .ok (.istore 5, 2) := by decide +kernel
theorem dX12_layLeg_42 : decode cX12_layLeg 42 = .ok (.iload 5, 2) := by decide +kernel
theorem dX12_layLeg_44 : decode cX12_layLeg 44 = .ok (.iload 4, 2) := by decide +kernel
theorem dX12_layLeg_46 : decode cX12_layLeg 46 = .ok (.if_icmp .ge 28, 3) := by decide +kernel
theorem dX12_layLeg_49 : decode cX12_layLeg 49 = .ok (.aload_n 0, 1) := by decide +kernel
theorem dX12_layLeg_50 : decode cX12_layLeg 50 = .ok (.getfield 36, 3) := by decide +kernel
theorem dX12_layLeg_53 : decode cX12_layLeg 53 = .ok (.iload_n 1, 1) := by decide +kernel
theorem dX12_layLeg_54 : decode cX12_layLeg 54 = .ok (.aaload, 1) := by decide +kernel
theorem dX12_layLeg_55 : decode cX12_layLeg 55 = .ok (.iload_n 2, 1) := by decide +kernel
theorem dX12_layLeg_56 : decode cX12_layLeg 56 = .ok (.iconst 1, 1) := by decide +kernel
theorem dX12_layLeg_57 : decode cX12_layLeg 57 = .ok (.iadd, 1) := by decide +kernel
theorem dX12_layLeg_58 : decode cX12_layLeg 58 = .ok (.aaload, 1) := by decide +kernel
theorem dX12_layLeg_59 : decode cX12_layLeg 59 = .ok (.aload_n 0, 1) := by decide +kernel
theorem dX12_layLeg_60 : decode cX12_layLeg 60 = .ok (.getfield 28, 3) := by decide +kernel
theorem dX12_layLeg_63 : decode cX12_layLeg 63 = .ok (.iload 5, 2) := by decide +kernel
theorem dX12_layLeg_65 : decode cX12_layLeg 65 = .ok (.iaload, 1) := by decide +kernel
theorem dX12_layLeg_66 : decode cX12_layLeg 66 = .ok (.iconst 1, 1) := by decide +kernel
theorem dX12_layLeg_67 : decode cX12_layLeg 67 = .ok (.bastore, 1) := by decide +kernel
theorem dX12_layLeg_68 : decode cX12_layLeg 68 = .ok (.iinc 5 1, 3) := by decide +kernel
theorem dX12_layLeg_71 : decode cX12_layLeg 71 = .ok (.goto (-29), 3) := by decide +kernel
theorem dX12_layLeg_74 : decode cX12_layLeg 74 = .ok (.iinc 3 1, 3) := by decide +kernel
theorem dX12_layLeg_77 : decode cX12_layLeg 77 = .ok (.goto (-75), 3) := by decide +kernel
theorem dX12_layLeg_80 : decode cX12_layLeg 80 = .ok (.return_, 1) := by decide +kernel
theorem dX12_isInRegion_0 : decode cX12_isInRegion 0 = .ok (.aload_n 0, 1) := by decide +kernel
theorem dX12_isInRegion_1 : decode cX12_isInRegion 1 = .ok (.getfield 36, 3) := by decide +kernel
theorem dX12_isInRegion_4 : decode cX12_isInRegion 4 = .ok (.iload_n 1, 1) := by decide +kernel
theorem dX12_isInRegion_5 : decode cX12_isInRegion 5 = .ok (.aaload, 1) := by decide +kernel
theorem dX12_isInRegion_6 : decode cX12_isInRegion 6 = .ok (.aload_n 0, 1) := by decide +kernel
theorem dX12_isInRegion_7 : decode cX12_isInRegion 7 = .ok (.iload_n 1, 1) := by decide +kernel
theorem dX12_isInRegion_8 : decode cX12_isInRegion 8 = .ok (.invokevirtual 287, 3) := by decide +kernel
theorem dX12_isInRegion_11 : decode cX12_isInRegion 11 = .ok (.aaload, 1) := by decide +kernel
theorem dX12_isInRegion_12 : decode cX12_isInRegion 12 = .ok (.iload_n 2, 1) := by decide +kernel
theorem dX12_isInRegion_13 : decode cX12_isInRegion 13 = .ok (.baload, 1) := by decide +kernel
theorem dX12_isInRegion_14 : decode cX12_isInRegion 14 = .ok (.ireturn, 1) := by decide +kernel
theorem dX12_firstWithout_0 : decode cX12_firstWithout 0 = .ok (.aload_n 0, 1) := by decide +kernel
theorem dX12_firstWithout_1 : decode cX12_firstWithout 1 = .ok (.invokevirtual 305, 3) := by decide +kernel
theorem dX12_firstWithout_4 : decode cX12_firstWithout 4 = .ok (.iconst 0, 1) := by decide +kernel
theorem dX12_firstWithout_5 : decode cX12_firstWithout 5 = .ok (.istore_n 2, 1) := by decide +kernel
theorem dX12_firstWithout_6 : decode cX12_firstWithout 6 = .ok (.iload_n 2, 1) := by decide +kernel
theorem dX12_firstWithout_7 : decode cX12_firstWithout 7 = .ok (.aload_n 0, 1) := by decide +kernel
theorem dX12_firstWithout_8 : decode cX12_firstWithout 8 = .ok (.getfield 17, 3) := by decide +kernel
theorem dX12_firstWithout_11 : decode cX12_firstWithout 11 = .ok (.iconst 3, 1) := by decide +kernel
theorem dX12_firstWithout_12 : decode cX12_firstWithout 12 = .ok (.iaload, 1) := by decide +kernel
theorem dX12_firstWithout_13 : decode cX12_firstWithout 13 = .ok (.if_icmp .ge 35, 3) := by decide +kernel
theorem dX12_firstWithout_16 : decode cX12_firstWithout 16 = .ok (.aload_n 0, 1) := by decide +kernel
theorem dX12_firstWithout_17 : decode cX12_firstWithout 17 = .ok (.getfield 17, 3) := by decide +kernel
theorem dX12_firstWithout_20 : decode cX12_firstWithout 20 = .ok (.iload_n 2, 1) := by decide +kernel
theorem dX12_firstWithout_21 : decode cX12_firstWithout 21 = .ok (.invokestatic 200, 3) := by decide +kernel
theorem dX12_firstWithout_24 : decode cX12_firstWithout 24 = .ok (.iconst 0, 1) := by decide +kernel
theorem dX12_firstWithout_25 : decode cX12_firstWithout 25 = .ok (.iadd, 1) := by decide +kernel
theorem dX12_firstWithout_26 : decode cX12_firstWithout 26 = .ok (.iaload, 1) := by decide +kernel
theorem dX12_firstWithout_27 : decode cX12_firstWithout 27 = .ok (.iconst 1, 1) := by decide +kernel
theorem dX12_firstWithout_28 : decode cX12_firstWithout 28 = .ok (.if_icmp .ne 14, 3) := by decide +kernel
theorem dX12_firstWithout_31 : decode cX12_firstWithout 31 = .ok (.aload_n 0, 1) := by decide +kernel
theorem dX12_firstWithout_32 : decode cX12_firstWithout 32 = .ok (.iload_n 2, 1) := by decide +kernel
theorem dX12_firstWithout_33 : decode cX12_firstWithout 33 = .ok (.iload_n 1, 1) := by decide +kernel
theorem dX12_firstWithout_34 : decode cX12_firstWithout 34 = .ok (.invokevirtual 308, 3) := by decide +kernel
theorem dX12_firstWithout_37 : decode cX12_firstWithout 37 = .ok (.ifCond .ne 5, 3) := by decide +kernel
theorem dX12_firstWithout_40 : decode cX12_firstWithout 40 = .ok (.iload_n 2, 1) := by decide +kernel
theorem dX12_firstWithout_41 : decode cX12_firstWithout 41 = .ok (.ireturn, 1) := by decide +kernel
theorem dX12_firstWithout_42 : decode cX12_firstWithout 42 = .ok (.iinc 2 1, 3) := by decide +kernel
theorem dX12_firstWithout_45 : decode cX12_firstWithout 45 = .ok (.goto (-39), 3) := by decide +kernel
theorem dX12_firstWithout_48 : decode cX12_firstWithout 48 = .ok (.iconst (-1), 1) := by decide +kernel
theorem dX12_firstWithout_49 : decode cX12_firstWithout 49 = .ok (.ireturn, 1) := by decide +kernel
theorem dX12_isCandidate_0 : decode cX12_isCandidate 0 = .ok (.aload_n 0, 1) := by decide +kernel
theorem dX12_isCandidate_1 : decode cX12_isCandidate 1 = .ok (.iload_n 1, 1) := by decide +kernel
theorem dX12_isCandidate_2 : decode cX12_isCandidate 2 = .ok (.invokevirtual 274, 3) := by decide +kernel
theorem dX12_isCandidate_5 : decode cX12_isCandidate 5 = .ok (.ifCond .eq 16, 3) := by decide +kernel
theorem dX12_isCandidate_8 : decode cX12_isCandidate 8 = .ok (.aload_n 0, 1) := by decide +kernel
theorem dX12_isCandidate_9 : decode cX12_isCandidate 9 = .ok (.iload_n 1, 1) := by decide +kernel
theorem dX12_isCandidate_10 : decode cX12_isCandidate 10 = .ok (.invokevirtual 312, 3) := by decide +kernel
theorem dX12_isCandidate_13 : decode cX12_isCandidate 13 = .ok (.iconst (-1), 1) := by decide +kernel
theorem dX12_isCandidate_14 : decode cX12_isCandidate 14 = .ok (.if_icmp .ne 7, 3) := by decide +kernel
theorem dX12_isCandidate_17 : decode cX12_isCandidate 17 = .ok (.iconst 1, 1) := by decide +kernel
theorem dX12_isCandidate_18 : decode cX12_isCandidate 18 = .ok (.goto 4, 3) := by decide +kernel
theorem dX12_isCandidate_21 : decode cX12_isCandidate 21 = .ok (.iconst 0, 1) := by decide +kernel
theorem dX12_isCandidate_22 : decode cX12_isCandidate 22 = .ok (.ireturn, 1) := by decide +kernel
theorem dX12_isLeft_0 : decode cX12_isLeft 0 = .ok (.aload_n 0, 1) := by decide +kernel
theorem dX12_isLeft_1 : decode cX12_isLeft 1 = .ok (.getfield 17, 3) := by decide +kernel
theorem dX12_isLeft_4 : decode cX12_isLeft 4 = .ok (.sipush 408, 3) := by decide +kernel
theorem dX12_isLeft_7 : decode cX12_isLeft 7 = .ok (.iload_n 1, 1) := by decide +kernel
theorem dX12_isLeft_8 : decode cX12_isLeft 8 = .ok (.iadd, 1) := by decide +kernel
theorem dX12_isLeft_9 : decode cX12_isLeft 9 = .ok (.iaload, 1) := by decide +kernel
theorem dX12_isLeft_10 : decode cX12_isLeft 10 = .ok (.ifCond .ne 15, 3) := by decide +kernel
theorem dX12_isLeft_13 : decode cX12_isLeft 13 = .ok (.aload_n 0, 1) := by decide +kernel
theorem dX12_isLeft_14 : decode cX12_isLeft 14 = .ok (.iload_n 1, 1) := by decide +kernel
theorem dX12_isLeft_15 : decode cX12_isLeft 15 = .ok (.invokevirtual 315, 3) := by decide +kernel
theorem dX12_isLeft_18 : decode cX12_isLeft 18 = .ok (.ifCond .eq 7, 3) := by decide +kernel
theorem dX12_isLeft_21 : decode cX12_isLeft 21 = .ok (.iconst 1, 1) := by decide +kernel
theorem dX12_isLeft_22 : decode cX12_isLeft 22 = .ok (.goto 4, 3) := by decide +kernel
theorem dX12_isLeft_25 : decode cX12_isLeft 25 = .ok (.iconst 0, 1) := by decide +kernel
theorem dX12_isLeft_26 : decode cX12_isLeft 26 = .ok (.ireturn, 1) := by decide +kernel
theorem dX12_layLeads_0 : decode cX12_layLeads 0 = .ok (.aload_n 0, 1) := by decide +kernel
theorem dX12_layLeads_1 : decode cX12_layLeads 1 = .ok (.iload_n 1, 1) := by decide +kernel
theorem dX12_layLeads_2 : decode cX12_layLeads 2 = .ok (.invokevirtual 287, 3) := by decide +kernel
theorem dX12_layLeads_5 : decode cX12_layLeads 5 = .ok (.istore_n 3, 1) := by decide +kernel
theorem dX12_layLeads_6 : decode cX12_layLeads 6 = .ok (.iload_n 3, 1) := by decide +kernel
theorem dX12_layLeads_7 : decode cX12_layLeads 7 = .ok (.istore 4, 2) := by decide +kernel
theorem dX12_layLeads_9 : decode cX12_layLeads 9 = .ok (.iload 4, 2) := by decide +kernel
theorem dX12_layLeads_11 : decode cX12_layLeads 11 = .ok (.ifCond .lt 75, 3) := by decide +kernel
theorem dX12_layLeads_14 : decode cX12_layLeads 14 = .ok (.iconst 0, 1) := by decide +kernel
theorem dX12_layLeads_15 : decode cX12_layLeads 15 = .ok (.istore 5, 2) := by decide +kernel
theorem dX12_layLeads_17 : decode cX12_layLeads 17 = .ok (.iload 5, 2) := by decide +kernel
theorem dX12_layLeads_19 : decode cX12_layLeads 19 = .ok (.aload_n 0, 1) := by decide +kernel
theorem dX12_layLeads_20 : decode cX12_layLeads 20 = .ok (.invokevirtual 290, 3) := by decide +kernel
theorem dX12_layLeads_23 : decode cX12_layLeads 23 = .ok (.if_icmp .ge 57, 3) := by decide +kernel
theorem dX12_layLeads_26 : decode cX12_layLeads 26 = .ok (.aload_n 0, 1) := by decide +kernel
theorem dX12_layLeads_27 : decode cX12_layLeads 27 = .ok (.getfield 41, 3) := by decide +kernel
theorem dX12_layLeads_30 : decode cX12_layLeads 30 = .ok (.iload 4, 2) := by decide +kernel
theorem dX12_layLeads_32 : decode cX12_layLeads 32 = .ok (.aaload, 1) := by decide +kernel
theorem dX12_layLeads_33 : decode cX12_layLeads 33 = .ok (.iload 5, 2) := by decide +kernel
theorem dX12_layLeads_35 : decode cX12_layLeads 35 = .ok (.iload 4, 2) := by decide +kernel
theorem dX12_layLeads_37 : decode cX12_layLeads 37 = .ok (.iload_n 3, 1) := by decide +kernel
theorem dX12_layLeads_38 : decode cX12_layLeads 38 = .ok (.if_icmp .ne 17, 3) := by decide +kernel
theorem dX12_layLeads_41 : decode cX12_layLeads 41 = .ok (.iload 5, 2) := by decide +kernel
theorem dX12_layLeads_43 : decode cX12_layLeads 43 = .ok (.iload_n 2, 1) := by decide +kernel
theorem dX12_layLeads_44 : decode cX12_layLeads 44 = .ok (.if_icmp .ne 7, 3) := by decide +kernel
theorem dX12_layLeads_47 : decode cX12_layLeads 47 = .ok (.iconst 1, 1) := by decide +kernel
theorem dX12_layLeads_48 : decode cX12_layLeads 48 = .ok (.goto 25, 3) := by decide +kernel
theorem dX12_layLeads_51 : decode cX12_layLeads 51 = .ok (.iconst 0, 1) := by decide +kernel
theorem dX12_layLeads_52 : decode cX12_layLeads 52 = .ok (.goto 21, 3) := by decide +kernel
theorem dX12_layLeads_55 : decode cX12_layLeads 55 = .ok (.aload_n 0, 1) := by decide +kernel
theorem dX12_layLeads_56 : decode cX12_layLeads 56 = .ok (.iload_n 1, 1) := by decide +kernel
theorem dX12_layLeads_57 : decode cX12_layLeads 57 = .ok (.iload 4, 2) := by decide +kernel
theorem dX12_layLeads_59 : decode cX12_layLeads 59 = .ok (.iload 5, 2) := by decide +kernel
theorem dX12_layLeads_61 : decode cX12_layLeads 61 = .ok (.invokevirtual 318, 3) := by decide +kernel
theorem dX12_layLeads_64 : decode cX12_layLeads 64 = .ok (.iconst (-1), 1) := by decide +kernel
theorem dX12_layLeads_65 : decode cX12_layLeads 65 = .ok (.if_icmp .eq 7, 3) := by decide +kernel
theorem dX12_layLeads_68 : decode cX12_layLeads 68 = .ok (.iconst 1, 1) := by decide +kernel
theorem dX12_layLeads_69 : decode cX12_layLeads 69 = .ok (.goto 4, 3) := by decide +kernel
theorem dX12_layLeads_72 : decode cX12_layLeads 72 = .ok (.iconst 0, 1) := by decide +kernel
theorem dX12_layLeads_73 : decode cX12_layLeads 73 = .ok (.bastore, 1) := by decide +kernel
theorem dX12_layLeads_74 : decode cX12_layLeads 74 = .ok (.iinc 5 1, 3) := by decide +kernel
theorem dX12_layLeads_77 : decode cX12_layLeads 77 = .ok (.goto (-60), 3) := by decide +kernel
theorem dX12_layLeads_80 : decode cX12_layLeads 80 = .ok (.iinc 4 (-1), 3) := by decide +kernel
theorem dX12_layLeads_83 : decode cX12_layLeads 83 = .ok (.goto (-74), 3) := by decide +kernel
theorem dX12_layLeads_86 : decode cX12_layLeads 86 = .ok (.return_, 1) := by decide +kernel
theorem dX12_endOf_0 : decode cX12_endOf 0 = .ok (.aload_n 0, 1) := by decide +kernel
theorem dX12_endOf_1 : decode cX12_endOf 1 = .ok (.iload_n 1, 1) := by decide +kernel
theorem dX12_endOf_2 : decode cX12_endOf 2 = .ok (.iload_n 2, 1) := by decide +kernel
theorem dX12_endOf_3 : decode cX12_endOf 3 = .ok (.invokestatic 299, 3) := by decide +kernel
theorem dX12_endOf_6 : decode cX12_endOf 6 = .ok (.iload_n 3, 1) := by decide +kernel
theorem dX12_endOf_7 : decode cX12_endOf 7 = .ok (.invokevirtual 302, 3) := by decide +kernel
theorem dX12_endOf_10 : decode cX12_endOf 10 = .ok (.istore 4, 2) := by decide +kernel
theorem dX12_endOf_12 : decode cX12_endOf 12 = .ok (.iconst 0, 1) := by decide +kernel
theorem dX12_endOf_13 : decode cX12_endOf 13 = .ok (.istore 5, 2) := by decide +kernel
theorem dX12_endOf_15 : decode cX12_endOf 15 = .ok (.iload 5, 2) := by decide +kernel
theorem dX12_endOf_17 : decode cX12_endOf 17 = .ok (.iload 4, 2) := by decide +kernel
theorem dX12_endOf_19 : decode cX12_endOf 19 = .ok (.if_icmp .ge 31, 3) := by decide +kernel
theorem dX12_endOf_22 : decode cX12_endOf 22 = .ok (.aload_n 0, 1) := by decide +kernel
theorem dX12_endOf_23 : decode cX12_endOf 23 = .ok (.getfield 41, 3) := by decide +kernel
theorem dX12_endOf_26 : decode cX12_endOf 26 = .ok (.iload_n 2, 1) := by decide +kernel
theorem dX12_endOf_27 : decode cX12_endOf 27 = .ok (.iconst 1, 1) := by decide +kernel
theorem dX12_endOf_28 : decode cX12_endOf 28 = .ok (.iadd, 1) := by decide +kernel
theorem dX12_endOf_29 : decode cX12_endOf 29 = .ok (.aaload, 1) := by decide +kernel
theorem dX12_endOf_30 : decode cX12_endOf 30 = .ok (.aload_n 0, 1) := by decide +kernel
theorem dX12_endOf_31 : decode cX12_endOf 31 = .ok (.getfield 28, 3) := by decide +kernel
theorem dX12_endOf_34 : decode cX12_endOf 34 = .ok (.iload 5, 2) := by decide +kernel
theorem dX12_endOf_36 : decode cX12_endOf 36 = .ok (.iaload, 1) := by decide +kernel
theorem dX12_endOf_37 : decode cX12_endOf 37 = .ok (.baload, 1) := by decide +kernel
theorem dX12_endOf_38 : decode cX12_endOf 38 = .ok (.ifCond .eq 6, 3) := by decide +kernel
theorem dX12_endOf_41 : decode cX12_endOf 41 = .ok (.iload 5, 2) := by decide +kernel
theorem dX12_endOf_43 : decode cX12_endOf 43 = .ok (.ireturn, 1) := by decide +kernel
theorem dX12_endOf_44 : decode cX12_endOf 44 = .ok (.iinc 5 1, 3) := by decide +kernel
theorem dX12_endOf_47 : decode cX12_endOf 47 = .ok (.goto (-32), 3) := by decide +kernel
theorem dX12_endOf_50 : decode cX12_endOf 50 = .ok (.iconst (-1), 1) := by decide +kernel
theorem dX12_endOf_51 : decode cX12_endOf 51 = .ok (.ireturn, 1) := by decide +kernel
theorem dX12_layFar_0 : decode cX12_layFar 0 = .ok (.iconst 0, 1) := by decide +kernel
theorem dX12_layFar_1 : decode cX12_layFar 1 = .ok (.istore_n 2, 1) := by decide +kernel
theorem dX12_layFar_2 : decode cX12_layFar 2 = .ok (.iload_n 2, 1) := by decide +kernel
theorem dX12_layFar_3 : decode cX12_layFar 3 = .ok (.aload_n 0, 1) := by decide +kernel
theorem dX12_layFar_4 : decode cX12_layFar 4 = .ok (.invokevirtual 290, 3) := by decide +kernel
theorem dX12_layFar_7 : decode cX12_layFar 7 = .ok (.if_icmp .ge 16, 3) := by decide +kernel
theorem dX12_layFar_10 : decode cX12_layFar 10 = .ok (.aload_n 0, 1) := by decide +kernel
theorem dX12_layFar_11 : decode cX12_layFar 11 = .ok (.getfield 44, 3) := by decide +kernel
theorem dX12_layFar_14 : decode cX12_layFar 14 = .ok (.iload_n 2, 1) := by decide +kernel
theorem dX12_layFar_15 : decode cX12_layFar 15 = .ok (.iconst (-1), 1) := by decide +kernel
theorem dX12_layFar_16 : decode cX12_layFar 16 = .ok (.iastore, 1) := by decide +kernel
theorem dX12_layFar_17 : decode cX12_layFar 17 = .ok (.iinc 2 1, 3) := by decide +kernel
theorem dX12_layFar_20 : decode cX12_layFar 20 = .ok (.goto (-18), 3) := by decide +kernel
theorem dX12_layFar_23 : decode cX12_layFar 23 = .ok (.aload_n 0, 1) := by decide +kernel
theorem dX12_layFar_24 : decode cX12_layFar 24 = .ok (.getfield 44, 3) := by decide +kernel
theorem dX12_layFar_27 : decode cX12_layFar 27 = .ok (.iload_n 1, 1) := by decide +kernel
theorem dX12_layFar_28 : decode cX12_layFar 28 = .ok (.iconst 0, 1) := by decide +kernel
theorem dX12_layFar_29 : decode cX12_layFar 29 = .ok (.iastore, 1) := by decide +kernel
theorem dX12_layFar_30 : decode cX12_layFar 30 = .ok (.aload_n 0, 1) := by decide +kernel
theorem dX12_layFar_31 : decode cX12_layFar 31 = .ok (.getfield 47, 3) := by decide +kernel
theorem dX12_layFar_34 : decode cX12_layFar 34 = .ok (.iconst 0, 1) := by decide +kernel
theorem dX12_layFar_35 : decode cX12_layFar 35 = .ok (.iload_n 1, 1) := by decide +kernel
theorem dX12_layFar_36 : decode cX12_layFar 36 = .ok (.iastore, 1) := by decide +kernel
theorem dX12_layFar_37 : decode cX12_layFar 37 = .ok (.iconst 1, 1) := by decide +kernel
theorem dX12_layFar_38 : decode cX12_layFar 38 = .ok (.istore_n 2, 1) := by decide +kernel
theorem dX12_layFar_39 : decode cX12_layFar 39 = .ok (.iconst 0, 1) := by decide +kernel
theorem dX12_layFar_40 : decode cX12_layFar 40 = .ok (.istore_n 3, 1) := by decide +kernel
theorem dX12_layFar_41 : decode cX12_layFar 41 = .ok (.iload_n 3, 1) := by decide +kernel
theorem dX12_layFar_42 : decode cX12_layFar 42 = .ok (.iload_n 2, 1) := by decide +kernel
theorem dX12_layFar_43 : decode cX12_layFar 43 = .ok (.if_icmp .ge 90, 3) := by decide +kernel
theorem dX12_layFar_46 : decode cX12_layFar 46 = .ok (.iconst 0, 1) := by decide +kernel
theorem dX12_layFar_47 : decode cX12_layFar 47 = .ok (.istore 4, 2) := by decide +kernel
theorem dX12_layFar_49 : decode cX12_layFar 49 = .ok (.iload 4, 2) := by decide +kernel
theorem dX12_layFar_51 : decode cX12_layFar 51 = .ok (.bipush 8, 2) := by decide +kernel
theorem dX12_layFar_53 : decode cX12_layFar 53 = .ok (.if_icmp .ge 74, 3) := by decide +kernel
theorem dX12_layFar_56 : decode cX12_layFar 56 = .ok (.aload_n 0, 1) := by decide +kernel
theorem dX12_layFar_57 : decode cX12_layFar 57 = .ok (.aload_n 0, 1) := by decide +kernel
theorem dX12_layFar_58 : decode cX12_layFar 58 = .ok (.getfield 47, 3) := by decide +kernel
theorem dX12_layFar_61 : decode cX12_layFar 61 = .ok (.iload_n 3, 1) := by decide +kernel
theorem dX12_layFar_62 : decode cX12_layFar 62 = .ok (.iaload, 1) := by decide +kernel
theorem dX12_layFar_63 : decode cX12_layFar 63 = .ok (.iload 4, 2) := by decide +kernel
theorem dX12_layFar_65 : decode cX12_layFar 65 = .ok (.invokevirtual 277, 3) := by decide +kernel
theorem dX12_layFar_68 : decode cX12_layFar 68 = .ok (.istore 5, 2) := by decide +kernel
theorem dX12_layFar_70 : decode cX12_layFar 70 = .ok (.iload 5, 2) := by decide +kernel
theorem dX12_layFar_72 : decode cX12_layFar 72 = .ok (.iconst (-1), 1) := by decide +kernel
theorem dX12_layFar_73 : decode cX12_layFar 73 = .ok (.if_icmp .eq 48, 3) := by decide +kernel
theorem dX12_layFar_76 : decode cX12_layFar 76 = .ok (.aload_n 0, 1) := by decide +kernel
theorem dX12_layFar_77 : decode cX12_layFar 77 = .ok (.getfield 44, 3) := by decide +kernel
theorem dX12_layFar_80 : decode cX12_layFar 80 = .ok (.iload 5, 2) := by decide +kernel
theorem dX12_layFar_82 : decode cX12_layFar 82 = .ok (.iaload, 1) := by decide +kernel
theorem dX12_layFar_83 : decode cX12_layFar 83 = .ok (.iconst (-1), 1) := by decide +kernel
theorem dX12_layFar_84 : decode cX12_layFar 84 = .ok (.if_icmp .eq 6, 3) := by decide +kernel
theorem dX12_layFar_87 : decode cX12_layFar 87 = .ok (.goto 34, 3) := by decide +kernel
theorem dX12_layFar_90 : decode cX12_layFar 90 = .ok (.aload_n 0, 1) := by decide +kernel
theorem dX12_layFar_91 : decode cX12_layFar 91 = .ok (.getfield 44, 3) := by decide +kernel
theorem dX12_layFar_94 : decode cX12_layFar 94 = .ok (.iload 5, 2) := by decide +kernel
theorem dX12_layFar_96 : decode cX12_layFar 96 = .ok (.aload_n 0, 1) := by decide +kernel
theorem dX12_layFar_97 : decode cX12_layFar 97 = .ok (.getfield 44, 3) := by decide +kernel
theorem dX12_layFar_100 : decode cX12_layFar 100 = .ok (.aload_n 0, 1) := by decide +kernel
theorem dX12_layFar_101 : decode cX12_layFar 101 = .ok (.getfield 47, 3) := by decide +kernel
theorem dX12_layFar_104 : decode cX12_layFar 104 = .ok (.iload_n 3, 1) := by decide +kernel
theorem dX12_layFar_105 : decode cX12_layFar 105 = .ok (.iaload, 1) := by decide +kernel
theorem dX12_layFar_106 : decode cX12_layFar 106 = .ok (.iaload, 1) := by decide +kernel
theorem dX12_layFar_107 : decode cX12_layFar 107 = .ok (.iconst 1, 1) := by decide +kernel
theorem dX12_layFar_108 : decode cX12_layFar 108 = .ok (.iadd, 1) := by decide +kernel
theorem dX12_layFar_109 : decode cX12_layFar 109 = .ok (.iastore, 1) := by decide +kernel
theorem dX12_layFar_110 : decode cX12_layFar 110 = .ok (.aload_n 0, 1) := by decide +kernel
theorem dX12_layFar_111 : decode cX12_layFar 111 = .ok (.getfield 47, 3) := by decide +kernel
theorem dX12_layFar_114 : decode cX12_layFar 114 = .ok (.iload_n 2, 1) := by decide +kernel
theorem dX12_layFar_115 : decode cX12_layFar 115 = .ok (.iload 5, 2) := by decide +kernel
theorem dX12_layFar_117 : decode cX12_layFar 117 = .ok (.iastore, 1) := by decide +kernel
theorem dX12_layFar_118 : decode cX12_layFar 118 = .ok (.iinc 2 1, 3) := by decide +kernel
theorem dX12_layFar_121 : decode cX12_layFar 121 = .ok (.iinc 4 1, 3) := by decide +kernel
theorem dX12_layFar_124 : decode cX12_layFar 124 = .ok (.goto (-75), 3) := by decide +kernel
theorem dX12_layFar_127 : decode cX12_layFar 127 = .ok (.iinc 3 1, 3) := by decide +kernel
theorem dX12_layFar_130 : decode cX12_layFar 130 = .ok (.goto (-89), 3) := by decide +kernel
theorem dX12_layFar_133 : decode cX12_layFar 133 = .ok (.return_, 1) := by decide +kernel
theorem dX12_layParts_0 : decode cX12_layParts 0 = .ok (.iconst 0, 1) := by decide +kernel
theorem dX12_layParts_1 : decode cX12_layParts 1 = .ok (.istore_n 1, 1) := by decide +kernel
theorem dX12_layParts_2 : decode cX12_layParts 2 = .ok (.iconst 0, 1) := by decide +kernel
theorem dX12_layParts_3 : decode cX12_layParts 3 = .ok (.istore_n 2, 1) := by decide +kernel
theorem dX12_layParts_4 : decode cX12_layParts 4 = .ok (.iload_n 2, 1) := by decide +kernel
theorem dX12_layParts_5 : decode cX12_layParts 5 = .ok (.aload_n 0, 1) := by decide +kernel
theorem dX12_layParts_6 : decode cX12_layParts 6 = .ok (.invokevirtual 290, 3) := by decide +kernel
theorem dX12_layParts_9 : decode cX12_layParts 9 = .ok (.if_icmp .ge 16, 3) := by decide +kernel
theorem dX12_layParts_12 : decode cX12_layParts 12 = .ok (.aload_n 0, 1) := by decide +kernel
theorem dX12_layParts_13 : decode cX12_layParts 13 = .ok (.getfield 50, 3) := by decide +kernel
theorem dX12_layParts_16 : decode cX12_layParts 16 = .ok (.iload_n 2, 1) := by decide +kernel
theorem dX12_layParts_17 : decode cX12_layParts 17 = .ok (.iconst (-1), 1) := by decide +kernel
theorem dX12_layParts_18 : decode cX12_layParts 18 = .ok (.iastore, 1) := by decide +kernel
theorem dX12_layParts_19 : decode cX12_layParts 19 = .ok (.iinc 2 1, 3) := by decide +kernel
theorem dX12_layParts_22 : decode cX12_layParts 22 = .ok (.goto (-18), 3) := by decide +kernel
theorem dX12_layParts_25 : decode cX12_layParts 25 = .ok (.iconst 0, 1) := by decide +kernel
theorem dX12_layParts_26 : decode cX12_layParts 26 = .ok (.istore_n 2, 1) := by decide +kernel
theorem dX12_layParts_27 : decode cX12_layParts 27 = .ok (.iload_n 2, 1) := by decide +kernel
theorem dX12_layParts_28 : decode cX12_layParts 28 = .ok (.aload_n 0, 1) := by decide +kernel
theorem dX12_layParts_29 : decode cX12_layParts 29 = .ok (.invokevirtual 290, 3) := by decide +kernel
theorem dX12_layParts_32 : decode cX12_layParts 32 = .ok (.if_icmp .ge 143, 3) := by decide +kernel
theorem dX12_layParts_35 : decode cX12_layParts 35 = .ok (.aload_n 0, 1) := by decide +kernel
theorem dX12_layParts_36 : decode cX12_layParts 36 = .ok (.iload_n 2, 1) := by decide +kernel
theorem dX12_layParts_37 : decode cX12_layParts 37 = .ok (.invokevirtual 322, 3) := by decide +kernel
theorem dX12_layParts_40 : decode cX12_layParts 40 = .ok (.ifCond .eq 129, 3) := by decide +kernel
theorem dX12_layParts_43 : decode cX12_layParts 43 = .ok (.aload_n 0, 1) := by decide +kernel
theorem dX12_layParts_44 : decode cX12_layParts 44 = .ok (.getfield 50, 3) := by decide +kernel
theorem dX12_layParts_47 : decode cX12_layParts 47 = .ok (.iload_n 2, 1) := by decide +kernel
theorem dX12_layParts_48 : decode cX12_layParts 48 = .ok (.iaload, 1) := by decide +kernel
theorem dX12_layParts_49 : decode cX12_layParts 49 = .ok (.iconst (-1), 1) := by decide +kernel
theorem dX12_layParts_50 : decode cX12_layParts 50 = .ok (.if_icmp .eq 6, 3) := by decide +kernel
theorem dX12_layParts_53 : decode cX12_layParts 53 = .ok (.goto 116, 3) := by decide +kernel
theorem dX12_layParts_56 : decode cX12_layParts 56 = .ok (.aload_n 0, 1) := by decide +kernel
theorem dX12_layParts_57 : decode cX12_layParts 57 = .ok (.getfield 50, 3) := by decide +kernel
theorem dX12_layParts_60 : decode cX12_layParts 60 = .ok (.iload_n 2, 1) := by decide +kernel
theorem dX12_layParts_61 : decode cX12_layParts 61 = .ok (.iload_n 1, 1) := by decide +kernel
theorem dX12_layParts_62 : decode cX12_layParts 62 = .ok (.iastore, 1) := by decide +kernel
theorem dX12_layParts_63 : decode cX12_layParts 63 = .ok (.aload_n 0, 1) := by decide +kernel
theorem dX12_layParts_64 : decode cX12_layParts 64 = .ok (.getfield 47, 3) := by decide +kernel
theorem dX12_layParts_67 : decode cX12_layParts 67 = .ok (.iconst 0, 1) := by decide +kernel
theorem dX12_layParts_68 : decode cX12_layParts 68 = .ok (.iload_n 2, 1) := by decide +kernel
theorem dX12_layParts_69 : decode cX12_layParts 69 = .ok (.iastore, 1) := by decide +kernel
theorem dX12_layParts_70 : decode cX12_layParts 70 = .ok (.iconst 1, 1) := by decide +kernel
theorem dX12_layParts_71 : decode cX12_layParts 71 = .ok (.istore_n 3, 1) := by decide +kernel
theorem dX12_layParts_72 : decode cX12_layParts 72 = .ok (.iconst 0, 1) := by decide +kernel
theorem dX12_layParts_73 : decode cX12_layParts 73 = .ok (.istore 4, 2) := by decide +kernel
theorem dX12_layParts_75 : decode cX12_layParts 75 = .ok (.iload 4, 2) := by decide +kernel
theorem dX12_layParts_77 : decode cX12_layParts 77 = .ok (.iload_n 3, 1) := by decide +kernel
theorem dX12_layParts_78 : decode cX12_layParts 78 = .ok (.if_icmp .ge 88, 3) := by decide +kernel
theorem dX12_layParts_81 : decode cX12_layParts 81 = .ok (.iconst 0, 1) := by decide +kernel
theorem dX12_layParts_82 : decode cX12_layParts 82 = .ok (.istore 5, 2) := by decide +kernel
theorem dX12_layParts_84 : decode cX12_layParts 84 = .ok (.iload 5, 2) := by decide +kernel
theorem dX12_layParts_86 : decode cX12_layParts 86 = .ok (.bipush 8, 2) := by decide +kernel
theorem dX12_layParts_88 : decode cX12_layParts 88 = .ok (.if_icmp .ge 72, 3) := by decide +kernel
theorem dX12_layParts_91 : decode cX12_layParts 91 = .ok (.aload_n 0, 1) := by decide +kernel
theorem dX12_layParts_92 : decode cX12_layParts 92 = .ok (.aload_n 0, 1) := by decide +kernel
theorem dX12_layParts_93 : decode cX12_layParts 93 = .ok (.getfield 47, 3) := by decide +kernel
theorem dX12_layParts_96 : decode cX12_layParts 96 = .ok (.iload 4, 2) := by decide +kernel
theorem dX12_layParts_98 : decode cX12_layParts 98 = .ok (.iaload, 1) := by decide +kernel
theorem dX12_layParts_99 : decode cX12_layParts 99 = .ok (.iload 5, 2) := by decide +kernel
theorem dX12_layParts_101 : decode cX12_layParts 101 = .ok (.invokevirtual 277, 3) := by decide +kernel
theorem dX12_layParts_104 : decode cX12_layParts 104 = .ok (.istore 6, 2) := by decide +kernel
theorem dX12_layParts_106 : decode cX12_layParts 106 = .ok (.iload 6, 2) := by decide +kernel
theorem dX12_layParts_108 : decode cX12_layParts 108 = .ok (.iconst (-1), 1) := by decide +kernel
theorem dX12_layParts_109 : decode cX12_layParts 109 = .ok (.if_icmp .eq 45, 3) := by decide +kernel
theorem dX12_layParts_112 : decode cX12_layParts 112 = .ok (.aload_n 0, 1) := by decide +kernel
theorem dX12_layParts_113 : decode cX12_layParts 113 = .ok (.getfield 50, 3) := by decide +kernel
theorem dX12_layParts_116 : decode cX12_layParts 116 = .ok (.iload 6, 2) := by decide +kernel
theorem dX12_layParts_118 : decode cX12_layParts 118 = .ok (.iaload, 1) := by decide +kernel
theorem dX12_layParts_119 : decode cX12_layParts 119 = .ok (.iconst (-1), 1) := by decide +kernel
theorem dX12_layParts_120 : decode cX12_layParts 120 = .ok (.if_icmp .ne 34, 3) := by decide +kernel
theorem dX12_layParts_123 : decode cX12_layParts 123 = .ok (.aload_n 0, 1) := by decide +kernel
theorem dX12_layParts_124 : decode cX12_layParts 124 = .ok (.iload 6, 2) := by decide +kernel
theorem dX12_layParts_126 : decode cX12_layParts 126 = .ok (.invokevirtual 322, 3) := by decide +kernel
theorem dX12_layParts_129 : decode cX12_layParts 129 = .ok (.ifCond .ne 6, 3) := by decide +kernel
theorem dX12_layParts_132 : decode cX12_layParts 132 = .ok (.goto 22, 3) := by decide +kernel
theorem dX12_layParts_135 : decode cX12_layParts 135 = .ok (.aload_n 0, 1) := by decide +kernel
theorem dX12_layParts_136 : decode cX12_layParts 136 = .ok (.getfield 50, 3) := by decide +kernel
theorem dX12_layParts_139 : decode cX12_layParts 139 = .ok (.iload 6, 2) := by decide +kernel
theorem dX12_layParts_141 : decode cX12_layParts 141 = .ok (.iload_n 1, 1) := by decide +kernel
theorem dX12_layParts_142 : decode cX12_layParts 142 = .ok (.iastore, 1) := by decide +kernel
theorem dX12_layParts_143 : decode cX12_layParts 143 = .ok (.aload_n 0, 1) := by decide +kernel
theorem dX12_layParts_144 : decode cX12_layParts 144 = .ok (.getfield 47, 3) := by decide +kernel
theorem dX12_layParts_147 : decode cX12_layParts 147 = .ok (.iload_n 3, 1) := by decide +kernel
theorem dX12_layParts_148 : decode cX12_layParts 148 = .ok (.iload 6, 2) := by decide +kernel
theorem dX12_layParts_150 : decode cX12_layParts 150 = .ok (.iastore, 1) := by decide +kernel
theorem dX12_layParts_151 : decode cX12_layParts 151 = .ok (.iinc 3 1, 3) := by decide +kernel
theorem dX12_layParts_154 : decode cX12_layParts 154 = .ok (.iinc 5 1, 3) := by decide +kernel
theorem dX12_layParts_157 : decode cX12_layParts 157 = .ok (.goto (-73), 3) := by decide +kernel
theorem dX12_layParts_160 : decode cX12_layParts 160 = .ok (.iinc 4 1, 3) := by decide +kernel
theorem dX12_layParts_163 : decode cX12_layParts 163 = .ok (.goto (-88), 3) := by decide +kernel
theorem dX12_layParts_166 : decode cX12_layParts 166 = .ok (.iinc 1 1, 3) := by decide +kernel
theorem dX12_layParts_169 : decode cX12_layParts 169 = .ok (.iinc 2 1, 3) := by decide +kernel
theorem dX12_layParts_172 : decode cX12_layParts 172 = .ok (.goto (-145), 3) := by decide +kernel
theorem dX12_layParts_175 : decode cX12_layParts 175 = .ok (.iload_n 1, 1) := by decide +kernel
theorem dX12_layParts_176 : decode cX12_layParts 176 = .ok (.ireturn, 1) := by decide +kernel
theorem dX12_noCell_0 : decode cX12_noCell 0 = .ok (.aload_n 0, 1) := by decide +kernel
theorem dX12_noCell_1 : decode cX12_noCell 1 = .ok (.iload_n 1, 1) := by decide +kernel
theorem dX12_noCell_2 : decode cX12_noCell 2 = .ok (.iconst 0, 1) := by decide +kernel
theorem dX12_noCell_3 : decode cX12_noCell 3 = .ok (.aload_n 0, 1) := by decide +kernel
theorem dX12_noCell_4 : decode cX12_noCell 4 = .ok (.getfield 17, 3) := by decide +kernel
theorem dX12_noCell_7 : decode cX12_noCell 7 = .ok (.iconst 0, 1) := by decide +kernel
theorem dX12_noCell_8 : decode cX12_noCell 8 = .ok (.iaload, 1) := by decide +kernel
theorem dX12_noCell_9 : decode cX12_noCell 9 = .ok (.iconst 1, 1) := by decide +kernel
theorem dX12_noCell_10 : decode cX12_noCell 10 = .ok (.isub, 1) := by decide +kernel
theorem dX12_noCell_11 : decode cX12_noCell 11 = .ok (.invokestatic 91, 3) := by decide +kernel
theorem dX12_noCell_14 : decode cX12_noCell 14 = .ok (.ifCond .eq 19, 3) := by decide +kernel
theorem dX12_noCell_17 : decode cX12_noCell 17 = .ok (.iload_n 2, 1) := by decide +kernel
theorem dX12_noCell_18 : decode cX12_noCell 18 = .ok (.iconst 0, 1) := by decide +kernel
theorem dX12_noCell_19 : decode cX12_noCell 19 = .ok (.aload_n 0, 1) := by decide +kernel
theorem dX12_noCell_20 : decode cX12_noCell 20 = .ok (.getfield 17, 3) := by decide +kernel
theorem dX12_noCell_23 : decode cX12_noCell 23 = .ok (.iconst 1, 1) := by decide +kernel
theorem dX12_noCell_24 : decode cX12_noCell 24 = .ok (.iaload, 1) := by decide +kernel
theorem dX12_noCell_25 : decode cX12_noCell 25 = .ok (.iconst 1, 1) := by decide +kernel
theorem dX12_noCell_26 : decode cX12_noCell 26 = .ok (.isub, 1) := by decide +kernel
theorem dX12_noCell_27 : decode cX12_noCell 27 = .ok (.invokestatic 91, 3) := by decide +kernel
theorem dX12_noCell_30 : decode cX12_noCell 30 = .ok (.ifCond .ne 7, 3) := by decide +kernel
theorem dX12_noCell_33 : decode cX12_noCell 33 = .ok (.iconst 1, 1) := by decide +kernel
theorem dX12_noCell_34 : decode cX12_noCell 34 = .ok (.goto 4, 3) := by decide +kernel
theorem dX12_noCell_37 : decode cX12_noCell 37 = .ok (.iconst 0, 1) := by decide +kernel
theorem dX12_noCell_38 : decode cX12_noCell 38 = .ok (.iconst 1, 1) := by decide +kernel
theorem dX12_noCell_39 : decode cX12_noCell 39 = .ok (.invokevirtual 246, 3) := by decide +kernel
theorem dX12_noCell_42 : decode cX12_noCell 42 = .ok (.ireturn, 1) := by decide +kernel
theorem dX12_noClue_0 : decode cX12_noClue 0 = .ok (.aload_n 0, 1) := by decide +kernel
theorem dX12_noClue_1 : decode cX12_noClue 1 = .ok (.iload_n 1, 1) := by decide +kernel
theorem dX12_noClue_2 : decode cX12_noClue 2 = .ok (.iconst 0, 1) := by decide +kernel
theorem dX12_noClue_3 : decode cX12_noClue 3 = .ok (.aload_n 0, 1) := by decide +kernel
theorem dX12_noClue_4 : decode cX12_noClue 4 = .ok (.getfield 17, 3) := by decide +kernel
theorem dX12_noClue_7 : decode cX12_noClue 7 = .ok (.iconst 3, 1) := by decide +kernel
theorem dX12_noClue_8 : decode cX12_noClue 8 = .ok (.iaload, 1) := by decide +kernel
theorem dX12_noClue_9 : decode cX12_noClue 9 = .ok (.iconst 1, 1) := by decide +kernel
theorem dX12_noClue_10 : decode cX12_noClue 10 = .ok (.isub, 1) := by decide +kernel
theorem dX12_noClue_11 : decode cX12_noClue 11 = .ok (.invokestatic 91, 3) := by decide +kernel
theorem dX12_noClue_14 : decode cX12_noClue 14 = .ok (.ifCond .ne 7, 3) := by decide +kernel
theorem dX12_noClue_17 : decode cX12_noClue 17 = .ok (.iconst 1, 1) := by decide +kernel
theorem dX12_noClue_18 : decode cX12_noClue 18 = .ok (.goto 4, 3) := by decide +kernel
theorem dX12_noClue_21 : decode cX12_noClue 21 = .ok (.iconst 0, 1) := by decide +kernel
theorem dX12_noClue_22 : decode cX12_noClue 22 = .ok (.iconst 1, 1) := by decide +kernel
theorem dX12_noClue_23 : decode cX12_noClue 23 = .ok (.invokevirtual 246, 3) := by decide +kernel
theorem dX12_noClue_26 : decode cX12_noClue 26 = .ok (.ireturn, 1) := by decide +kernel
theorem dX12_marks_0 : decode cX12_marks 0 = .ok (.iconst 0, 1) := by decide +kernel
theorem dX12_marks_1 : decode cX12_marks 1 = .ok (.istore_n 1, 1) := by decide +kernel
theorem dX12_marks_2 : decode cX12_marks 2 = .ok (.iconst 0, 1) := by decide +kernel
theorem dX12_marks_3 : decode cX12_marks 3 = .ok (.istore_n 2, 1) := by decide +kernel
theorem dX12_marks_4 : decode cX12_marks 4 = .ok (.iload_n 2, 1) := by decide +kernel
theorem dX12_marks_5 : decode cX12_marks 5 = .ok (.bipush 8, 2) := by decide +kernel
theorem dX12_marks_7 : decode cX12_marks 7 = .ok (.if_icmp .ge 31, 3) := by decide +kernel
theorem dX12_marks_10 : decode cX12_marks 10 = .ok (.iload_n 1, 1) := by decide +kernel
theorem dX12_marks_11 : decode cX12_marks 11 = .ok (.aload_n 0, 1) := by decide +kernel
theorem dX12_marks_12 : decode cX12_marks 12 = .ok (.getfield 17, 3) := by decide +kernel
theorem dX12_marks_15 : decode cX12_marks 15 = .ok (.sipush 808, 3) := by decide +kernel
theorem dX12_marks_18 : decode cX12_marks 18 = .ok (.iload_n 2, 1) := by decide +kernel
theorem dX12_marks_19 : decode cX12_marks 19 = .ok (.iadd, 1) := by decide +kernel
theorem dX12_marks_20 : decode cX12_marks 20 = .ok (.iaload, 1) := by decide +kernel
theorem dX12_marks_21 : decode cX12_marks 21 = .ok (.iconst (-1), 1) := by decide +kernel
theorem dX12_marks_22 : decode cX12_marks 22 = .ok (.if_icmp .ne 7, 3) := by decide +kernel
theorem dX12_marks_25 : decode cX12_marks 25 = .ok (.iconst 0, 1) := by decide +kernel
theorem dX12_marks_26 : decode cX12_marks 26 = .ok (.goto 4, 3) := by decide +kernel
theorem dX12_marks_29 : decode cX12_marks 29 = .ok (.iconst 1, 1) := by decide +kernel
theorem dX12_marks_30 : decode cX12_marks 30 = .ok (.iadd, 1) := by decide +kernel
theorem dX12_marks_31 : decode cX12_marks 31 = .ok (.istore_n 1, 1) := by decide +kernel
theorem dX12_marks_32 : decode cX12_marks 32 = .ok (.iinc 2 1, 3) := by decide +kernel
theorem dX12_marks_35 : decode cX12_marks 35 = .ok (.goto (-31), 3) := by decide +kernel
theorem dX12_marks_38 : decode cX12_marks 38 = .ok (.iload_n 1, 1) := by decide +kernel
theorem dX12_marks_39 : decode cX12_marks 39 = .ok (.ireturn, 1) := by decide +kernel
theorem dX12_used_0 : decode cX12_used 0 = .ok (.iconst 0, 1) := by decide +kernel
theorem dX12_used_1 : decode cX12_used 1 = .ok (.istore_n 1, 1) := by decide +kernel
theorem dX12_used_2 : decode cX12_used 2 = .ok (.iconst 0, 1) := by decide +kernel
theorem dX12_used_3 : decode cX12_used 3 = .ok (.istore_n 2, 1) := by decide +kernel
theorem dX12_used_4 : decode cX12_used 4 = .ok (.iload_n 2, 1) := by decide +kernel
theorem dX12_used_5 : decode cX12_used 5 = .ok (.aload_n 0, 1) := by decide +kernel
theorem dX12_used_6 : decode cX12_used 6 = .ok (.getfield 17, 3) := by decide +kernel
theorem dX12_used_9 : decode cX12_used 9 = .ok (.iconst 3, 1) := by decide +kernel
theorem dX12_used_10 : decode cX12_used 10 = .ok (.iaload, 1) := by decide +kernel
theorem dX12_used_11 : decode cX12_used 11 = .ok (.if_icmp .ge 23, 3) := by decide +kernel
theorem dX12_used_14 : decode cX12_used 14 = .ok (.iload_n 1, 1) := by decide +kernel
theorem dX12_used_15 : decode cX12_used 15 = .ok (.aload_n 0, 1) := by decide +kernel
theorem dX12_used_16 : decode cX12_used 16 = .ok (.getfield 17, 3) := by decide +kernel
theorem dX12_used_19 : decode cX12_used 19 = .ok (.iload_n 2, 1) := by decide +kernel
theorem dX12_used_20 : decode cX12_used 20 = .ok (.invokestatic 200, 3) := by decide +kernel
theorem dX12_used_23 : decode cX12_used 23 = .ok (.iconst 0, 1) := by decide +kernel
theorem dX12_used_24 : decode cX12_used 24 = .ok (.iadd, 1) := by decide +kernel
theorem dX12_used_25 : decode cX12_used 25 = .ok (.iaload, 1) := by decide +kernel
theorem dX12_used_26 : decode cX12_used 26 = .ok (.iadd, 1) := by decide +kernel
theorem dX12_used_27 : decode cX12_used 27 = .ok (.istore_n 1, 1) := by decide +kernel
theorem dX12_used_28 : decode cX12_used 28 = .ok (.iinc 2 1, 3) := by decide +kernel
theorem dX12_used_31 : decode cX12_used 31 = .ok (.goto (-27), 3) := by decide +kernel
theorem dX12_used_34 : decode cX12_used 34 = .ok (.iload_n 1, 1) := by decide +kernel
theorem dX12_used_35 : decode cX12_used 35 = .ok (.ireturn, 1) := by decide +kernel
theorem dX12_count_0 : decode cX12_count 0 = .ok (.iconst 0, 1) := by decide +kernel
theorem dX12_count_1 : decode cX12_count 1 = .ok (.istore_n 2, 1) := by decide +kernel
theorem dX12_count_2 : decode cX12_count 2 = .ok (.iconst 0, 1) := by decide +kernel
theorem dX12_count_3 : decode cX12_count 3 = .ok (.istore_n 3, 1) := by decide +kernel
theorem dX12_count_4 : decode cX12_count 4 = .ok (.iload_n 3, 1) := by decide +kernel
theorem dX12_count_5 : decode cX12_count 5 = .ok (.aload_n 0, 1) := by decide +kernel
theorem dX12_count_6 : decode cX12_count 6 = .ok (.invokevirtual 290, 3) := by decide +kernel
theorem dX12_count_9 : decode cX12_count 9 = .ok (.if_icmp .ge 62, 3) := by decide +kernel
theorem dX12_count_12 : decode cX12_count 12 = .ok (.iload_n 2, 1) := by decide +kernel
theorem dX12_count_13 : decode cX12_count 13 = .ok (.iload_n 1, 1) := by decide +kernel
theorem dX12_count_14 : decode cX12_count 14 = .ok (.ifCond .ne 14, 3) := by decide +kernel
theorem dX12_count_17 : decode cX12_count 17 = .ok (.aload_n 0, 1) := by decide +kernel
theorem dX12_count_18 : decode cX12_count 18 = .ok (.iload_n 3, 1) := by decide +kernel
theorem dX12_count_19 : decode cX12_count 19 = .ok (.invokevirtual 315, 3) := by decide +kernel
theorem dX12_count_22 : decode cX12_count 22 = .ok (.ifCond .eq 40, 3) := by decide +kernel
theorem dX12_count_25 : decode cX12_count 25 = .ok (.goto 33, 3) := by decide +kernel
theorem dX12_count_28 : decode cX12_count 28 = .ok (.iload_n 1, 1) := by decide +kernel
theorem dX12_count_29 : decode cX12_count 29 = .ok (.iconst 1, 1) := by decide +kernel
theorem dX12_count_30 : decode cX12_count 30 = .ok (.if_icmp .ne 14, 3) := by decide +kernel
theorem dX12_count_33 : decode cX12_count 33 = .ok (.aload_n 0, 1) := by decide +kernel
theorem dX12_count_34 : decode cX12_count 34 = .ok (.iload_n 3, 1) := by decide +kernel
theorem dX12_count_35 : decode cX12_count 35 = .ok (.invokevirtual 322, 3) := by decide +kernel
theorem dX12_count_38 : decode cX12_count 38 = .ok (.ifCond .eq 24, 3) := by decide +kernel
theorem dX12_count_41 : decode cX12_count 41 = .ok (.goto 17, 3) := by decide +kernel
theorem dX12_count_44 : decode cX12_count 44 = .ok (.aload_n 0, 1) := by decide +kernel
theorem dX12_count_45 : decode cX12_count 45 = .ok (.getfield 17, 3) := by decide +kernel
theorem dX12_count_48 : decode cX12_count 48 = .ok (.sipush 408, 3) := by decide +kernel
theorem dX12_count_51 : decode cX12_count 51 = .ok (.iload_n 3, 1) := by decide +kernel
theorem dX12_count_52 : decode cX12_count 52 = .ok (.iadd, 1) := by decide +kernel
theorem dX12_count_53 : decode cX12_count 53 = .ok (.iaload, 1) := by decide +kernel
theorem dX12_count_54 : decode cX12_count 54 = .ok (.iconst 1, 1) := by decide +kernel
theorem dX12_count_55 : decode cX12_count 55 = .ok (.if_icmp .ne 7, 3) := by decide +kernel
theorem dX12_count_58 : decode cX12_count 58 = .ok (.iconst 1, 1) := by decide +kernel
theorem dX12_count_59 : decode cX12_count 59 = .ok (.goto 4, 3) := by decide +kernel
theorem dX12_count_62 : decode cX12_count 62 = .ok (.iconst 0, 1) := by decide +kernel
theorem dX12_count_63 : decode cX12_count 63 = .ok (.iadd, 1) := by decide +kernel
theorem dX12_count_64 : decode cX12_count 64 = .ok (.istore_n 2, 1) := by decide +kernel
theorem dX12_count_65 : decode cX12_count 65 = .ok (.iinc 3 1, 3) := by decide +kernel
theorem dX12_count_68 : decode cX12_count 68 = .ok (.goto (-64), 3) := by decide +kernel
theorem dX12_count_71 : decode cX12_count 71 = .ok (.iload_n 2, 1) := by decide +kernel
theorem dX12_count_72 : decode cX12_count 72 = .ok (.ireturn, 1) := by decide +kernel
theorem dX12_told_0 : decode cX12_told 0 = .ok (.iload_n 1, 1) := by decide +kernel
theorem dX12_told_1 : decode cX12_told 1 = .ok (.tableswitch 129 0 11 #[63, 70, 77, 82, 89, 96, 101, 101, 101, 110, 115, 122], 63) := by decide +kernel
theorem dX12_told_64 : decode cX12_told 64 = .ok (.aload_n 0, 1) := by decide +kernel
theorem dX12_told_65 : decode cX12_told 65 = .ok (.getfield 17, 3) := by decide +kernel
theorem dX12_told_68 : decode cX12_told 68 = .ok (.iconst 0, 1) := by decide +kernel
theorem dX12_told_69 : decode cX12_told 69 = .ok (.iaload, 1) := by decide +kernel
theorem dX12_told_70 : decode cX12_told 70 = .ok (.ireturn, 1) := by decide +kernel
theorem dX12_told_71 : decode cX12_told 71 = .ok (.aload_n 0, 1) := by decide +kernel
theorem dX12_told_72 : decode cX12_told 72 = .ok (.getfield 17, 3) := by decide +kernel
theorem dX12_told_75 : decode cX12_told 75 = .ok (.iconst 1, 1) := by decide +kernel
theorem dX12_told_76 : decode cX12_told 76 = .ok (.iaload, 1) := by decide +kernel
theorem dX12_told_77 : decode cX12_told 77 = .ok (.ireturn, 1) := by decide +kernel
theorem dX12_told_78 : decode cX12_told 78 = .ok (.aload_n 0, 1) := by decide +kernel
theorem dX12_told_79 : decode cX12_told 79 = .ok (.invokevirtual 325, 3) := by decide +kernel
theorem dX12_told_82 : decode cX12_told 82 = .ok (.ireturn, 1) := by decide +kernel
theorem dX12_told_83 : decode cX12_told 83 = .ok (.aload_n 0, 1) := by decide +kernel
theorem dX12_told_84 : decode cX12_told 84 = .ok (.getfield 17, 3) := by decide +kernel
theorem dX12_told_87 : decode cX12_told 87 = .ok (.iconst 2, 1) := by decide +kernel
theorem dX12_told_88 : decode cX12_told 88 = .ok (.iaload, 1) := by decide +kernel
theorem dX12_told_89 : decode cX12_told 89 = .ok (.ireturn, 1) := by decide +kernel
theorem dX12_told_90 : decode cX12_told 90 = .ok (.aload_n 0, 1) := by decide +kernel
theorem dX12_told_91 : decode cX12_told 91 = .ok (.getfield 17, 3) := by decide +kernel
theorem dX12_told_94 : decode cX12_told 94 = .ok (.iconst 3, 1) := by decide +kernel
theorem dX12_told_95 : decode cX12_told 95 = .ok (.iaload, 1) := by decide +kernel
theorem dX12_told_96 : decode cX12_told 96 = .ok (.ireturn, 1) := by decide +kernel
theorem dX12_told_97 : decode cX12_told 97 = .ok (.aload_n 0, 1) := by decide +kernel
theorem dX12_told_98 : decode cX12_told 98 = .ok (.invokevirtual 328, 3) := by decide +kernel
theorem dX12_told_101 : decode cX12_told 101 = .ok (.ireturn, 1) := by decide +kernel
theorem dX12_told_102 : decode cX12_told 102 = .ok (.aload_n 0, 1) := by decide +kernel
theorem dX12_told_103 : decode cX12_told 103 = .ok (.iload_n 1, 1) := by decide +kernel
theorem dX12_told_104 : decode cX12_told 104 = .ok (.bipush 6, 2) := by decide +kernel
theorem dX12_told_106 : decode cX12_told 106 = .ok (.isub, 1) := by decide +kernel
theorem dX12_told_107 : decode cX12_told 107 = .ok (.invokevirtual 331, 3) := by decide +kernel
theorem dX12_told_110 : decode cX12_told 110 = .ok (.ireturn, 1) := by decide +kernel
theorem dX12_told_111 : decode cX12_told 111 = .ok (.aload_n 0, 1) := by decide +kernel
theorem dX12_told_112 : decode cX12_told 112 = .ok (.invokevirtual 334, 3) := by decide +kernel
theorem dX12_told_115 : decode cX12_told 115 = .ok (.ireturn, 1) := by decide +kernel
theorem dX12_told_116 : decode cX12_told 116 = .ok (.aload_n 0, 1) := by decide +kernel
theorem dX12_told_117 : decode cX12_told 117 = .ok (.getfield 17, 3) := by decide +kernel
theorem dX12_told_120 : decode cX12_told 120 = .ok (.iconst 4, 1) := by decide +kernel
theorem dX12_told_121 : decode cX12_told 121 = .ok (.iaload, 1) := by decide +kernel
theorem dX12_told_122 : decode cX12_told 122 = .ok (.ireturn, 1) := by decide +kernel
theorem dX12_told_123 : decode cX12_told 123 = .ok (.aload_n 0, 1) := by decide +kernel
theorem dX12_told_124 : decode cX12_told 124 = .ok (.getfield 17, 3) := by decide +kernel
theorem dX12_told_127 : decode cX12_told 127 = .ok (.iconst 5, 1) := by decide +kernel
theorem dX12_told_128 : decode cX12_told 128 = .ok (.iaload, 1) := by decide +kernel
theorem dX12_told_129 : decode cX12_told 129 = .ok (.ireturn, 1) := by decide +kernel
theorem dX12_told_130 : decode cX12_told 130 = .ok (.aload_n 0, 1) := by decide +kernel
theorem dX12_told_131 : decode cX12_told 131 = .ok (.getfield 17, 3) := by decide +kernel
theorem dX12_told_134 : decode cX12_told 134 = .ok (.bipush 6, 2) := by decide +kernel
theorem dX12_told_136 : decode cX12_told 136 = .ok (.iaload, 1) := by decide +kernel
theorem dX12_told_137 : decode cX12_told 137 = .ok (.ireturn, 1) := by decide +kernel
theorem dX12_state_0 : decode cX12_state 0 = .ok (.aload_n 0, 1) := by decide +kernel
theorem dX12_state_1 : decode cX12_state 1 = .ok (.iconst 0, 1) := by decide +kernel
theorem dX12_state_2 : decode cX12_state 2 = .ok (.putfield 69, 3) := by decide +kernel
theorem dX12_state_5 : decode cX12_state 5 = .ok (.aload_n 0, 1) := by decide +kernel
theorem dX12_state_6 : decode cX12_state 6 = .ok (.iload_n 1, 1) := by decide +kernel
theorem dX12_state_7 : decode cX12_state 7 = .ok (.iconst 0, 1) := by decide +kernel
theorem dX12_state_8 : decode cX12_state 8 = .ok (.bipush 12, 2) := by decide +kernel
theorem dX12_state_10 : decode cX12_state 10 = .ok (.invokestatic 91, 3) := by decide +kernel
theorem dX12_state_13 : decode cX12_state 13 = .ok (.ifCond .ne 7, 3) := by decide +kernel
theorem dX12_state_16 : decode cX12_state 16 = .ok (.iconst 1, 1) := by decide +kernel
theorem dX12_state_17 : decode cX12_state 17 = .ok (.goto 4, 3) := by decide +kernel
theorem dX12_state_20 : decode cX12_state 20 = .ok (.iconst 0, 1) := by decide +kernel
theorem dX12_state_21 : decode cX12_state 21 = .ok (.iconst 1, 1) := by decide +kernel
theorem dX12_state_22 : decode cX12_state 22 = .ok (.invokevirtual 246, 3) := by decide +kernel
theorem dX12_state_25 : decode cX12_state 25 = .ok (.ifCond .eq 7, 3) := by decide +kernel
theorem dX12_state_28 : decode cX12_state 28 = .ok (.iconst 0, 1) := by decide +kernel
theorem dX12_state_29 : decode cX12_state 29 = .ok (.goto 8, 3) := by decide +kernel
theorem dX12_state_32 : decode cX12_state 32 = .ok (.aload_n 0, 1) := by decide +kernel
theorem dX12_state_33 : decode cX12_state 33 = .ok (.iload_n 1, 1) := by decide +kernel
theorem dX12_state_34 : decode cX12_state 34 = .ok (.invokevirtual 337, 3) := by decide +kernel
theorem dX12_state_37 : decode cX12_state 37 = .ok (.ireturn, 1) := by decide +kernel
theorem dX12_toldCell_0 : decode cX12_toldCell 0 = .ok (.aload_n 0, 1) := by decide +kernel
theorem dX12_toldCell_1 : decode cX12_toldCell 1 = .ok (.iload_n 1, 1) := by decide +kernel
theorem dX12_toldCell_2 : decode cX12_toldCell 2 = .ok (.invokevirtual 274, 3) := by decide +kernel
theorem dX12_toldCell_5 : decode cX12_toldCell 5 = .ok (.ifCond .ne 5, 3) := by decide +kernel
theorem dX12_toldCell_8 : decode cX12_toldCell 8 = .ok (.iconst 0, 1) := by decide +kernel
theorem dX12_toldCell_9 : decode cX12_toldCell 9 = .ok (.ireturn, 1) := by decide +kernel
theorem dX12_toldCell_10 : decode cX12_toldCell 10 = .ok (.aload_n 0, 1) := by decide +kernel
theorem dX12_toldCell_11 : decode cX12_toldCell 11 = .ok (.iload_n 1, 1) := by decide +kernel
theorem dX12_toldCell_12 : decode cX12_toldCell 12 = .ok (.invokevirtual 315, 3) := by decide +kernel
theorem dX12_toldCell_15 : decode cX12_toldCell 15 = .ok (.ifCond .eq 7, 3) := by decide +kernel
theorem dX12_toldCell_18 : decode cX12_toldCell 18 = .ok (.iconst 3, 1) := by decide +kernel
theorem dX12_toldCell_19 : decode cX12_toldCell 19 = .ok (.goto 4, 3) := by decide +kernel
theorem dX12_toldCell_22 : decode cX12_toldCell 22 = .ok (.iconst 1, 1) := by decide +kernel
theorem dX12_toldCell_23 : decode cX12_toldCell 23 = .ok (.aload_n 0, 1) := by decide +kernel
theorem dX12_toldCell_24 : decode cX12_toldCell 24 = .ok (.getfield 17, 3) := by decide +kernel
theorem dX12_toldCell_27 : decode cX12_toldCell 27 = .ok (.sipush 408, 3) := by decide +kernel
theorem dX12_toldCell_30 : decode cX12_toldCell 30 = .ok (.iload_n 1, 1) := by decide +kernel
theorem dX12_toldCell_31 : decode cX12_toldCell 31 = .ok (.iadd, 1) := by decide +kernel
theorem dX12_toldCell_32 : decode cX12_toldCell 32 = .ok (.iaload, 1) := by decide +kernel
theorem dX12_toldCell_33 : decode cX12_toldCell 33 = .ok (.iadd, 1) := by decide +kernel
theorem dX12_toldCell_34 : decode cX12_toldCell 34 = .ok (.ireturn, 1) := by decide +kernel
theorem dX12_cell_0 : decode cX12_cell 0 = .ok (.aload_n 0, 1) := by decide +kernel
theorem dX12_cell_1 : decode cX12_cell 1 = .ok (.iconst 0, 1) := by decide +kernel
theorem dX12_cell_2 : decode cX12_cell 2 = .ok (.putfield 69, 3) := by decide +kernel
theorem dX12_cell_5 : decode cX12_cell 5 = .ok (.aload_n 0, 1) := by decide +kernel
theorem dX12_cell_6 : decode cX12_cell 6 = .ok (.iload_n 1, 1) := by decide +kernel
theorem dX12_cell_7 : decode cX12_cell 7 = .ok (.iload_n 2, 1) := by decide +kernel
theorem dX12_cell_8 : decode cX12_cell 8 = .ok (.invokevirtual 340, 3) := by decide +kernel
theorem dX12_cell_11 : decode cX12_cell 11 = .ok (.ifCond .eq 7, 3) := by decide +kernel
theorem dX12_cell_14 : decode cX12_cell 14 = .ok (.iconst 0, 1) := by decide +kernel
theorem dX12_cell_15 : decode cX12_cell 15 = .ok (.goto 13, 3) := by decide +kernel
theorem dX12_cell_18 : decode cX12_cell 18 = .ok (.aload_n 0, 1) := by decide +kernel
theorem dX12_cell_19 : decode cX12_cell 19 = .ok (.aload_n 0, 1) := by decide +kernel
theorem dX12_cell_20 : decode cX12_cell 20 = .ok (.iload_n 1, 1) := by decide +kernel
theorem dX12_cell_21 : decode cX12_cell 21 = .ok (.iload_n 2, 1) := by decide +kernel
theorem dX12_cell_22 : decode cX12_cell 22 = .ok (.invokevirtual 271, 3) := by decide +kernel
theorem dX12_cell_25 : decode cX12_cell 25 = .ok (.invokevirtual 343, 3) := by decide +kernel
theorem dX12_cell_28 : decode cX12_cell 28 = .ok (.ireturn, 1) := by decide +kernel
theorem dX12_pace_0 : decode cX12_pace 0 = .ok (.aload_n 0, 1) := by decide +kernel
theorem dX12_pace_1 : decode cX12_pace 1 = .ok (.iconst 0, 1) := by decide +kernel
theorem dX12_pace_2 : decode cX12_pace 2 = .ok (.putfield 69, 3) := by decide +kernel
theorem dX12_pace_5 : decode cX12_pace 5 = .ok (.aload_n 0, 1) := by decide +kernel
theorem dX12_pace_6 : decode cX12_pace 6 = .ok (.iload_n 1, 1) := by decide +kernel
theorem dX12_pace_7 : decode cX12_pace 7 = .ok (.iload_n 2, 1) := by decide +kernel
theorem dX12_pace_8 : decode cX12_pace 8 = .ok (.invokevirtual 340, 3) := by decide +kernel
theorem dX12_pace_11 : decode cX12_pace 11 = .ok (.ifCond .ne 26, 3) := by decide +kernel
theorem dX12_pace_14 : decode cX12_pace 14 = .ok (.aload_n 0, 1) := by decide +kernel
theorem dX12_pace_15 : decode cX12_pace 15 = .ok (.iload_n 3, 1) := by decide +kernel
theorem dX12_pace_16 : decode cX12_pace 16 = .ok (.iconst 0, 1) := by decide +kernel
theorem dX12_pace_17 : decode cX12_pace 17 = .ok (.bipush 7, 2) := by decide +kernel
theorem dX12_pace_19 : decode cX12_pace 19 = .ok (.invokestatic 91, 3) := by decide +kernel
theorem dX12_pace_22 : decode cX12_pace 22 = .ok (.ifCond .ne 7, 3) := by decide +kernel
theorem dX12_pace_25 : decode cX12_pace 25 = .ok (.iconst 1, 1) := by decide +kernel
theorem dX12_pace_26 : decode cX12_pace 26 = .ok (.goto 4, 3) := by decide +kernel
theorem dX12_pace_29 : decode cX12_pace 29 = .ok (.iconst 0, 1) := by decide +kernel
theorem dX12_pace_30 : decode cX12_pace 30 = .ok (.iconst 2, 1) := by decide +kernel
theorem dX12_pace_31 : decode cX12_pace 31 = .ok (.invokevirtual 246, 3) := by decide +kernel
theorem dX12_pace_34 : decode cX12_pace 34 = .ok (.ifCond .eq 7, 3) := by decide +kernel
theorem dX12_pace_37 : decode cX12_pace 37 = .ok (.iconst 0, 1) := by decide +kernel
theorem dX12_pace_38 : decode cX12_pace 38 = .ok (.goto 14, 3) := by decide +kernel
theorem dX12_pace_41 : decode cX12_pace 41 = .ok (.aload_n 0, 1) := by decide +kernel
theorem dX12_pace_42 : decode cX12_pace 42 = .ok (.aload_n 0, 1) := by decide +kernel
theorem dX12_pace_43 : decode cX12_pace 43 = .ok (.iload_n 1, 1) := by decide +kernel
theorem dX12_pace_44 : decode cX12_pace 44 = .ok (.iload_n 2, 1) := by decide +kernel
theorem dX12_pace_45 : decode cX12_pace 45 = .ok (.invokevirtual 271, 3) := by decide +kernel
theorem dX12_pace_48 : decode cX12_pace 48 = .ok (.iload_n 3, 1) := by decide +kernel
theorem dX12_pace_49 : decode cX12_pace 49 = .ok (.invokevirtual 280, 3) := by decide +kernel
theorem dX12_pace_52 : decode cX12_pace 52 = .ok (.ireturn, 1) := by decide +kernel
theorem dX12_reachedBy_0 : decode cX12_reachedBy 0 = .ok (.aload_n 0, 1) := by decide +kernel
theorem dX12_reachedBy_1 : decode cX12_reachedBy 1 = .ok (.invokevirtual 305, 3) := by decide +kernel
theorem dX12_reachedBy_4 : decode cX12_reachedBy 4 = .ok (.iconst 0, 1) := by decide +kernel
theorem dX12_reachedBy_5 : decode cX12_reachedBy 5 = .ok (.istore_n 3, 1) := by decide +kernel
theorem dX12_reachedBy_6 : decode cX12_reachedBy 6 = .ok (.iconst 0, 1) := by decide +kernel
theorem dX12_reachedBy_7 : decode cX12_reachedBy 7 = .ok (.istore 4, 2) := by decide +kernel
theorem dX12_reachedBy_9 : decode cX12_reachedBy 9 = .ok (.iload 4, 2) := by decide +kernel
theorem dX12_reachedBy_11 : decode cX12_reachedBy 11 = .ok (.aload_n 0, 1) := by decide +kernel
theorem dX12_reachedBy_12 : decode cX12_reachedBy 12 = .ok (.invokevirtual 290, 3) := by decide +kernel
theorem dX12_reachedBy_15 : decode cX12_reachedBy 15 = .ok (.if_icmp .ge 31, 3) := by decide +kernel
theorem dX12_reachedBy_18 : decode cX12_reachedBy 18 = .ok (.iload_n 3, 1) := by decide +kernel
theorem dX12_reachedBy_19 : decode cX12_reachedBy 19 = .ok (.aload_n 0, 1) := by decide +kernel
theorem dX12_reachedBy_20 : decode cX12_reachedBy 20 = .ok (.getfield 36, 3) := by decide +kernel
theorem dX12_reachedBy_23 : decode cX12_reachedBy 23 = .ok (.iload_n 1, 1) := by decide +kernel
theorem dX12_reachedBy_24 : decode cX12_reachedBy 24 = .ok (.aaload, 1) := by decide +kernel
theorem dX12_reachedBy_25 : decode cX12_reachedBy 25 = .ok (.iload_n 2, 1) := by decide +kernel
theorem dX12_reachedBy_26 : decode cX12_reachedBy 26 = .ok (.aaload, 1) := by decide +kernel
theorem dX12_reachedBy_27 : decode cX12_reachedBy 27 = .ok (.iload 4, 2) := by decide +kernel
theorem dX12_reachedBy_29 : decode cX12_reachedBy 29 = .ok (.baload, 1) := by decide +kernel
theorem dX12_reachedBy_30 : decode cX12_reachedBy 30 = .ok (.ifCond .eq 7, 3) := by decide +kernel
theorem dX12_reachedBy_33 : decode cX12_reachedBy 33 = .ok (.iconst 1, 1) := by decide +kernel
theorem dX12_reachedBy_34 : decode cX12_reachedBy 34 = .ok (.goto 4, 3) := by decide +kernel
theorem dX12_reachedBy_37 : decode cX12_reachedBy 37 = .ok (.iconst 0, 1) := by decide +kernel
theorem dX12_reachedBy_38 : decode cX12_reachedBy 38 = .ok (.iadd, 1) := by decide +kernel
theorem dX12_reachedBy_39 : decode cX12_reachedBy 39 = .ok (.istore_n 3, 1) := by decide +kernel
theorem dX12_reachedBy_40 : decode cX12_reachedBy 40 = .ok (.iinc 4 1, 3) := by decide +kernel
theorem dX12_reachedBy_43 : decode cX12_reachedBy 43 = .ok (.goto (-34), 3) := by decide +kernel
theorem dX12_reachedBy_46 : decode cX12_reachedBy 46 = .ok (.iload_n 3, 1) := by decide +kernel
theorem dX12_reachedBy_47 : decode cX12_reachedBy 47 = .ok (.ireturn, 1) := by decide +kernel
theorem dX12_reached_0 : decode cX12_reached 0 = .ok (.aload_n 0, 1) := by decide +kernel
theorem dX12_reached_1 : decode cX12_reached 1 = .ok (.iconst 0, 1) := by decide +kernel
theorem dX12_reached_2 : decode cX12_reached 2 = .ok (.putfield 69, 3) := by decide +kernel
theorem dX12_reached_5 : decode cX12_reached 5 = .ok (.aload_n 0, 1) := by decide +kernel
theorem dX12_reached_6 : decode cX12_reached 6 = .ok (.iload_n 1, 1) := by decide +kernel
theorem dX12_reached_7 : decode cX12_reached 7 = .ok (.invokevirtual 346, 3) := by decide +kernel
theorem dX12_reached_10 : decode cX12_reached 10 = .ok (.ifCond .ne 29, 3) := by decide +kernel
theorem dX12_reached_13 : decode cX12_reached 13 = .ok (.aload_n 0, 1) := by decide +kernel
theorem dX12_reached_14 : decode cX12_reached 14 = .ok (.iload_n 2, 1) := by decide +kernel
theorem dX12_reached_15 : decode cX12_reached 15 = .ok (.iconst 0, 1) := by decide +kernel
theorem dX12_reached_16 : decode cX12_reached 16 = .ok (.aload_n 0, 1) := by decide +kernel
theorem dX12_reached_17 : decode cX12_reached 17 = .ok (.iload_n 1, 1) := by decide +kernel
theorem dX12_reached_18 : decode cX12_reached 18 = .ok (.invokevirtual 287, 3) := by decide +kernel
theorem dX12_reached_21 : decode cX12_reached 21 = .ok (.invokestatic 91, 3) := by decide +kernel
theorem dX12_reached_24 : decode cX12_reached 24 = .ok (.ifCond .ne 7, 3) := by decide +kernel
theorem dX12_reached_27 : decode cX12_reached 27 = .ok (.iconst 1, 1) := by decide +kernel
theorem dX12_reached_28 : decode cX12_reached 28 = .ok (.goto 4, 3) := by decide +kernel
theorem dX12_reached_31 : decode cX12_reached 31 = .ok (.iconst 0, 1) := by decide +kernel
theorem dX12_reached_32 : decode cX12_reached 32 = .ok (.iconst 2, 1) := by decide +kernel
theorem dX12_reached_33 : decode cX12_reached 33 = .ok (.invokevirtual 246, 3) := by decide +kernel
theorem dX12_reached_36 : decode cX12_reached 36 = .ok (.ifCond .eq 7, 3) := by decide +kernel
theorem dX12_reached_39 : decode cX12_reached 39 = .ok (.iconst 0, 1) := by decide +kernel
theorem dX12_reached_40 : decode cX12_reached 40 = .ok (.goto 9, 3) := by decide +kernel
theorem dX12_reached_43 : decode cX12_reached 43 = .ok (.aload_n 0, 1) := by decide +kernel
theorem dX12_reached_44 : decode cX12_reached 44 = .ok (.iload_n 1, 1) := by decide +kernel
theorem dX12_reached_45 : decode cX12_reached 45 = .ok (.iload_n 2, 1) := by decide +kernel
theorem dX12_reached_46 : decode cX12_reached 46 = .ok (.invokevirtual 349, 3) := by decide +kernel
theorem dX12_reached_49 : decode cX12_reached 49 = .ok (.ireturn, 1) := by decide +kernel
theorem dX12_ends_0 : decode cX12_ends 0 = .ok (.aload_n 0, 1) := by decide +kernel
theorem dX12_ends_1 : decode cX12_ends 1 = .ok (.iconst 0, 1) := by decide +kernel
theorem dX12_ends_2 : decode cX12_ends 2 = .ok (.putfield 69, 3) := by decide +kernel
theorem dX12_ends_5 : decode cX12_ends 5 = .ok (.aload_n 0, 1) := by decide +kernel
theorem dX12_ends_6 : decode cX12_ends 6 = .ok (.iload_n 1, 1) := by decide +kernel
theorem dX12_ends_7 : decode cX12_ends 7 = .ok (.invokevirtual 346, 3) := by decide +kernel
theorem dX12_ends_10 : decode cX12_ends 10 = .ok (.ifCond .ne 12, 3) := by decide +kernel
theorem dX12_ends_13 : decode cX12_ends 13 = .ok (.aload_n 0, 1) := by decide +kernel
theorem dX12_ends_14 : decode cX12_ends 14 = .ok (.iload_n 2, 1) := by decide +kernel
theorem dX12_ends_15 : decode cX12_ends 15 = .ok (.iload_n 3, 1) := by decide +kernel
theorem dX12_ends_16 : decode cX12_ends 16 = .ok (.invokevirtual 340, 3) := by decide +kernel
theorem dX12_ends_19 : decode cX12_ends 19 = .ok (.ifCond .eq 5, 3) := by decide +kernel
theorem dX12_ends_22 : decode cX12_ends 22 = .ok (.iconst 0, 1) := by decide +kernel
theorem dX12_ends_23 : decode cX12_ends 23 = .ok (.ireturn, 1) := by decide +kernel
theorem dX12_ends_24 : decode cX12_ends 24 = .ok (.aload_n 0, 1) := by decide +kernel
theorem dX12_ends_25 : decode cX12_ends 25 = .ok (.invokevirtual 305, 3) := by decide +kernel
theorem dX12_ends_28 : decode cX12_ends 28 = .ok (.aload_n 0, 1) := by decide +kernel
theorem dX12_ends_29 : decode cX12_ends 29 = .ok (.iload_n 1, 1) := by decide +kernel
theorem dX12_ends_30 : decode cX12_ends 30 = .ok (.aload_n 0, 1) := by decide +kernel
theorem dX12_ends_31 : decode cX12_ends 31 = .ok (.iload_n 2, 1) := by decide +kernel
theorem dX12_ends_32 : decode cX12_ends 32 = .ok (.iload_n 3, 1) := by decide +kernel
theorem dX12_ends_33 : decode cX12_ends 33 = .ok (.invokevirtual 271, 3) := by decide +kernel
theorem dX12_ends_36 : decode cX12_ends 36 = .ok (.invokevirtual 308, 3) := by decide +kernel
theorem dX12_ends_39 : decode cX12_ends 39 = .ok (.ireturn, 1) := by decide +kernel
theorem dX12_why_0 : decode cX12_why 0 = .ok (.aload_n 0, 1) := by decide +kernel
theorem dX12_why_1 : decode cX12_why 1 = .ok (.iconst 0, 1) := by decide +kernel
theorem dX12_why_2 : decode cX12_why 2 = .ok (.putfield 69, 3) := by decide +kernel
theorem dX12_why_5 : decode cX12_why 5 = .ok (.aload_n 0, 1) := by decide +kernel
theorem dX12_why_6 : decode cX12_why 6 = .ok (.iload_n 1, 1) := by decide +kernel
theorem dX12_why_7 : decode cX12_why 7 = .ok (.iload_n 2, 1) := by decide +kernel
theorem dX12_why_8 : decode cX12_why 8 = .ok (.invokevirtual 340, 3) := by decide +kernel
theorem dX12_why_11 : decode cX12_why 11 = .ok (.ifCond .eq 5, 3) := by decide +kernel
theorem dX12_why_14 : decode cX12_why 14 = .ok (.iconst 0, 1) := by decide +kernel
theorem dX12_why_15 : decode cX12_why 15 = .ok (.ireturn, 1) := by decide +kernel
theorem dX12_why_16 : decode cX12_why 16 = .ok (.aload_n 0, 1) := by decide +kernel
theorem dX12_why_17 : decode cX12_why 17 = .ok (.aload_n 0, 1) := by decide +kernel
theorem dX12_why_18 : decode cX12_why 18 = .ok (.iload_n 1, 1) := by decide +kernel
theorem dX12_why_19 : decode cX12_why 19 = .ok (.iload_n 2, 1) := by decide +kernel
theorem dX12_why_20 : decode cX12_why 20 = .ok (.invokevirtual 271, 3) := by decide +kernel
theorem dX12_why_23 : decode cX12_why 23 = .ok (.invokevirtual 274, 3) := by decide +kernel
theorem dX12_why_26 : decode cX12_why 26 = .ok (.ifCond .eq 18, 3) := by decide +kernel
theorem dX12_why_29 : decode cX12_why 29 = .ok (.aload_n 0, 1) := by decide +kernel
theorem dX12_why_30 : decode cX12_why 30 = .ok (.aload_n 0, 1) := by decide +kernel
theorem dX12_why_31 : decode cX12_why 31 = .ok (.iload_n 1, 1) := by decide +kernel
theorem dX12_why_32 : decode cX12_why 32 = .ok (.iload_n 2, 1) := by decide +kernel
theorem dX12_why_33 : decode cX12_why 33 = .ok (.invokevirtual 271, 3) := by decide +kernel
theorem dX12_why_36 : decode cX12_why 36 = .ok (.invokevirtual 312, 3) := by decide +kernel
theorem dX12_why_39 : decode cX12_why 39 = .ok (.iconst 1, 1) := by decide +kernel
theorem dX12_why_40 : decode cX12_why 40 = .ok (.iadd, 1) := by decide +kernel
theorem dX12_why_41 : decode cX12_why 41 = .ok (.goto 4, 3) := by decide +kernel
theorem dX12_why_44 : decode cX12_why 44 = .ok (.iconst (-1), 1) := by decide +kernel
theorem dX12_why_45 : decode cX12_why 45 = .ok (.ireturn, 1) := by decide +kernel
theorem dX12_walk_0 : decode cX12_walk 0 = .ok (.aload_n 0, 1) := by decide +kernel
theorem dX12_walk_1 : decode cX12_walk 1 = .ok (.iconst 0, 1) := by decide +kernel
theorem dX12_walk_2 : decode cX12_walk 2 = .ok (.putfield 69, 3) := by decide +kernel
theorem dX12_walk_5 : decode cX12_walk 5 = .ok (.aload_n 0, 1) := by decide +kernel
theorem dX12_walk_6 : decode cX12_walk 6 = .ok (.iload_n 1, 1) := by decide +kernel
theorem dX12_walk_7 : decode cX12_walk 7 = .ok (.invokevirtual 346, 3) := by decide +kernel
theorem dX12_walk_10 : decode cX12_walk 10 = .ok (.ifCond .ne 41, 3) := by decide +kernel
theorem dX12_walk_13 : decode cX12_walk 13 = .ok (.aload_n 0, 1) := by decide +kernel
theorem dX12_walk_14 : decode cX12_walk 14 = .ok (.iload_n 2, 1) := by decide +kernel
theorem dX12_walk_15 : decode cX12_walk 15 = .ok (.iload_n 3, 1) := by decide +kernel
theorem dX12_walk_16 : decode cX12_walk 16 = .ok (.invokevirtual 340, 3) := by decide +kernel
theorem dX12_walk_19 : decode cX12_walk 19 = .ok (.ifCond .ne 32, 3) := by decide +kernel
theorem dX12_walk_22 : decode cX12_walk 22 = .ok (.aload_n 0, 1) := by decide +kernel
theorem dX12_walk_23 : decode cX12_walk 23 = .ok (.iload 4, 2) := by decide +kernel
theorem dX12_walk_25 : decode cX12_walk 25 = .ok (.iconst 0, 1) := by decide +kernel
theorem dX12_walk_26 : decode cX12_walk 26 = .ok (.aload_n 0, 1) := by decide +kernel
theorem dX12_walk_27 : decode cX12_walk 27 = .ok (.iload_n 1, 1) := by decide +kernel
theorem dX12_walk_28 : decode cX12_walk 28 = .ok (.invokevirtual 287, 3) := by decide +kernel
theorem dX12_walk_31 : decode cX12_walk 31 = .ok (.iconst 1, 1) := by decide +kernel
theorem dX12_walk_32 : decode cX12_walk 32 = .ok (.isub, 1) := by decide +kernel
theorem dX12_walk_33 : decode cX12_walk 33 = .ok (.invokestatic 91, 3) := by decide +kernel
theorem dX12_walk_36 : decode cX12_walk 36 = .ok (.ifCond .ne 7, 3) := by decide +kernel
theorem dX12_walk_39 : decode cX12_walk 39 = .ok (.iconst 1, 1) := by decide +kernel
theorem dX12_walk_40 : decode cX12_walk 40 = .ok (.goto 4, 3) := by decide +kernel
theorem dX12_walk_43 : decode cX12_walk 43 = .ok (.iconst 0, 1) := by decide +kernel
theorem dX12_walk_44 : decode cX12_walk 44 = .ok (.iconst 1, 1) := by decide +kernel
theorem dX12_walk_45 : decode cX12_walk 45 = .ok (.invokevirtual 246, 3) := by decide +kernel
theorem dX12_walk_48 : decode cX12_walk 48 = .ok (.ifCond .eq 5, 3) := by decide +kernel
theorem dX12_walk_51 : decode cX12_walk 51 = .ok (.iconst 0, 1) := by decide +kernel
theorem dX12_walk_52 : decode cX12_walk 52 = .ok (.ireturn, 1) := by decide +kernel
theorem dX12_walk_53 : decode cX12_walk 53 = .ok (.aload_n 0, 1) := by decide +kernel
theorem dX12_walk_54 : decode cX12_walk 54 = .ok (.invokevirtual 305, 3) := by decide +kernel
theorem dX12_walk_57 : decode cX12_walk 57 = .ok (.aload_n 0, 1) := by decide +kernel
theorem dX12_walk_58 : decode cX12_walk 58 = .ok (.aload_n 0, 1) := by decide +kernel
theorem dX12_walk_59 : decode cX12_walk 59 = .ok (.iload_n 1, 1) := by decide +kernel
theorem dX12_walk_60 : decode cX12_walk 60 = .ok (.aload_n 0, 1) := by decide +kernel
theorem dX12_walk_61 : decode cX12_walk 61 = .ok (.iload_n 2, 1) := by decide +kernel
theorem dX12_walk_62 : decode cX12_walk 62 = .ok (.iload_n 3, 1) := by decide +kernel
theorem dX12_walk_63 : decode cX12_walk 63 = .ok (.invokevirtual 271, 3) := by decide +kernel
theorem dX12_walk_66 : decode cX12_walk 66 = .ok (.invokevirtual 308, 3) := by decide +kernel
theorem dX12_walk_69 : decode cX12_walk 69 = .ok (.ifCond .ne 7, 3) := by decide +kernel
theorem dX12_walk_72 : decode cX12_walk 72 = .ok (.iconst 1, 1) := by decide +kernel
theorem dX12_walk_73 : decode cX12_walk 73 = .ok (.goto 4, 3) := by decide +kernel
theorem dX12_walk_76 : decode cX12_walk 76 = .ok (.iconst 0, 1) := by decide +kernel
theorem dX12_walk_77 : decode cX12_walk 77 = .ok (.iconst 2, 1) := by decide +kernel
theorem dX12_walk_78 : decode cX12_walk 78 = .ok (.invokevirtual 246, 3) := by decide +kernel
theorem dX12_walk_81 : decode cX12_walk 81 = .ok (.ifCond .eq 5, 3) := by decide +kernel
theorem dX12_walk_84 : decode cX12_walk 84 = .ok (.iconst 0, 1) := by decide +kernel
theorem dX12_walk_85 : decode cX12_walk 85 = .ok (.ireturn, 1) := by decide +kernel
theorem dX12_walk_86 : decode cX12_walk 86 = .ok (.aload_n 0, 1) := by decide +kernel
theorem dX12_walk_87 : decode cX12_walk 87 = .ok (.iload_n 1, 1) := by decide +kernel
theorem dX12_walk_88 : decode cX12_walk 88 = .ok (.aload_n 0, 1) := by decide +kernel
theorem dX12_walk_89 : decode cX12_walk 89 = .ok (.iload_n 2, 1) := by decide +kernel
theorem dX12_walk_90 : decode cX12_walk 90 = .ok (.iload_n 3, 1) := by decide +kernel
theorem dX12_walk_91 : decode cX12_walk 91 = .ok (.invokevirtual 271, 3) := by decide +kernel
theorem dX12_walk_94 : decode cX12_walk 94 = .ok (.invokevirtual 352, 3) := by decide +kernel
theorem dX12_walk_97 : decode cX12_walk 97 = .ok (.iconst 0, 1) := by decide +kernel
theorem dX12_walk_98 : decode cX12_walk 98 = .ok (.istore 5, 2) := by decide +kernel
theorem dX12_walk_100 : decode cX12_walk 100 = .ok (.aload_n 0, 1) := by decide +kernel
theorem dX12_walk_101 : decode cX12_walk 101 = .ok (.getfield 41, 3) := by decide +kernel
theorem dX12_walk_104 : decode cX12_walk 104 = .ok (.iconst 0, 1) := by decide +kernel
theorem dX12_walk_105 : decode cX12_walk 105 = .ok (.aaload, 1) := by decide +kernel
theorem dX12_walk_106 : decode cX12_walk 106 = .ok (.aload_n 0, 1) := by decide +kernel
theorem dX12_walk_107 : decode cX12_walk 107 = .ok (.iload_n 1, 1) := by decide +kernel
theorem dX12_walk_108 : decode cX12_walk 108 = .ok (.iload 5, 2) := by decide +kernel
theorem dX12_walk_110 : decode cX12_walk 110 = .ok (.invokevirtual 293, 3) := by decide +kernel
theorem dX12_walk_113 : decode cX12_walk 113 = .ok (.baload, 1) := by decide +kernel
theorem dX12_walk_114 : decode cX12_walk 114 = .ok (.ifCond .ne 9, 3) := by decide +kernel
theorem dX12_walk_117 : decode cX12_walk 117 = .ok (.iinc 5 1, 3) := by decide +kernel
theorem dX12_walk_120 : decode cX12_walk 120 = .ok (.goto (-20), 3) := by decide +kernel
theorem dX12_walk_123 : decode cX12_walk 123 = .ok (.aload_n 0, 1) := by decide +kernel
theorem dX12_walk_124 : decode cX12_walk 124 = .ok (.iload_n 1, 1) := by decide +kernel
theorem dX12_walk_125 : decode cX12_walk 125 = .ok (.iload 5, 2) := by decide +kernel
theorem dX12_walk_127 : decode cX12_walk 127 = .ok (.invokevirtual 293, 3) := by decide +kernel
theorem dX12_walk_130 : decode cX12_walk 130 = .ok (.istore 6, 2) := by decide +kernel
theorem dX12_walk_132 : decode cX12_walk 132 = .ok (.iconst 0, 1) := by decide +kernel
theorem dX12_walk_133 : decode cX12_walk 133 = .ok (.istore 7, 2) := by decide +kernel
theorem dX12_walk_135 : decode cX12_walk 135 = .ok (.iload 7, 2) := by decide +kernel
theorem dX12_walk_137 : decode cX12_walk 137 = .ok (.iload 4, 2) := by decide +kernel
theorem dX12_walk_139 : decode cX12_walk 139 = .ok (.if_icmp .ge 29, 3) := by decide +kernel
theorem dX12_walk_142 : decode cX12_walk 142 = .ok (.aload_n 0, 1) := by decide +kernel
theorem dX12_walk_143 : decode cX12_walk 143 = .ok (.iload_n 1, 1) := by decide +kernel
theorem dX12_walk_144 : decode cX12_walk 144 = .ok (.iload 7, 2) := by decide +kernel
theorem dX12_walk_146 : decode cX12_walk 146 = .ok (.iload 6, 2) := by decide +kernel
theorem dX12_walk_148 : decode cX12_walk 148 = .ok (.invokevirtual 318, 3) := by decide +kernel
theorem dX12_walk_151 : decode cX12_walk 151 = .ok (.istore 8, 2) := by decide +kernel
theorem dX12_walk_153 : decode cX12_walk 153 = .ok (.aload_n 0, 1) := by decide +kernel
theorem dX12_walk_154 : decode cX12_walk 154 = .ok (.getfield 28, 3) := by decide +kernel
theorem dX12_walk_157 : decode cX12_walk 157 = .ok (.iload 8, 2) := by decide +kernel
theorem dX12_walk_159 : decode cX12_walk 159 = .ok (.iaload, 1) := by decide +kernel
theorem dX12_walk_160 : decode cX12_walk 160 = .ok (.istore 6, 2) := by decide +kernel
theorem dX12_walk_162 : decode cX12_walk 162 = .ok (.iinc 7 1, 3) := by decide +kernel
theorem dX12_walk_165 : decode cX12_walk 165 = .ok (.goto (-30), 3) := by decide +kernel
theorem dX12_walk_168 : decode cX12_walk 168 = .ok (.aload_n 0, 1) := by decide +kernel
theorem dX12_walk_169 : decode cX12_walk 169 = .ok (.getfield 31, 3) := by decide +kernel
theorem dX12_walk_172 : decode cX12_walk 172 = .ok (.aload_n 0, 1) := by decide +kernel
theorem dX12_walk_173 : decode cX12_walk 173 = .ok (.iload_n 1, 1) := by decide +kernel
theorem dX12_walk_174 : decode cX12_walk 174 = .ok (.iload 4, 2) := by decide +kernel
theorem dX12_walk_176 : decode cX12_walk 176 = .ok (.iload 6, 2) := by decide +kernel
theorem dX12_walk_178 : decode cX12_walk 178 = .ok (.invokevirtual 318, 3) := by decide +kernel
theorem dX12_walk_181 : decode cX12_walk 181 = .ok (.iaload, 1) := by decide +kernel
theorem dX12_walk_182 : decode cX12_walk 182 = .ok (.ireturn, 1) := by decide +kernel
theorem dX12_starts_0 : decode cX12_starts 0 = .ok (.aload_n 0, 1) := by decide +kernel
theorem dX12_starts_1 : decode cX12_starts 1 = .ok (.iconst 0, 1) := by decide +kernel
theorem dX12_starts_2 : decode cX12_starts 2 = .ok (.putfield 69, 3) := by decide +kernel
theorem dX12_starts_5 : decode cX12_starts 5 = .ok (.aload_n 0, 1) := by decide +kernel
theorem dX12_starts_6 : decode cX12_starts 6 = .ok (.iload_n 1, 1) := by decide +kernel
theorem dX12_starts_7 : decode cX12_starts 7 = .ok (.invokevirtual 346, 3) := by decide +kernel
theorem dX12_starts_10 : decode cX12_starts 10 = .ok (.ifCond .ne 12, 3) := by decide +kernel
theorem dX12_starts_13 : decode cX12_starts 13 = .ok (.aload_n 0, 1) := by decide +kernel
theorem dX12_starts_14 : decode cX12_starts 14 = .ok (.iload_n 2, 1) := by decide +kernel
theorem dX12_starts_15 : decode cX12_starts 15 = .ok (.iload_n 3, 1) := by decide +kernel
theorem dX12_starts_16 : decode cX12_starts 16 = .ok (.invokevirtual 340, 3) := by decide +kernel
theorem dX12_starts_19 : decode cX12_starts 19 = .ok (.ifCond .eq 5, 3) := by decide +kernel
theorem dX12_starts_22 : decode cX12_starts 22 = .ok (.iconst 0, 1) := by decide +kernel
theorem dX12_starts_23 : decode cX12_starts 23 = .ok (.ireturn, 1) := by decide +kernel
theorem dX12_starts_24 : decode cX12_starts 24 = .ok (.aload_n 0, 1) := by decide +kernel
theorem dX12_starts_25 : decode cX12_starts 25 = .ok (.iload_n 1, 1) := by decide +kernel
theorem dX12_starts_26 : decode cX12_starts 26 = .ok (.aload_n 0, 1) := by decide +kernel
theorem dX12_starts_27 : decode cX12_starts 27 = .ok (.iload_n 2, 1) := by decide +kernel
theorem dX12_starts_28 : decode cX12_starts 28 = .ok (.iload_n 3, 1) := by decide +kernel
theorem dX12_starts_29 : decode cX12_starts 29 = .ok (.invokevirtual 271, 3) := by decide +kernel
theorem dX12_starts_32 : decode cX12_starts 32 = .ok (.invokevirtual 352, 3) := by decide +kernel
theorem dX12_starts_35 : decode cX12_starts 35 = .ok (.iconst 0, 1) := by decide +kernel
theorem dX12_starts_36 : decode cX12_starts 36 = .ok (.istore 4, 2) := by decide +kernel
theorem dX12_starts_38 : decode cX12_starts 38 = .ok (.iconst 0, 1) := by decide +kernel
theorem dX12_starts_39 : decode cX12_starts 39 = .ok (.istore 5, 2) := by decide +kernel
theorem dX12_starts_41 : decode cX12_starts 41 = .ok (.iload 5, 2) := by decide +kernel
theorem dX12_starts_43 : decode cX12_starts 43 = .ok (.aload_n 0, 1) := by decide +kernel
theorem dX12_starts_44 : decode cX12_starts 44 = .ok (.getfield 17, 3) := by decide +kernel
theorem dX12_starts_47 : decode cX12_starts 47 = .ok (.iload_n 1, 1) := by decide +kernel
theorem dX12_starts_48 : decode cX12_starts 48 = .ok (.invokestatic 200, 3) := by decide +kernel
theorem dX12_starts_51 : decode cX12_starts 51 = .ok (.iconst 1, 1) := by decide +kernel
theorem dX12_starts_52 : decode cX12_starts 52 = .ok (.iadd, 1) := by decide +kernel
theorem dX12_starts_53 : decode cX12_starts 53 = .ok (.iaload, 1) := by decide +kernel
theorem dX12_starts_54 : decode cX12_starts 54 = .ok (.if_icmp .ge 36, 3) := by decide +kernel
theorem dX12_starts_57 : decode cX12_starts 57 = .ok (.iload 4, 2) := by decide +kernel
theorem dX12_starts_59 : decode cX12_starts 59 = .ok (.aload_n 0, 1) := by decide +kernel
theorem dX12_starts_60 : decode cX12_starts 60 = .ok (.getfield 41, 3) := by decide +kernel
theorem dX12_starts_63 : decode cX12_starts 63 = .ok (.iconst 0, 1) := by decide +kernel
theorem dX12_starts_64 : decode cX12_starts 64 = .ok (.aaload, 1) := by decide +kernel
theorem dX12_starts_65 : decode cX12_starts 65 = .ok (.aload_n 0, 1) := by decide +kernel
theorem dX12_starts_66 : decode cX12_starts 66 = .ok (.iload_n 1, 1) := by decide +kernel
theorem dX12_starts_67 : decode cX12_starts 67 = .ok (.iload 5, 2) := by decide +kernel
theorem dX12_starts_69 : decode cX12_starts 69 = .ok (.invokevirtual 293, 3) := by decide +kernel
theorem dX12_starts_72 : decode cX12_starts 72 = .ok (.baload, 1) := by decide +kernel
theorem dX12_starts_73 : decode cX12_starts 73 = .ok (.ifCond .eq 7, 3) := by decide +kernel
theorem dX12_starts_76 : decode cX12_starts 76 = .ok (.iconst 1, 1) := by decide +kernel
theorem dX12_starts_77 : decode cX12_starts 77 = .ok (.goto 4, 3) := by decide +kernel
theorem dX12_starts_80 : decode cX12_starts 80 = .ok (.iconst 0, 1) := by decide +kernel
theorem dX12_starts_81 : decode cX12_starts 81 = .ok (.iadd, 1) := by decide +kernel
theorem dX12_starts_82 : decode cX12_starts 82 = .ok (.istore 4, 2) := by decide +kernel
theorem dX12_starts_84 : decode cX12_starts 84 = .ok (.iinc 5 1, 3) := by decide +kernel
theorem dX12_starts_87 : decode cX12_starts 87 = .ok (.goto (-46), 3) := by decide +kernel
theorem dX12_starts_90 : decode cX12_starts 90 = .ok (.iload 4, 2) := by decide +kernel
theorem dX12_starts_92 : decode cX12_starts 92 = .ok (.ireturn, 1) := by decide +kernel
theorem dX12_distance_0 : decode cX12_distance 0 = .ok (.aload_n 0, 1) := by decide +kernel
theorem dX12_distance_1 : decode cX12_distance 1 = .ok (.iconst 0, 1) := by decide +kernel
theorem dX12_distance_2 : decode cX12_distance 2 = .ok (.putfield 69, 3) := by decide +kernel
theorem dX12_distance_5 : decode cX12_distance 5 = .ok (.aload_n 0, 1) := by decide +kernel
theorem dX12_distance_6 : decode cX12_distance 6 = .ok (.iload_n 1, 1) := by decide +kernel
theorem dX12_distance_7 : decode cX12_distance 7 = .ok (.iload_n 2, 1) := by decide +kernel
theorem dX12_distance_8 : decode cX12_distance 8 = .ok (.invokevirtual 340, 3) := by decide +kernel
theorem dX12_distance_11 : decode cX12_distance 11 = .ok (.ifCond .eq 5, 3) := by decide +kernel
theorem dX12_distance_14 : decode cX12_distance 14 = .ok (.iconst 0, 1) := by decide +kernel
theorem dX12_distance_15 : decode cX12_distance 15 = .ok (.ireturn, 1) := by decide +kernel
theorem dX12_distance_16 : decode cX12_distance 16 = .ok (.aload_n 0, 1) := by decide +kernel
theorem dX12_distance_17 : decode cX12_distance 17 = .ok (.aload_n 0, 1) := by decide +kernel
theorem dX12_distance_18 : decode cX12_distance 18 = .ok (.getfield 17, 3) := by decide +kernel
theorem dX12_distance_21 : decode cX12_distance 21 = .ok (.iconst 4, 1) := by decide +kernel
theorem dX12_distance_22 : decode cX12_distance 22 = .ok (.iaload, 1) := by decide +kernel
theorem dX12_distance_23 : decode cX12_distance 23 = .ok (.invokevirtual 355, 3) := by decide +kernel
theorem dX12_distance_26 : decode cX12_distance 26 = .ok (.aload_n 0, 1) := by decide +kernel
theorem dX12_distance_27 : decode cX12_distance 27 = .ok (.getfield 44, 3) := by decide +kernel
theorem dX12_distance_30 : decode cX12_distance 30 = .ok (.aload_n 0, 1) := by decide +kernel
theorem dX12_distance_31 : decode cX12_distance 31 = .ok (.iload_n 1, 1) := by decide +kernel
theorem dX12_distance_32 : decode cX12_distance 32 = .ok (.iload_n 2, 1) := by decide +kernel
theorem dX12_distance_33 : decode cX12_distance 33 = .ok (.invokevirtual 271, 3) := by decide +kernel
theorem dX12_distance_36 : decode cX12_distance 36 = .ok (.iaload, 1) := by decide +kernel
theorem dX12_distance_37 : decode cX12_distance 37 = .ok (.ireturn, 1) := by decide +kernel
theorem dX12_nearest_0 : decode cX12_nearest 0 = .ok (.aload_n 0, 1) := by decide +kernel
theorem dX12_nearest_1 : decode cX12_nearest 1 = .ok (.iconst 0, 1) := by decide +kernel
theorem dX12_nearest_2 : decode cX12_nearest 2 = .ok (.putfield 69, 3) := by decide +kernel
theorem dX12_nearest_5 : decode cX12_nearest 5 = .ok (.aload_n 0, 1) := by decide +kernel
theorem dX12_nearest_6 : decode cX12_nearest 6 = .ok (.aload_n 0, 1) := by decide +kernel
theorem dX12_nearest_7 : decode cX12_nearest 7 = .ok (.getfield 17, 3) := by decide +kernel
theorem dX12_nearest_10 : decode cX12_nearest 10 = .ok (.iconst 4, 1) := by decide +kernel
theorem dX12_nearest_11 : decode cX12_nearest 11 = .ok (.iaload, 1) := by decide +kernel
theorem dX12_nearest_12 : decode cX12_nearest 12 = .ok (.invokevirtual 355, 3) := by decide +kernel
theorem dX12_nearest_15 : decode cX12_nearest 15 = .ok (.iconst (-1), 1) := by decide +kernel
theorem dX12_nearest_16 : decode cX12_nearest 16 = .ok (.istore_n 1, 1) := by decide +kernel
theorem dX12_nearest_17 : decode cX12_nearest 17 = .ok (.iconst 0, 1) := by decide +kernel
theorem dX12_nearest_18 : decode cX12_nearest 18 = .ok (.istore_n 2, 1) := by decide +kernel
theorem dX12_nearest_19 : decode cX12_nearest 19 = .ok (.iload_n 2, 1) := by decide +kernel
theorem dX12_nearest_20 : decode cX12_nearest 20 = .ok (.aload_n 0, 1) := by decide +kernel
theorem dX12_nearest_21 : decode cX12_nearest 21 = .ok (.invokevirtual 290, 3) := by decide +kernel
theorem dX12_nearest_24 : decode cX12_nearest 24 = .ok (.if_icmp .ge 49, 3) := by decide +kernel
theorem dX12_nearest_27 : decode cX12_nearest 27 = .ok (.aload_n 0, 1) := by decide +kernel
theorem dX12_nearest_28 : decode cX12_nearest 28 = .ok (.iload_n 2, 1) := by decide +kernel
theorem dX12_nearest_29 : decode cX12_nearest 29 = .ok (.invokevirtual 322, 3) := by decide +kernel
theorem dX12_nearest_32 : decode cX12_nearest 32 = .ok (.ifCond .eq 35, 3) := by decide +kernel
theorem dX12_nearest_35 : decode cX12_nearest 35 = .ok (.aload_n 0, 1) := by decide +kernel
theorem dX12_nearest_36 : decode cX12_nearest 36 = .ok (.getfield 44, 3) := by decide +kernel
theorem dX12_nearest_39 : decode cX12_nearest 39 = .ok (.iload_n 2, 1) := by decide +kernel
theorem dX12_nearest_40 : decode cX12_nearest 40 = .ok (.iaload, 1) := by decide +kernel
theorem dX12_nearest_41 : decode cX12_nearest 41 = .ok (.iconst (-1), 1) := by decide +kernel
theorem dX12_nearest_42 : decode cX12_nearest 42 = .ok (.if_icmp .eq 25, 3) := by decide +kernel
theorem dX12_nearest_45 : decode cX12_nearest 45 = .ok (.iload_n 1, 1) := by decide +kernel
theorem dX12_nearest_46 : decode cX12_nearest 46 = .ok (.iconst (-1), 1) := by decide +kernel
theorem dX12_nearest_47 : decode cX12_nearest 47 = .ok (.if_icmp .eq 18, 3) := by decide +kernel
theorem dX12_nearest_50 : decode cX12_nearest 50 = .ok (.aload_n 0, 1) := by decide +kernel
theorem dX12_nearest_51 : decode cX12_nearest 51 = .ok (.getfield 44, 3) := by decide +kernel
theorem dX12_nearest_54 : decode cX12_nearest 54 = .ok (.iload_n 2, 1) := by decide +kernel
theorem dX12_nearest_55 : decode cX12_nearest 55 = .ok (.iaload, 1) := by decide +kernel
theorem dX12_nearest_56 : decode cX12_nearest 56 = .ok (.aload_n 0, 1) := by decide +kernel
theorem dX12_nearest_57 : decode cX12_nearest 57 = .ok (.getfield 44, 3) := by decide +kernel
theorem dX12_nearest_60 : decode cX12_nearest 60 = .ok (.iload_n 1, 1) := by decide +kernel

theorem dX6_advance_54 : decode cX6_advance 54 = .ok (.getfield 35, 3) := by decide +kernel
theorem dX6_advance_57 : decode cX6_advance 57 = .ok (.if_icmp .ge 20, 3) := by decide +kernel
theorem dX6_advance_60 : decode cX6_advance 60 = .ok (.aload_n 0, 1) := by decide +kernel
theorem dX6_advance_61 : decode cX6_advance 61 = .ok (.getfield 14, 3) := by decide +kernel
theorem dX6_advance_64 : decode cX6_advance 64 = .ok (.aload_n 0, 1) := by decide +kernel
theorem dX6_advance_65 : decode cX6_advance 65 = .ok (.getfield 85, 3) := by decide +kernel
theorem dX6_advance_68 : decode cX6_advance 68 = .ok (.invokevirtual 160, 3) := by decide +kernel
theorem dX6_advance_71 : decode cX6_advance 71 = .ok (.invokestatic 271, 3) := by decide +kernel
theorem dX6_advance_74 : decode cX6_advance 74 = .ok (.goto 4, 3) := by decide +kernel
theorem dX6_advance_77 : decode cX6_advance 77 = .ok (.iconst 0, 1) := by decide +kernel
theorem dX6_advance_78 : decode cX6_advance 78 = .ok (.putfield 53, 3) := by decide +kernel
theorem dX6_advance_81 : decode cX6_advance 81 = .ok (.aload_n 0, 1) := by decide +kernel
theorem dX6_advance_82 : decode cX6_advance 82 = .ok (.aload_n 0, 1) := by decide +kernel
theorem dX6_advance_83 : decode cX6_advance 83 = .ok (.getfield 85, 3) := by decide +kernel
theorem dX6_advance_86 : decode cX6_advance 86 = .ok (.aload_n 0, 1) := by decide +kernel
theorem dX6_advance_87 : decode cX6_advance 87 = .ok (.getfield 35, 3) := by decide +kernel
theorem dX6_advance_90 : decode cX6_advance 90 = .ok (.if_icmp .ge 12, 3) := by decide +kernel
theorem dX6_advance_93 : decode cX6_advance 93 = .ok (.aload_n 0, 1) := by decide +kernel
theorem dX6_advance_94 : decode cX6_advance 94 = .ok (.getfield 85, 3) := by decide +kernel
theorem dX6_advance_97 : decode cX6_advance 97 = .ok (.iconst 1, 1) := by decide +kernel
theorem dX6_advance_98 : decode cX6_advance 98 = .ok (.iadd, 1) := by decide +kernel
theorem dX6_advance_99 : decode cX6_advance 99 = .ok (.goto 7, 3) := by decide +kernel
theorem dX6_advance_102 : decode cX6_advance 102 = .ok (.aload_n 0, 1) := by decide +kernel
theorem dX6_advance_103 : decode cX6_advance 103 = .ok (.getfield 35, 3) := by decide +kernel
theorem dX6_advance_106 : decode cX6_advance 106 = .ok (.putfield 38, 3) := by decide +kernel
theorem dX6_advance_109 : decode cX6_advance 109 = .ok (.aload_n 0, 1) := by decide +kernel
theorem dX6_advance_110 : decode cX6_advance 110 = .ok (.getfield 53, 3) := by decide +kernel
theorem dX6_advance_113 : decode cX6_advance 113 = .ok (.iconst 3, 1) := by decide +kernel
theorem dX6_advance_114 : decode cX6_advance 114 = .ok (.if_icmp .eq 48, 3) := by decide +kernel
theorem dX6_advance_117 : decode cX6_advance 117 = .ok (.aload_n 0, 1) := by decide +kernel
theorem dX6_advance_118 : decode cX6_advance 118 = .ok (.getfield 38, 3) := by decide +kernel
theorem dX6_advance_121 : decode cX6_advance 121 = .ok (.aload_n 0, 1) := by decide +kernel
theorem dX6_advance_122 : decode cX6_advance 122 = .ok (.getfield 35, 3) := by decide +kernel
theorem dX6_advance_125 : decode cX6_advance 125 = .ok (.if_icmp .ge 37, 3) := by decide +kernel
theorem dX6_advance_128 : decode cX6_advance 128 = .ok (.aload_n 0, 1) := by decide +kernel
theorem dX6_advance_129 : decode cX6_advance 129 = .ok (.getfield 14, 3) := by decide +kernel
theorem dX6_advance_132 : decode cX6_advance 132 = .ok (.aload_n 0, 1) := by decide +kernel
theorem dX6_advance_133 : decode cX6_advance 133 = .ok (.getfield 38, 3) := by decide +kernel
theorem dX6_advance_136 : decode cX6_advance 136 = .ok (.invokevirtual 160, 3) := by decide +kernel
theorem dX6_advance_139 : decode cX6_advance 139 = .ok (.invokestatic 271, 3) := by decide +kernel
theorem dX6_advance_142 : decode cX6_advance 142 = .ok (.aload_n 0, 1) := by decide +kernel
theorem dX6_advance_143 : decode cX6_advance 143 = .ok (.getfield 53, 3) := by decide +kernel
theorem dX6_advance_146 : decode cX6_advance 146 = .ok (.if_icmp .ne 16, 3) := by decide +kernel
theorem dX6_advance_149 : decode cX6_advance 149 = .ok (.aload_n 0, 1) := by decide +kernel
theorem dX6_advance_150 : decode cX6_advance 150 = .ok (.dup, 1) := by decide +kernel
theorem dX6_advance_151 : decode cX6_advance 151 = .ok (.getfield 38, 3) := by decide +kernel
theorem dX6_advance_154 : decode cX6_advance 154 = .ok (.iconst 1, 1) := by decide +kernel
theorem dX6_advance_155 : decode cX6_advance 155 = .ok (.iadd, 1) := by decide +kernel
theorem dX6_advance_156 : decode cX6_advance 156 = .ok (.putfield 38, 3) := by decide +kernel
theorem dX6_advance_159 : decode cX6_advance 159 = .ok (.goto (-50), 3) := by decide +kernel
theorem dX6_advance_162 : decode cX6_advance 162 = .ok (.return_, 1) := by decide +kernel
theorem dX6_kindOf_0 : decode cX6_kindOf 0 = .ok (.iload_n 0, 1) := by decide +kernel
theorem dX6_kindOf_1 : decode cX6_kindOf 1 = .ok (.bipush 97, 2) := by decide +kernel
theorem dX6_kindOf_3 : decode cX6_kindOf 3 = .ok (.if_icmp .lt 11, 3) := by decide +kernel
theorem dX6_kindOf_6 : decode cX6_kindOf 6 = .ok (.iload_n 0, 1) := by decide +kernel
theorem dX6_kindOf_7 : decode cX6_kindOf 7 = .ok (.bipush 122, 2) := by decide +kernel
theorem dX6_kindOf_9 : decode cX6_kindOf 9 = .ok (.if_icmp .gt 5, 3) := by decide +kernel
theorem dX6_kindOf_12 : decode cX6_kindOf 12 = .ok (.iconst 1, 1) := by decide +kernel
theorem dX6_kindOf_13 : decode cX6_kindOf 13 = .ok (.ireturn, 1) := by decide +kernel
theorem dX6_kindOf_14 : decode cX6_kindOf 14 = .ok (.iload_n 0, 1) := by decide +kernel
theorem dX6_kindOf_15 : decode cX6_kindOf 15 = .ok (.bipush 48, 2) := by decide +kernel
theorem dX6_kindOf_17 : decode cX6_kindOf 17 = .ok (.if_icmp .lt 13, 3) := by decide +kernel
theorem dX6_kindOf_20 : decode cX6_kindOf 20 = .ok (.iload_n 0, 1) := by decide +kernel
theorem dX6_kindOf_21 : decode cX6_kindOf 21 = .ok (.bipush 57, 2) := by decide +kernel
theorem dX6_kindOf_23 : decode cX6_kindOf 23 = .ok (.if_icmp .gt 7, 3) := by decide +kernel
theorem dX6_kindOf_26 : decode cX6_kindOf 26 = .ok (.iconst 2, 1) := by decide +kernel
theorem dX6_kindOf_27 : decode cX6_kindOf 27 = .ok (.goto 4, 3) := by decide +kernel
theorem dX6_kindOf_30 : decode cX6_kindOf 30 = .ok (.iconst 3, 1) := by decide +kernel
theorem dX6_kindOf_31 : decode cX6_kindOf 31 = .ok (.ireturn, 1) := by decide +kernel
theorem dX6_fail_0 : decode cX6_fail 0 = .ok (.aload_n 0, 1) := by decide +kernel
theorem dX6_fail_1 : decode cX6_fail 1 = .ok (.getfield 41, 3) := by decide +kernel
theorem dX6_fail_4 : decode cX6_fail 4 = .ok (.ifCond .ne 13, 3) := by decide +kernel
theorem dX6_fail_7 : decode cX6_fail 7 = .ok (.aload_n 0, 1) := by decide +kernel
theorem dX6_fail_8 : decode cX6_fail 8 = .ok (.iload_n 1, 1) := by decide +kernel
theorem dX6_fail_9 : decode cX6_fail 9 = .ok (.putfield 41, 3) := by decide +kernel
theorem dX6_fail_12 : decode cX6_fail 12 = .ok (.aload_n 0, 1) := by decide +kernel
theorem dX6_fail_13 : decode cX6_fail 13 = .ok (.iload_n 2, 1) := by decide +kernel
theorem dX6_fail_14 : decode cX6_fail 14 = .ok (.putfield 44, 3) := by decide +kernel
theorem dX6_fail_17 : decode cX6_fail 17 = .ok (.return_, 1) := by decide +kernel
theorem dX7_init_0 : decode cX7_init 0 = .ok (.aload_n 0, 1) := by decide +kernel
theorem dX7_init_1 : decode cX7_init 1 = .ok (.invokespecial 1, 3) := by decide +kernel
theorem dX7_init_4 : decode cX7_init 4 = .ok (.aload_n 0, 1) := by decide +kernel
theorem dX7_init_5 : decode cX7_init 5 = .ok (.iload_n 1, 1) := by decide +kernel
theorem dX7_init_6 : decode cX7_init 6 = .ok (.ifCond .le 7, 3) := by decide +kernel
theorem dX7_init_9 : decode cX7_init 9 = .ok (.iload_n 1, 1) := by decide +kernel
theorem dX7_init_10 : decode cX7_init 10 = .ok (.goto 4, 3) := by decide +kernel
theorem dX7_init_13 : decode cX7_init 13 = .ok (.iconst 0, 1) := by decide +kernel
theorem dX7_init_14 : decode cX7_init 14 = .ok (.newarray .int, 2) := by decide +kernel
theorem dX7_init_16 : decode cX7_init 16 = .ok (.putfield 7, 3) := by decide +kernel
theorem dX7_init_19 : decode cX7_init 19 = .ok (.return_, 1) := by decide +kernel
theorem dX7_get_0 : decode cX7_get 0 = .ok (.iload_n 1, 1) := by decide +kernel
theorem dX7_get_1 : decode cX7_get 1 = .ok (.ifCond .lt 21, 3) := by decide +kernel
theorem dX7_get_4 : decode cX7_get 4 = .ok (.iload_n 1, 1) := by decide +kernel
theorem dX7_get_5 : decode cX7_get 5 = .ok (.aload_n 0, 1) := by decide +kernel
theorem dX7_get_6 : decode cX7_get 6 = .ok (.getfield 7, 3) := by decide +kernel
theorem dX7_get_9 : decode cX7_get 9 = .ok (.arraylength, 1) := by decide +kernel
theorem dX7_get_10 : decode cX7_get 10 = .ok (.if_icmp .ge 12, 3) := by decide +kernel
theorem dX7_get_13 : decode cX7_get 13 = .ok (.aload_n 0, 1) := by decide +kernel
theorem dX7_get_14 : decode cX7_get 14 = .ok (.getfield 7, 3) := by decide +kernel
theorem dX7_get_17 : decode cX7_get 17 = .ok (.iload_n 1, 1) := by decide +kernel
theorem dX7_get_18 : decode cX7_get 18 = .ok (.iaload, 1) := by decide +kernel
theorem dX7_get_19 : decode cX7_get 19 = .ok (.goto 4, 3) := by decide +kernel
theorem dX7_get_22 : decode cX7_get 22 = .ok (.iconst 0, 1) := by decide +kernel
theorem dX7_get_23 : decode cX7_get 23 = .ok (.ireturn, 1) := by decide +kernel
theorem dX7_put_0 : decode cX7_put 0 = .ok (.iload_n 1, 1) := by decide +kernel
theorem dX7_put_1 : decode cX7_put 1 = .ok (.ifCond .lt 19, 3) := by decide +kernel
theorem dX7_put_4 : decode cX7_put 4 = .ok (.iload_n 1, 1) := by decide +kernel
theorem dX7_put_5 : decode cX7_put 5 = .ok (.aload_n 0, 1) := by decide +kernel
theorem dX7_put_6 : decode cX7_put 6 = .ok (.getfield 7, 3) := by decide +kernel
theorem dX7_put_9 : decode cX7_put 9 = .ok (.arraylength, 1) := by decide +kernel
theorem dX7_put_10 : decode cX7_put 10 = .ok (.if_icmp .ge 10, 3) := by decide +kernel
theorem dX7_put_13 : decode cX7_put 13 = .ok (.aload_n 0, 1) := by decide +kernel
theorem dX7_put_14 : decode cX7_put 14 = .ok (.getfield 7, 3) := by decide +kernel
theorem dX7_put_17 : decode cX7_put 17 = .ok (.iload_n 1, 1) := by decide +kernel
theorem dX7_put_18 : decode cX7_put 18 = .ok (.iload_n 2, 1) := by decide +kernel
theorem dX7_put_19 : decode cX7_put 19 = .ok (.iastore, 1) := by decide +kernel
theorem dX7_put_20 : decode cX7_put 20 = .ok (.return_, 1) := by decide +kernel
theorem dX7_fill_0 : decode cX7_fill 0 = .ok (.aload_n 0, 1) := by decide +kernel
theorem dX7_fill_1 : decode cX7_fill 1 = .ok (.getfield 7, 3) := by decide +kernel
theorem dX7_fill_4 : decode cX7_fill 4 = .ok (.iload_n 1, 1) := by decide +kernel
theorem dX7_fill_5 : decode cX7_fill 5 = .ok (.invokestatic 13, 3) := by decide +kernel
theorem dX7_fill_8 : decode cX7_fill 8 = .ok (.return_, 1) := by decide +kernel
theorem dX7_copyFrom_0 : decode cX7_copyFrom 0 = .ok (.aload_n 0, 1) := by decide +kernel
theorem dX7_copyFrom_1 : decode cX7_copyFrom 1 = .ok (.getfield 7, 3) := by decide +kernel
theorem dX7_copyFrom_4 : decode cX7_copyFrom 4 = .ok (.arraylength, 1) := by decide +kernel
theorem dX7_copyFrom_5 : decode cX7_copyFrom 5 = .ok (.aload_n 1, 1) := by decide +kernel
theorem dX7_copyFrom_6 : decode cX7_copyFrom 6 = .ok (.getfield 7, 3) := by decide +kernel
theorem dX7_copyFrom_9 : decode cX7_copyFrom 9 = .ok (.arraylength, 1) := by decide +kernel
theorem dX7_copyFrom_10 : decode cX7_copyFrom 10 = .ok (.invokestatic 19, 3) := by decide +kernel
theorem dX7_copyFrom_13 : decode cX7_copyFrom 13 = .ok (.istore_n 2, 1) := by decide +kernel
theorem dX7_copyFrom_14 : decode cX7_copyFrom 14 = .ok (.aload_n 1, 1) := by decide +kernel
theorem dX7_copyFrom_15 : decode cX7_copyFrom 15 = .ok (.getfield 7, 3) := by decide +kernel
theorem dX7_copyFrom_18 : decode cX7_copyFrom 18 = .ok (.iconst 0, 1) := by decide +kernel
theorem dX7_copyFrom_19 : decode cX7_copyFrom 19 = .ok (.aload_n 0, 1) := by decide +kernel
theorem dX7_copyFrom_20 : decode cX7_copyFrom 20 = .ok (.getfield 7, 3) := by decide +kernel
theorem dX7_copyFrom_23 : decode cX7_copyFrom 23 = .ok (.iconst 0, 1) := by decide +kernel
theorem dX7_copyFrom_24 : decode cX7_copyFrom 24 = .ok (.iload_n 2, 1) := by decide +kernel
theorem dX7_copyFrom_25 : decode cX7_copyFrom 25 = .ok (.invokestatic 25, 3) := by decide +kernel
theorem dX7_copyFrom_28 : decode cX7_copyFrom 28 = .ok (.return_, 1) := by decide +kernel
theorem dX8_init_0 : decode cX8_init 0 = .ok (.aload_n 0, 1) := by decide +kernel
theorem dX8_init_1 : decode cX8_init 1 = .ok (.invokespecial 3, 3) := by decide +kernel
theorem dX8_init_4 : decode cX8_init 4 = .ok (.aload_n 0, 1) := by decide +kernel
theorem dX8_init_5 : decode cX8_init 5 = .ok (.new 9, 3) := by decide +kernel
theorem dX8_init_8 : decode cX8_init 8 = .ok (.dup, 1) := by decide +kernel
theorem dX8_init_9 : decode cX8_init 9 = .ok (.invokespecial 11, 3) := by decide +kernel
theorem dX8_init_12 : decode cX8_init 12 = .ok (.putfield 12, 3) := by decide +kernel
theorem dX8_init_15 : decode cX8_init 15 = .ok (.aload_n 0, 1) := by decide +kernel
theorem dX8_init_16 : decode cX8_init 16 = .ok (.new 18, 3) := by decide +kernel
theorem dX8_init_19 : decode cX8_init 19 = .ok (.dup, 1) := by decide +kernel
theorem dX8_init_20 : decode cX8_init 20 = .ok (.invokespecial 20, 3) := by decide +kernel
theorem dX8_init_23 : decode cX8_init 23 = .ok (.putfield 21, 3) := by decide +kernel
theorem dX8_init_26 : decode cX8_init 26 = .ok (.aload_n 0, 1) := by decide +kernel
theorem dX8_init_27 : decode cX8_init 27 = .ok (.aload_n 1, 1) := by decide +kernel
theorem dX8_init_28 : decode cX8_init 28 = .ok (.putfield 25, 3) := by decide +kernel
theorem dX8_init_31 : decode cX8_init 31 = .ok (.aload_n 0, 1) := by decide +kernel
theorem dX8_init_32 : decode cX8_init 32 = .ok (.aload_n 2, 1) := by decide +kernel
theorem dX8_init_33 : decode cX8_init 33 = .ok (.putfield 29, 3) := by decide +kernel
theorem dX8_init_36 : decode cX8_init 36 = .ok (.return_, 1) := by decide +kernel
theorem dX8_clueAgainst_0 : decode cX8_clueAgainst 0 = .ok (.iconst 0, 1) := by decide +kernel
theorem dX8_clueAgainst_1 : decode cX8_clueAgainst 1 = .ok (.istore_n 2, 1) := by decide +kernel
theorem dX8_clueAgainst_2 : decode cX8_clueAgainst 2 = .ok (.iload_n 2, 1) := by decide +kernel
theorem dX8_clueAgainst_3 : decode cX8_clueAgainst 3 = .ok (.aload_n 0, 1) := by decide +kernel
theorem dX8_clueAgainst_4 : decode cX8_clueAgainst 4 = .ok (.getfield 25, 3) := by decide +kernel
theorem dX8_clueAgainst_7 : decode cX8_clueAgainst 7 = .ok (.getfield 33, 3) := by decide +kernel
theorem dX8_clueAgainst_10 : decode cX8_clueAgainst 10 = .ok (.getfield 39, 3) := by decide +kernel
theorem dX8_clueAgainst_13 : decode cX8_clueAgainst 13 = .ok (.if_icmp .ge 42, 3) := by decide +kernel
theorem dX8_clueAgainst_16 : decode cX8_clueAgainst 16 = .ok (.aload_n 0, 1) := by decide +kernel
theorem dX8_clueAgainst_17 : decode cX8_clueAgainst 17 = .ok (.getfield 25, 3) := by decide +kernel
theorem dX8_clueAgainst_20 : decode cX8_clueAgainst 20 = .ok (.getfield 33, 3) := by decide +kernel
theorem dX8_clueAgainst_23 : decode cX8_clueAgainst 23 = .ok (.iload_n 2, 1) := by decide +kernel
theorem dX8_clueAgainst_24 : decode cX8_clueAgainst 24 = .ok (.invokevirtual 45, 3) := by decide +kernel
theorem dX8_clueAgainst_27 : decode cX8_clueAgainst 27 = .ok (.ifCond .eq 22, 3) := by decide +kernel
theorem dX8_clueAgainst_30 : decode cX8_clueAgainst 30 = .ok (.aload_n 0, 1) := by decide +kernel
theorem dX8_clueAgainst_31 : decode cX8_clueAgainst 31 = .ok (.getfield 29, 3) := by decide +kernel
theorem dX8_clueAgainst_34 : decode cX8_clueAgainst 34 = .ok (.iload_n 2, 1) := by decide +kernel
theorem dX8_clueAgainst_35 : decode cX8_clueAgainst 35 = .ok (.invokevirtual 49, 3) := by decide +kernel
theorem dX8_clueAgainst_38 : decode cX8_clueAgainst 38 = .ok (.iload_n 1, 1) := by decide +kernel
theorem dX8_clueAgainst_39 : decode cX8_clueAgainst 39 = .ok (.invokevirtual 55, 3) := by decide +kernel
theorem dX8_clueAgainst_42 : decode cX8_clueAgainst 42 = .ok (.ifCond .ne 7, 3) := by decide +kernel
theorem dX8_clueAgainst_45 : decode cX8_clueAgainst 45 = .ok (.iload_n 2, 1) := by decide +kernel
theorem dX8_clueAgainst_46 : decode cX8_clueAgainst 46 = .ok (.iconst 1, 1) := by decide +kernel
theorem dX8_clueAgainst_47 : decode cX8_clueAgainst 47 = .ok (.iadd, 1) := by decide +kernel
theorem dX8_clueAgainst_48 : decode cX8_clueAgainst 48 = .ok (.ireturn, 1) := by decide +kernel
theorem dX8_clueAgainst_49 : decode cX8_clueAgainst 49 = .ok (.iinc 2 1, 3) := by decide +kernel
theorem dX8_clueAgainst_52 : decode cX8_clueAgainst 52 = .ok (.goto (-50), 3) := by decide +kernel
theorem dX8_clueAgainst_55 : decode cX8_clueAgainst 55 = .ok (.iconst 0, 1) := by decide +kernel
theorem dX8_clueAgainst_56 : decode cX8_clueAgainst 56 = .ok (.ireturn, 1) := by decide +kernel
theorem dX8_candidates_0 : decode cX8_candidates 0 = .ok (.aload_n 0, 1) := by decide +kernel
theorem dX8_candidates_1 : decode cX8_candidates 1 = .ok (.getfield 21, 3) := by decide +kernel
theorem dX8_candidates_4 : decode cX8_candidates 4 = .ok (.aload_n 0, 1) := by decide +kernel
theorem dX8_candidates_5 : decode cX8_candidates 5 = .ok (.getfield 25, 3) := by decide +kernel
theorem dX8_candidates_8 : decode cX8_candidates 8 = .ok (.getfield 58, 3) := by decide +kernel
theorem dX8_candidates_11 : decode cX8_candidates 11 = .ok (.invokevirtual 61, 3) := by decide +kernel
theorem dX8_candidates_14 : decode cX8_candidates 14 = .ok (.iconst 0, 1) := by decide +kernel
theorem dX8_candidates_15 : decode cX8_candidates 15 = .ok (.istore_n 1, 1) := by decide +kernel
theorem dX8_candidates_16 : decode cX8_candidates 16 = .ok (.iload_n 1, 1) := by decide +kernel
theorem dX8_candidates_17 : decode cX8_candidates 17 = .ok (.aload_n 0, 1) := by decide +kernel
theorem dX8_candidates_18 : decode cX8_candidates 18 = .ok (.getfield 25, 3) := by decide +kernel
theorem dX8_candidates_21 : decode cX8_candidates 21 = .ok (.getfield 33, 3) := by decide +kernel
theorem dX8_candidates_24 : decode cX8_candidates 24 = .ok (.getfield 39, 3) := by decide +kernel
theorem dX8_candidates_27 : decode cX8_candidates 27 = .ok (.if_icmp .ge 38, 3) := by decide +kernel
theorem dX8_candidates_30 : decode cX8_candidates 30 = .ok (.aload_n 0, 1) := by decide +kernel
theorem dX8_candidates_31 : decode cX8_candidates 31 = .ok (.getfield 25, 3) := by decide +kernel
theorem dX8_candidates_34 : decode cX8_candidates 34 = .ok (.getfield 33, 3) := by decide +kernel
theorem dX8_candidates_37 : decode cX8_candidates 37 = .ok (.iload_n 1, 1) := by decide +kernel
theorem dX8_candidates_38 : decode cX8_candidates 38 = .ok (.invokevirtual 45, 3) := by decide +kernel
theorem dX8_candidates_41 : decode cX8_candidates 41 = .ok (.ifCond .eq 18, 3) := by decide +kernel
theorem dX8_candidates_44 : decode cX8_candidates 44 = .ok (.aload_n 0, 1) := by decide +kernel
theorem dX8_candidates_45 : decode cX8_candidates 45 = .ok (.getfield 21, 3) := by decide +kernel
theorem dX8_candidates_48 : decode cX8_candidates 48 = .ok (.aload_n 0, 1) := by decide +kernel
theorem dX8_candidates_49 : decode cX8_candidates 49 = .ok (.getfield 29, 3) := by decide +kernel
theorem dX8_candidates_52 : decode cX8_candidates 52 = .ok (.iload_n 1, 1) := by decide +kernel
theorem dX8_candidates_53 : decode cX8_candidates 53 = .ok (.invokevirtual 49, 3) := by decide +kernel
theorem dX8_candidates_56 : decode cX8_candidates 56 = .ok (.invokevirtual 65, 3) := by decide +kernel
theorem dX8_candidates_59 : decode cX8_candidates 59 = .ok (.iinc 1 1, 3) := by decide +kernel
theorem dX8_candidates_62 : decode cX8_candidates 62 = .ok (.goto (-46), 3) := by decide +kernel
theorem dX8_candidates_65 : decode cX8_candidates 65 = .ok (.aload_n 0, 1) := by decide +kernel
theorem dX8_candidates_66 : decode cX8_candidates 66 = .ok (.getfield 21, 3) := by decide +kernel
theorem dX8_candidates_69 : decode cX8_candidates 69 = .ok (.areturn, 1) := by decide +kernel
theorem dX8_left_0 : decode cX8_left 0 = .ok (.aload_n 0, 1) := by decide +kernel
theorem dX8_left_1 : decode cX8_left 1 = .ok (.invokevirtual 68, 3) := by decide +kernel
theorem dX8_left_4 : decode cX8_left 4 = .ok (.aload_n 0, 1) := by decide +kernel
theorem dX8_left_5 : decode cX8_left 5 = .ok (.getfield 25, 3) := by decide +kernel
theorem dX8_left_8 : decode cX8_left 8 = .ok (.getfield 72, 3) := by decide +kernel
theorem dX8_left_11 : decode cX8_left 11 = .ok (.invokevirtual 75, 3) := by decide +kernel
theorem dX8_left_14 : decode cX8_left 14 = .ok (.aload_n 0, 1) := by decide +kernel
theorem dX8_left_15 : decode cX8_left 15 = .ok (.getfield 21, 3) := by decide +kernel
theorem dX8_left_18 : decode cX8_left 18 = .ok (.areturn, 1) := by decide +kernel
theorem dX8_countParts_0 : decode cX8_countParts 0 = .ok (.aload_n 0, 1) := by decide +kernel
theorem dX8_countParts_1 : decode cX8_countParts 1 = .ok (.invokevirtual 78, 3) := by decide +kernel
theorem dX8_countParts_4 : decode cX8_countParts 4 = .ok (.astore_n 1, 1) := by decide +kernel
theorem dX8_countParts_5 : decode cX8_countParts 5 = .ok (.aload_n 0, 1) := by decide +kernel
theorem dX8_countParts_6 : decode cX8_countParts 6 = .ok (.getfield 12, 3) := by decide +kernel
theorem dX8_countParts_9 : decode cX8_countParts 9 = .ok (.invokevirtual 81, 3) := by decide +kernel
theorem dX8_countParts_12 : decode cX8_countParts 12 = .ok (.iconst 0, 1) := by decide +kernel
theorem dX8_countParts_13 : decode cX8_countParts 13 = .ok (.istore_n 2, 1) := by decide +kernel
theorem dX8_countParts_14 : decode cX8_countParts 14 = .ok (.iconst 0, 1) := by decide +kernel
theorem dX8_countParts_15 : decode cX8_countParts 15 = .ok (.istore_n 3, 1) := by decide +kernel
theorem dX8_countParts_16 : decode cX8_countParts 16 = .ok (.iload_n 3, 1) := by decide +kernel
theorem dX8_countParts_17 : decode cX8_countParts 17 = .ok (.sipush 704, 3) := by decide +kernel
theorem dX8_countParts_20 : decode cX8_countParts 20 = .ok (.if_icmp .ge 44, 3) := by decide +kernel
theorem dX8_countParts_23 : decode cX8_countParts 23 = .ok (.aload_n 1, 1) := by decide +kernel
theorem dX8_countParts_24 : decode cX8_countParts 24 = .ok (.iload_n 3, 1) := by decide +kernel
theorem dX8_countParts_25 : decode cX8_countParts 25 = .ok (.invokevirtual 55, 3) := by decide +kernel
theorem dX8_countParts_28 : decode cX8_countParts 28 = .ok (.ifCond .eq 30, 3) := by decide +kernel
theorem dX8_countParts_31 : decode cX8_countParts 31 = .ok (.aload_n 0, 1) := by decide +kernel
theorem dX8_countParts_32 : decode cX8_countParts 32 = .ok (.getfield 12, 3) := by decide +kernel
theorem dX8_countParts_35 : decode cX8_countParts 35 = .ok (.getfield 84, 3) := by decide +kernel
theorem dX8_countParts_38 : decode cX8_countParts 38 = .ok (.iload_n 3, 1) := by decide +kernel
theorem dX8_countParts_39 : decode cX8_countParts 39 = .ok (.invokevirtual 88, 3) := by decide +kernel
theorem dX8_countParts_42 : decode cX8_countParts 42 = .ok (.ifCond .ge 16, 3) := by decide +kernel
theorem dX8_countParts_45 : decode cX8_countParts 45 = .ok (.aload_n 0, 1) := by decide +kernel
theorem dX8_countParts_46 : decode cX8_countParts 46 = .ok (.getfield 12, 3) := by decide +kernel
theorem dX8_countParts_49 : decode cX8_countParts 49 = .ok (.aload_n 1, 1) := by decide +kernel
theorem dX8_countParts_50 : decode cX8_countParts 50 = .ok (.iload_n 3, 1) := by decide +kernel
theorem dX8_countParts_51 : decode cX8_countParts 51 = .ok (.invokevirtual 94, 3) := by decide +kernel
theorem dX8_countParts_54 : decode cX8_countParts 54 = .ok (.pop, 1) := by decide +kernel
theorem dX8_countParts_55 : decode cX8_countParts 55 = .ok (.iinc 2 1, 3) := by decide +kernel
theorem dX8_countParts_58 : decode cX8_countParts 58 = .ok (.iinc 3 1, 3) := by decide +kernel
theorem dX8_countParts_61 : decode cX8_countParts 61 = .ok (.goto (-45), 3) := by decide +kernel
theorem dX8_countParts_64 : decode cX8_countParts 64 = .ok (.iload_n 2, 1) := by decide +kernel
theorem dX8_countParts_65 : decode cX8_countParts 65 = .ok (.ireturn, 1) := by decide +kernel
theorem dX8_partSize_0 : decode cX8_partSize 0 = .ok (.aload_n 0, 1) := by decide +kernel
theorem dX8_partSize_1 : decode cX8_partSize 1 = .ok (.invokevirtual 78, 3) := by decide +kernel
theorem dX8_partSize_4 : decode cX8_partSize 4 = .ok (.astore_n 2, 1) := by decide +kernel
theorem dX8_partSize_5 : decode cX8_partSize 5 = .ok (.aload_n 0, 1) := by decide +kernel
theorem dX8_partSize_6 : decode cX8_partSize 6 = .ok (.getfield 12, 3) := by decide +kernel
theorem dX8_partSize_9 : decode cX8_partSize 9 = .ok (.invokevirtual 81, 3) := by decide +kernel
theorem dX8_partSize_12 : decode cX8_partSize 12 = .ok (.aload_n 2, 1) := by decide +kernel
theorem dX8_partSize_13 : decode cX8_partSize 13 = .ok (.iload_n 1, 1) := by decide +kernel
theorem dX8_partSize_14 : decode cX8_partSize 14 = .ok (.invokevirtual 55, 3) := by decide +kernel
theorem dX8_partSize_17 : decode cX8_partSize 17 = .ok (.ifCond .eq 15, 3) := by decide +kernel
theorem dX8_partSize_20 : decode cX8_partSize 20 = .ok (.aload_n 0, 1) := by decide +kernel
theorem dX8_partSize_21 : decode cX8_partSize 21 = .ok (.getfield 12, 3) := by decide +kernel
theorem dX8_partSize_24 : decode cX8_partSize 24 = .ok (.aload_n 2, 1) := by decide +kernel
theorem dX8_partSize_25 : decode cX8_partSize 25 = .ok (.iload_n 1, 1) := by decide +kernel
theorem dX8_partSize_26 : decode cX8_partSize 26 = .ok (.invokevirtual 94, 3) := by decide +kernel
theorem dX8_partSize_29 : decode cX8_partSize 29 = .ok (.goto 4, 3) := by decide +kernel
theorem dX8_partSize_32 : decode cX8_partSize 32 = .ok (.iconst 0, 1) := by decide +kernel
theorem dX8_partSize_33 : decode cX8_partSize 33 = .ok (.ireturn, 1) := by decide +kernel
theorem dX8_distancesFrom_0 : decode cX8_distancesFrom 0 = .ok (.aload_n 0, 1) := by decide +kernel
theorem dX8_distancesFrom_1 : decode cX8_distancesFrom 1 = .ok (.getfield 12, 3) := by decide +kernel
theorem dX8_distancesFrom_4 : decode cX8_distancesFrom 4 = .ok (.invokevirtual 81, 3) := by decide +kernel
theorem dX8_distancesFrom_7 : decode cX8_distancesFrom 7 = .ok (.aload_n 0, 1) := by decide +kernel
theorem dX8_distancesFrom_8 : decode cX8_distancesFrom 8 = .ok (.getfield 12, 3) := by decide +kernel
theorem dX8_distancesFrom_11 : decode cX8_distancesFrom 11 = .ok (.aload_n 0, 1) := by decide +kernel
theorem dX8_distancesFrom_12 : decode cX8_distancesFrom 12 = .ok (.getfield 25, 3) := by decide +kernel
theorem dX8_distancesFrom_15 : decode cX8_distancesFrom 15 = .ok (.getfield 58, 3) := by decide +kernel
theorem dX8_distancesFrom_18 : decode cX8_distancesFrom 18 = .ok (.iload_n 1, 1) := by decide +kernel
theorem dX8_distancesFrom_19 : decode cX8_distancesFrom 19 = .ok (.invokevirtual 94, 3) := by decide +kernel
theorem dX8_distancesFrom_22 : decode cX8_distancesFrom 22 = .ok (.pop, 1) := by decide +kernel
theorem dX8_distancesFrom_23 : decode cX8_distancesFrom 23 = .ok (.aload_n 0, 1) := by decide +kernel
theorem dX8_distancesFrom_24 : decode cX8_distancesFrom 24 = .ok (.getfield 12, 3) := by decide +kernel
theorem dX8_distancesFrom_27 : decode cX8_distancesFrom 27 = .ok (.getfield 84, 3) := by decide +kernel
theorem dX8_distancesFrom_30 : decode cX8_distancesFrom 30 = .ok (.areturn, 1) := by decide +kernel
theorem dX9_init_0 : decode cX9_init 0 = .ok (.aload_n 0, 1) := by decide +kernel
theorem dX9_init_1 : decode cX9_init 1 = .ok (.invokespecial 3, 3) := by decide +kernel
theorem dX9_init_4 : decode cX9_init 4 = .ok (.aload_n 0, 1) := by decide +kernel
theorem dX9_init_5 : decode cX9_init 5 = .ok (.new 9, 3) := by decide +kernel
theorem dX9_init_8 : decode cX9_init 8 = .ok (.dup, 1) := by decide +kernel
theorem dX9_init_9 : decode cX9_init 9 = .ok (.bipush 9, 2) := by decide +kernel
theorem dX9_init_11 : decode cX9_init 11 = .ok (.invokespecial 11, 3) := by decide +kernel
theorem dX9_init_14 : decode cX9_init 14 = .ok (.putfield 14, 3) := by decide +kernel
theorem dX9_init_17 : decode cX9_init 17 = .ok (.aload_n 0, 1) := by decide +kernel
theorem dX9_init_18 : decode cX9_init 18 = .ok (.new 9, 3) := by decide +kernel
theorem dX9_init_21 : decode cX9_init 21 = .ok (.dup, 1) := by decide +kernel
theorem dX9_init_22 : decode cX9_init 22 = .ok (.bipush 90, 2) := by decide +kernel
theorem dX9_init_24 : decode cX9_init 24 = .ok (.invokespecial 11, 3) := by decide +kernel
theorem dX9_init_27 : decode cX9_init 27 = .ok (.putfield 20, 3) := by decide +kernel
theorem dX9_init_30 : decode cX9_init 30 = .ok (.aload_n 0, 1) := by decide +kernel
theorem dX9_init_31 : decode cX9_init 31 = .ok (.new 9, 3) := by decide +kernel
theorem dX9_init_34 : decode cX9_init 34 = .ok (.dup, 1) := by decide +kernel
theorem dX9_init_35 : decode cX9_init 35 = .ok (.sipush 4608, 3) := by decide +kernel
theorem dX9_init_38 : decode cX9_init 38 = .ok (.invokespecial 11, 3) := by decide +kernel
theorem dX9_init_41 : decode cX9_init 41 = .ok (.putfield 23, 3) := by decide +kernel
theorem dX9_init_44 : decode cX9_init 44 = .ok (.aload_n 0, 1) := by decide +kernel
theorem dX9_init_45 : decode cX9_init 45 = .ok (.aload_n 1, 1) := by decide +kernel
theorem dX9_init_46 : decode cX9_init 46 = .ok (.putfield 26, 3) := by decide +kernel
theorem dX9_init_49 : decode cX9_init 49 = .ok (.aload_n 0, 1) := by decide +kernel
theorem dX9_init_50 : decode cX9_init 50 = .ok (.aload_n 2, 1) := by decide +kernel
theorem dX9_init_51 : decode cX9_init 51 = .ok (.putfield 30, 3) := by decide +kernel
theorem dX9_init_54 : decode cX9_init 54 = .ok (.return_, 1) := by decide +kernel
theorem dX10_init_0 : decode cX10_init 0 = .ok (.aload_n 0, 1) := by decide +kernel
theorem dX10_init_1 : decode cX10_init 1 = .ok (.invokespecial 3, 3) := by decide +kernel
theorem dX10_init_4 : decode cX10_init 4 = .ok (.aload_n 0, 1) := by decide +kernel
theorem dX10_init_5 : decode cX10_init 5 = .ok (.new 9, 3) := by decide +kernel
theorem dX10_init_8 : decode cX10_init 8 = .ok (.dup, 1) := by decide +kernel
theorem dX10_init_9 : decode cX10_init 9 = .ok (.sipush 704, 3) := by decide +kernel
theorem dX10_init_12 : decode cX10_init 12 = .ok (.invokespecial 11, 3) := by decide +kernel
theorem dX10_init_15 : decode cX10_init 15 = .ok (.putfield 14, 3) := by decide +kernel
theorem dX10_init_18 : decode cX10_init 18 = .ok (.aload_n 0, 1) := by decide +kernel
theorem dX10_init_19 : decode cX10_init 19 = .ok (.new 20, 3) := by decide +kernel
theorem dX10_init_22 : decode cX10_init 22 = .ok (.dup, 1) := by decide +kernel
theorem dX10_init_23 : decode cX10_init 23 = .ok (.bipush 36, 2) := by decide +kernel
theorem dX10_init_25 : decode cX10_init 25 = .ok (.invokespecial 22, 3) := by decide +kernel
theorem dX10_init_28 : decode cX10_init 28 = .ok (.putfield 23, 3) := by decide +kernel
theorem dX10_init_31 : decode cX10_init 31 = .ok (.aload_n 0, 1) := by decide +kernel
theorem dX10_init_32 : decode cX10_init 32 = .ok (.new 20, 3) := by decide +kernel
theorem dX10_init_35 : decode cX10_init 35 = .ok (.dup, 1) := by decide +kernel
theorem dX10_init_36 : decode cX10_init 36 = .ok (.bipush 9, 2) := by decide +kernel
theorem dX10_init_38 : decode cX10_init 38 = .ok (.invokespecial 22, 3) := by decide +kernel
theorem dX10_init_41 : decode cX10_init 41 = .ok (.putfield 27, 3) := by decide +kernel
theorem dX10_init_44 : decode cX10_init 44 = .ok (.aload_n 0, 1) := by decide +kernel
theorem dX10_init_45 : decode cX10_init 45 = .ok (.aload_n 1, 1) := by decide +kernel
theorem dX10_init_46 : decode cX10_init 46 = .ok (.putfield 30, 3) := by decide +kernel
theorem dX10_init_49 : decode cX10_init 49 = .ok (.return_, 1) := by decide +kernel
theorem dX10_renew_0 : decode cX10_renew 0 = .ok (.aload_n 0, 1) := by decide +kernel
theorem dX10_renew_1 : decode cX10_renew 1 = .ok (.getfield 14, 3) := by decide +kernel
theorem dX10_renew_4 : decode cX10_renew 4 = .ok (.iconst 0, 1) := by decide +kernel
theorem dX10_renew_5 : decode cX10_renew 5 = .ok (.invokevirtual 34, 3) := by decide +kernel
theorem dX10_renew_8 : decode cX10_renew 8 = .ok (.iconst 0, 1) := by decide +kernel
theorem dX10_renew_9 : decode cX10_renew 9 = .ok (.istore_n 1, 1) := by decide +kernel
theorem dX10_renew_10 : decode cX10_renew 10 = .ok (.iload_n 1, 1) := by decide +kernel
theorem dX10_renew_11 : decode cX10_renew 11 = .ok (.aload_n 0, 1) := by decide +kernel
theorem dX10_renew_12 : decode cX10_renew 12 = .ok (.getfield 30, 3) := by decide +kernel
theorem dX10_renew_15 : decode cX10_renew 15 = .ok (.getfield 37, 3) := by decide +kernel
theorem dX10_renew_18 : decode cX10_renew 18 = .ok (.if_icmp .ge 14, 3) := by decide +kernel
theorem dX10_renew_21 : decode cX10_renew 21 = .ok (.aload_n 0, 1) := by decide +kernel
theorem dX10_renew_22 : decode cX10_renew 22 = .ok (.iload_n 1, 1) := by decide +kernel
theorem dX10_renew_23 : decode cX10_renew 23 = .ok (.invokevirtual 43, 3) := by decide +kernel
theorem dX10_renew_26 : decode cX10_renew 26 = .ok (.iinc 1 1, 3) := by decide +kernel
theorem dX10_renew_29 : decode cX10_renew 29 = .ok (.goto (-19), 3) := by decide +kernel
theorem dX10_renew_32 : decode cX10_renew 32 = .ok (.aload_n 0, 1) := by decide +kernel
theorem dX10_renew_33 : decode cX10_renew 33 = .ok (.getfield 23, 3) := by decide +kernel
theorem dX10_renew_36 : decode cX10_renew 36 = .ok (.invokevirtual 46, 3) := by decide +kernel
theorem dX10_renew_39 : decode cX10_renew 39 = .ok (.iconst 0, 1) := by decide +kernel
theorem dX10_renew_40 : decode cX10_renew 40 = .ok (.istore_n 1, 1) := by decide +kernel
theorem dX10_renew_41 : decode cX10_renew 41 = .ok (.iload_n 1, 1) := by decide +kernel
theorem dX10_renew_42 : decode cX10_renew 42 = .ok (.aload_n 0, 1) := by decide +kernel
theorem dX10_renew_43 : decode cX10_renew 43 = .ok (.getfield 30, 3) := by decide +kernel
theorem dX10_renew_46 : decode cX10_renew 46 = .ok (.getfield 49, 3) := by decide +kernel
theorem dX10_renew_49 : decode cX10_renew 49 = .ok (.getfield 53, 3) := by decide +kernel
theorem dX10_renew_52 : decode cX10_renew 52 = .ok (.if_icmp .ge 14, 3) := by decide +kernel
theorem dX10_renew_55 : decode cX10_renew 55 = .ok (.aload_n 0, 1) := by decide +kernel
theorem dX10_renew_56 : decode cX10_renew 56 = .ok (.iload_n 1, 1) := by decide +kernel
theorem dX10_renew_57 : decode cX10_renew 57 = .ok (.invokevirtual 58, 3) := by decide +kernel
theorem dX10_renew_60 : decode cX10_renew 60 = .ok (.iinc 1 1, 3) := by decide +kernel
theorem dX10_renew_63 : decode cX10_renew 63 = .ok (.goto (-22), 3) := by decide +kernel
theorem dX10_renew_66 : decode cX10_renew 66 = .ok (.return_, 1) := by decide +kernel
theorem dX10_twist_0 : decode cX10_twist 0 = .ok (.aload_n 0, 1) := by decide +kernel
theorem dX10_twist_1 : decode cX10_twist 1 = .ok (.getfield 30, 3) := by decide +kernel
theorem dX10_twist_4 : decode cX10_twist 4 = .ok (.getfield 61, 3) := by decide +kernel
theorem dX10_twist_7 : decode cX10_twist 7 = .ok (.iload_n 1, 1) := by decide +kernel
theorem dX10_twist_8 : decode cX10_twist 8 = .ok (.invokevirtual 64, 3) := by decide +kernel
theorem dX10_twist_11 : decode cX10_twist 11 = .ok (.istore_n 2, 1) := by decide +kernel
theorem dX10_twist_12 : decode cX10_twist 12 = .ok (.aload_n 0, 1) := by decide +kernel
theorem dX10_twist_13 : decode cX10_twist 13 = .ok (.getfield 30, 3) := by decide +kernel
theorem dX10_twist_16 : decode cX10_twist 16 = .ok (.getfield 68, 3) := by decide +kernel
theorem dX10_twist_19 : decode cX10_twist 19 = .ok (.iload_n 1, 1) := by decide +kernel
theorem dX10_twist_20 : decode cX10_twist 20 = .ok (.invokevirtual 64, 3) := by decide +kernel
theorem dX10_twist_23 : decode cX10_twist 23 = .ok (.istore_n 3, 1) := by decide +kernel
theorem dX10_twist_24 : decode cX10_twist 24 = .ok (.iload_n 2, 1) := by decide +kernel
theorem dX10_twist_25 : decode cX10_twist 25 = .ok (.istore 4, 2) := by decide +kernel
theorem dX10_twist_27 : decode cX10_twist 27 = .ok (.iload 4, 2) := by decide +kernel
theorem dX10_twist_29 : decode cX10_twist 29 = .ok (.iload_n 3, 1) := by decide +kernel
theorem dX10_twist_30 : decode cX10_twist 30 = .ok (.if_icmp .gt 57, 3) := by decide +kernel
theorem dX10_twist_33 : decode cX10_twist 33 = .ok (.iload 4, 2) := by decide +kernel
theorem dX10_twist_35 : decode cX10_twist 35 = .ok (.sipush 704, 3) := by decide +kernel
theorem dX10_twist_38 : decode cX10_twist 38 = .ok (.if_icmp .ge 49, 3) := by decide +kernel
theorem dX10_twist_41 : decode cX10_twist 41 = .ok (.iload_n 2, 1) := by decide +kernel
theorem dX10_twist_42 : decode cX10_twist 42 = .ok (.iload_n 3, 1) := by decide +kernel
theorem dX10_twist_43 : decode cX10_twist 43 = .ok (.iload 4, 2) := by decide +kernel
theorem dX10_twist_45 : decode cX10_twist 45 = .ok (.invokestatic 71, 3) := by decide +kernel
theorem dX10_twist_48 : decode cX10_twist 48 = .ok (.ifCond .eq 33, 3) := by decide +kernel
theorem dX10_twist_51 : decode cX10_twist 51 = .ok (.aload_n 0, 1) := by decide +kernel
theorem dX10_twist_52 : decode cX10_twist 52 = .ok (.getfield 14, 3) := by decide +kernel
theorem dX10_twist_55 : decode cX10_twist 55 = .ok (.iload 4, 2) := by decide +kernel
theorem dX10_twist_57 : decode cX10_twist 57 = .ok (.aload_n 0, 1) := by decide +kernel
theorem dX10_twist_58 : decode cX10_twist 58 = .ok (.getfield 14, 3) := by decide +kernel
theorem dX10_twist_61 : decode cX10_twist 61 = .ok (.iload 4, 2) := by decide +kernel
theorem dX10_twist_63 : decode cX10_twist 63 = .ok (.invokevirtual 64, 3) := by decide +kernel
theorem dX10_twist_66 : decode cX10_twist 66 = .ok (.aload_n 0, 1) := by decide +kernel
theorem dX10_twist_67 : decode cX10_twist 67 = .ok (.getfield 30, 3) := by decide +kernel
theorem dX10_twist_70 : decode cX10_twist 70 = .ok (.getfield 75, 3) := by decide +kernel
theorem dX10_twist_73 : decode cX10_twist 73 = .ok (.iload_n 1, 1) := by decide +kernel
theorem dX10_twist_74 : decode cX10_twist 74 = .ok (.invokevirtual 64, 3) := by decide +kernel
theorem dX10_twist_77 : decode cX10_twist 77 = .ok (.iadd, 1) := by decide +kernel
theorem dX10_twist_78 : decode cX10_twist 78 = .ok (.invokevirtual 78, 3) := by decide +kernel
theorem dX10_twist_81 : decode cX10_twist 81 = .ok (.iinc 4 1, 3) := by decide +kernel
theorem dX10_twist_84 : decode cX10_twist 84 = .ok (.goto (-57), 3) := by decide +kernel
theorem dX10_twist_87 : decode cX10_twist 87 = .ok (.return_, 1) := by decide +kernel
theorem dX10_step_0 : decode cX10_step 0 = .ok (.iload_n 1, 1) := by decide +kernel
theorem dX10_step_1 : decode cX10_step 1 = .ok (.iload_n 2, 1) := by decide +kernel
theorem dX10_step_2 : decode cX10_step 2 = .ok (.aload_n 0, 1) := by decide +kernel
theorem dX10_step_3 : decode cX10_step 3 = .ok (.getfield 14, 3) := by decide +kernel
theorem dX10_step_6 : decode cX10_step 6 = .ok (.iload_n 1, 1) := by decide +kernel
theorem dX10_step_7 : decode cX10_step 7 = .ok (.invokevirtual 64, 3) := by decide +kernel
theorem dX10_step_10 : decode cX10_step 10 = .ok (.iadd, 1) := by decide +kernel
theorem dX10_step_11 : decode cX10_step 11 = .ok (.invokestatic 82, 3) := by decide +kernel
theorem dX10_step_14 : decode cX10_step 14 = .ok (.istore_n 3, 1) := by decide +kernel
theorem dX10_step_15 : decode cX10_step 15 = .ok (.aload_n 0, 1) := by decide +kernel
theorem dX10_step_16 : decode cX10_step 16 = .ok (.getfield 30, 3) := by decide +kernel
theorem dX10_step_19 : decode cX10_step 19 = .ok (.getfield 86, 3) := by decide +kernel
theorem dX10_step_22 : decode cX10_step 22 = .ok (.iload_n 3, 1) := by decide +kernel
theorem dX10_step_23 : decode cX10_step 23 = .ok (.invokevirtual 90, 3) := by decide +kernel
theorem dX10_step_26 : decode cX10_step 26 = .ok (.ifCond .eq 7, 3) := by decide +kernel
theorem dX10_step_29 : decode cX10_step 29 = .ok (.iload_n 3, 1) := by decide +kernel
theorem dX10_step_30 : decode cX10_step 30 = .ok (.goto 4, 3) := by decide +kernel
theorem dX10_step_33 : decode cX10_step 33 = .ok (.iconst 0, 1) := by decide +kernel
theorem dX10_step_34 : decode cX10_step 34 = .ok (.ireturn, 1) := by decide +kernel
theorem dX10_follow_0 : decode cX10_follow 0 = .ok (.iconst 0, 1) := by decide +kernel
theorem dX10_follow_1 : decode cX10_follow 1 = .ok (.istore_n 2, 1) := by decide +kernel
theorem dX10_follow_2 : decode cX10_follow 2 = .ok (.iload_n 2, 1) := by decide +kernel
theorem dX10_follow_3 : decode cX10_follow 3 = .ok (.aload_n 0, 1) := by decide +kernel
theorem dX10_follow_4 : decode cX10_follow 4 = .ok (.getfield 30, 3) := by decide +kernel
theorem dX10_follow_7 : decode cX10_follow 7 = .ok (.getfield 49, 3) := by decide +kernel
theorem dX10_follow_10 : decode cX10_follow 10 = .ok (.getfield 96, 3) := by decide +kernel
theorem dX10_follow_13 : decode cX10_follow 13 = .ok (.iload_n 1, 1) := by decide +kernel
theorem dX10_follow_14 : decode cX10_follow 14 = .ok (.invokevirtual 64, 3) := by decide +kernel
theorem dX10_follow_17 : decode cX10_follow 17 = .ok (.if_icmp .ge 24, 3) := by decide +kernel
theorem dX10_follow_20 : decode cX10_follow 20 = .ok (.aload_n 0, 1) := by decide +kernel
theorem dX10_follow_21 : decode cX10_follow 21 = .ok (.iload_n 1, 1) := by decide +kernel
theorem dX10_follow_22 : decode cX10_follow 22 = .ok (.iconst 0, 1) := by decide +kernel
theorem dX10_follow_23 : decode cX10_follow 23 = .ok (.invokevirtual 99, 3) := by decide +kernel
theorem dX10_follow_26 : decode cX10_follow 26 = .ok (.aload_n 0, 1) := by decide +kernel
theorem dX10_follow_27 : decode cX10_follow 27 = .ok (.iload_n 1, 1) := by decide +kernel
theorem dX10_follow_28 : decode cX10_follow 28 = .ok (.iload_n 2, 1) := by decide +kernel
theorem dX10_follow_29 : decode cX10_follow 29 = .ok (.invokevirtual 103, 3) := by decide +kernel
theorem dX10_follow_32 : decode cX10_follow 32 = .ok (.invokevirtual 106, 3) := by decide +kernel
theorem dX10_follow_35 : decode cX10_follow 35 = .ok (.iinc 2 1, 3) := by decide +kernel
theorem dX10_follow_38 : decode cX10_follow 38 = .ok (.goto (-36), 3) := by decide +kernel
theorem dX10_follow_41 : decode cX10_follow 41 = .ok (.iconst 0, 1) := by decide +kernel
theorem dX10_follow_42 : decode cX10_follow 42 = .ok (.istore_n 2, 1) := by decide +kernel
theorem dX10_follow_43 : decode cX10_follow 43 = .ok (.iload_n 2, 1) := by decide +kernel
theorem dX10_follow_44 : decode cX10_follow 44 = .ok (.aload_n 0, 1) := by decide +kernel
theorem dX10_follow_45 : decode cX10_follow 45 = .ok (.getfield 30, 3) := by decide +kernel
theorem dX10_follow_48 : decode cX10_follow 48 = .ok (.getfield 49, 3) := by decide +kernel
theorem dX10_follow_51 : decode cX10_follow 51 = .ok (.getfield 109, 3) := by decide +kernel
theorem dX10_follow_54 : decode cX10_follow 54 = .ok (.iload_n 1, 1) := by decide +kernel
theorem dX10_follow_55 : decode cX10_follow 55 = .ok (.invokevirtual 64, 3) := by decide +kernel
theorem dX10_follow_58 : decode cX10_follow 58 = .ok (.if_icmp .ge 44, 3) := by decide +kernel
theorem dX10_follow_61 : decode cX10_follow 61 = .ok (.iconst 0, 1) := by decide +kernel
theorem dX10_follow_62 : decode cX10_follow 62 = .ok (.istore_n 3, 1) := by decide +kernel
theorem dX10_follow_63 : decode cX10_follow 63 = .ok (.iload_n 3, 1) := by decide +kernel
theorem dX10_follow_64 : decode cX10_follow 64 = .ok (.sipush 704, 3) := by decide +kernel
theorem dX10_follow_67 : decode cX10_follow 67 = .ok (.if_icmp .ge 29, 3) := by decide +kernel
theorem dX10_follow_70 : decode cX10_follow 70 = .ok (.aload_n 0, 1) := by decide +kernel
theorem dX10_follow_71 : decode cX10_follow 71 = .ok (.iload_n 1, 1) := by decide +kernel
theorem dX10_follow_72 : decode cX10_follow 72 = .ok (.iload_n 2, 1) := by decide +kernel
theorem dX10_follow_73 : decode cX10_follow 73 = .ok (.invokevirtual 99, 3) := by decide +kernel
theorem dX10_follow_76 : decode cX10_follow 76 = .ok (.iload_n 3, 1) := by decide +kernel
theorem dX10_follow_77 : decode cX10_follow 77 = .ok (.invokevirtual 90, 3) := by decide +kernel
theorem dX10_follow_80 : decode cX10_follow 80 = .ok (.ifCond .eq 10, 3) := by decide +kernel
theorem dX10_follow_83 : decode cX10_follow 83 = .ok (.aload_n 0, 1) := by decide +kernel
theorem dX10_follow_84 : decode cX10_follow 84 = .ok (.iload_n 1, 1) := by decide +kernel
theorem dX10_follow_85 : decode cX10_follow 85 = .ok (.iload_n 2, 1) := by decide +kernel
theorem dX10_follow_86 : decode cX10_follow 86 = .ok (.iload_n 3, 1) := by decide +kernel
theorem dX10_follow_87 : decode cX10_follow 87 = .ok (.invokevirtual 112, 3) := by decide +kernel
theorem dX10_follow_90 : decode cX10_follow 90 = .ok (.iinc 3 1, 3) := by decide +kernel
theorem dX10_follow_93 : decode cX10_follow 93 = .ok (.goto (-30), 3) := by decide +kernel
theorem dX10_follow_96 : decode cX10_follow 96 = .ok (.iinc 2 1, 3) := by decide +kernel
theorem dX10_follow_99 : decode cX10_follow 99 = .ok (.goto (-56), 3) := by decide +kernel
theorem dX10_follow_102 : decode cX10_follow 102 = .ok (.return_, 1) := by decide +kernel
theorem dX10_followLeg_0 : decode cX10_followLeg 0 = .ok (.iload_n 1, 1) := by decide +kernel
theorem dX10_followLeg_1 : decode cX10_followLeg 1 = .ok (.bipush 8, 2) := by decide +kernel
theorem dX10_followLeg_3 : decode cX10_followLeg 3 = .ok (.imul, 1) := by decide +kernel
theorem dX10_followLeg_4 : decode cX10_followLeg 4 = .ok (.iload_n 2, 1) := by decide +kernel
theorem dX10_followLeg_5 : decode cX10_followLeg 5 = .ok (.iadd, 1) := by decide +kernel
theorem dX10_followLeg_6 : decode cX10_followLeg 6 = .ok (.istore 4, 2) := by decide +kernel
theorem dX10_followLeg_8 : decode cX10_followLeg 8 = .ok (.aload_n 0, 1) := by decide +kernel
theorem dX10_followLeg_9 : decode cX10_followLeg 9 = .ok (.getfield 30, 3) := by decide +kernel
theorem dX10_followLeg_12 : decode cX10_followLeg 12 = .ok (.getfield 49, 3) := by decide +kernel
theorem dX10_followLeg_15 : decode cX10_followLeg 15 = .ok (.getfield 116, 3) := by decide +kernel
theorem dX10_followLeg_18 : decode cX10_followLeg 18 = .ok (.iload 4, 2) := by decide +kernel
theorem dX10_followLeg_20 : decode cX10_followLeg 20 = .ok (.invokevirtual 64, 3) := by decide +kernel
theorem dX10_followLeg_23 : decode cX10_followLeg 23 = .ok (.istore 5, 2) := by decide +kernel
theorem dX10_followLeg_25 : decode cX10_followLeg 25 = .ok (.iload_n 3, 1) := by decide +kernel
theorem dX10_followLeg_26 : decode cX10_followLeg 26 = .ok (.istore 6, 2) := by decide +kernel
theorem dX10_followLeg_28 : decode cX10_followLeg 28 = .ok (.iconst 0, 1) := by decide +kernel
theorem dX10_followLeg_29 : decode cX10_followLeg 29 = .ok (.istore 7, 2) := by decide +kernel
theorem dX10_followLeg_31 : decode cX10_followLeg 31 = .ok (.iload 7, 2) := by decide +kernel
theorem dX10_followLeg_33 : decode cX10_followLeg 33 = .ok (.iload 5, 2) := by decide +kernel
theorem dX10_followLeg_35 : decode cX10_followLeg 35 = .ok (.if_icmp .gt 63, 3) := by decide +kernel
theorem dX10_followLeg_38 : decode cX10_followLeg 38 = .ok (.iload 6, 2) := by decide +kernel
theorem dX10_followLeg_40 : decode cX10_followLeg 40 = .ok (.ifCond .eq 58, 3) := by decide +kernel
theorem dX10_followLeg_43 : decode cX10_followLeg 43 = .ok (.aload_n 0, 1) := by decide +kernel
theorem dX10_followLeg_44 : decode cX10_followLeg 44 = .ok (.iload 4, 2) := by decide +kernel
theorem dX10_followLeg_46 : decode cX10_followLeg 46 = .ok (.iload 6, 2) := by decide +kernel
theorem dX10_followLeg_48 : decode cX10_followLeg 48 = .ok (.iload 7, 2) := by decide +kernel
theorem dX10_followLeg_50 : decode cX10_followLeg 50 = .ok (.invokevirtual 119, 3) := by decide +kernel
theorem dX10_followLeg_53 : decode cX10_followLeg 53 = .ok (.ifCond .eq 16, 3) := by decide +kernel
theorem dX10_followLeg_56 : decode cX10_followLeg 56 = .ok (.aload_n 0, 1) := by decide +kernel
theorem dX10_followLeg_57 : decode cX10_followLeg 57 = .ok (.iload_n 1, 1) := by decide +kernel
theorem dX10_followLeg_58 : decode cX10_followLeg 58 = .ok (.iload_n 2, 1) := by decide +kernel
theorem dX10_followLeg_59 : decode cX10_followLeg 59 = .ok (.iconst 1, 1) := by decide +kernel
theorem dX10_followLeg_60 : decode cX10_followLeg 60 = .ok (.iadd, 1) := by decide +kernel
theorem dX10_followLeg_61 : decode cX10_followLeg 61 = .ok (.invokevirtual 99, 3) := by decide +kernel
theorem dX10_followLeg_64 : decode cX10_followLeg 64 = .ok (.iload 6, 2) := by decide +kernel
theorem dX10_followLeg_66 : decode cX10_followLeg 66 = .ok (.invokevirtual 106, 3) := by decide +kernel
theorem dX10_followLeg_69 : decode cX10_followLeg 69 = .ok (.aload_n 0, 1) := by decide +kernel
theorem dX10_followLeg_70 : decode cX10_followLeg 70 = .ok (.iload 6, 2) := by decide +kernel
theorem dX10_followLeg_72 : decode cX10_followLeg 72 = .ok (.aload_n 0, 1) := by decide +kernel
theorem dX10_followLeg_73 : decode cX10_followLeg 73 = .ok (.getfield 30, 3) := by decide +kernel
theorem dX10_followLeg_76 : decode cX10_followLeg 76 = .ok (.getfield 49, 3) := by decide +kernel
theorem dX10_followLeg_79 : decode cX10_followLeg 79 = .ok (.getfield 122, 3) := by decide +kernel
theorem dX10_followLeg_82 : decode cX10_followLeg 82 = .ok (.iload 4, 2) := by decide +kernel
theorem dX10_followLeg_84 : decode cX10_followLeg 84 = .ok (.invokevirtual 64, 3) := by decide +kernel
theorem dX10_followLeg_87 : decode cX10_followLeg 87 = .ok (.invokevirtual 125, 3) := by decide +kernel
theorem dX10_followLeg_90 : decode cX10_followLeg 90 = .ok (.istore 6, 2) := by decide +kernel
theorem dX10_followLeg_92 : decode cX10_followLeg 92 = .ok (.iinc 7 1, 3) := by decide +kernel
theorem dX10_followLeg_95 : decode cX10_followLeg 95 = .ok (.goto (-64), 3) := by decide +kernel
theorem dX10_followLeg_98 : decode cX10_followLeg 98 = .ok (.return_, 1) := by decide +kernel
theorem dX10_canEnd_0 : decode cX10_canEnd 0 = .ok (.aload_n 0, 1) := by decide +kernel
theorem dX10_canEnd_1 : decode cX10_canEnd 1 = .ok (.getfield 30, 3) := by decide +kernel
theorem dX10_canEnd_4 : decode cX10_canEnd 4 = .ok (.getfield 49, 3) := by decide +kernel
theorem dX10_canEnd_7 : decode cX10_canEnd 7 = .ok (.astore 4, 2) := by decide +kernel
theorem dX10_canEnd_9 : decode cX10_canEnd 9 = .ok (.aload 4, 2) := by decide +kernel
theorem dX10_canEnd_11 : decode cX10_canEnd 11 = .ok (.getfield 128, 3) := by decide +kernel
theorem dX10_canEnd_14 : decode cX10_canEnd 14 = .ok (.iload_n 1, 1) := by decide +kernel
theorem dX10_canEnd_15 : decode cX10_canEnd 15 = .ok (.invokevirtual 64, 3) := by decide +kernel
theorem dX10_canEnd_18 : decode cX10_canEnd 18 = .ok (.istore 5, 2) := by decide +kernel
theorem dX10_canEnd_20 : decode cX10_canEnd 20 = .ok (.iload 5, 2) := by decide +kernel
theorem dX10_canEnd_22 : decode cX10_canEnd 22 = .ok (.ifCond .ne 22, 3) := by decide +kernel
theorem dX10_canEnd_25 : decode cX10_canEnd 25 = .ok (.iload_n 3, 1) := by decide +kernel
theorem dX10_canEnd_26 : decode cX10_canEnd 26 = .ok (.aload 4, 2) := by decide +kernel
theorem dX10_canEnd_28 : decode cX10_canEnd 28 = .ok (.getfield 131, 3) := by decide +kernel
theorem dX10_canEnd_31 : decode cX10_canEnd 31 = .ok (.iload_n 1, 1) := by decide +kernel
theorem dX10_canEnd_32 : decode cX10_canEnd 32 = .ok (.invokevirtual 64, 3) := by decide +kernel
theorem dX10_canEnd_35 : decode cX10_canEnd 35 = .ok (.if_icmp .lt 7, 3) := by decide +kernel
theorem dX10_canEnd_38 : decode cX10_canEnd 38 = .ok (.iconst 1, 1) := by decide +kernel
theorem dX10_canEnd_39 : decode cX10_canEnd 39 = .ok (.goto 4, 3) := by decide +kernel
theorem dX10_canEnd_42 : decode cX10_canEnd 42 = .ok (.iconst 0, 1) := by decide +kernel
theorem dX10_canEnd_43 : decode cX10_canEnd 43 = .ok (.ireturn, 1) := by decide +kernel
theorem dX10_canEnd_44 : decode cX10_canEnd 44 = .ok (.iload 5, 2) := by decide +kernel
theorem dX10_canEnd_46 : decode cX10_canEnd 46 = .ok (.iconst 1, 1) := by decide +kernel
theorem dX10_canEnd_47 : decode cX10_canEnd 47 = .ok (.if_icmp .ne 22, 3) := by decide +kernel
theorem dX10_canEnd_50 : decode cX10_canEnd 50 = .ok (.iload_n 2, 1) := by decide +kernel
theorem dX10_canEnd_51 : decode cX10_canEnd 51 = .ok (.aload 4, 2) := by decide +kernel
theorem dX10_canEnd_53 : decode cX10_canEnd 53 = .ok (.getfield 134, 3) := by decide +kernel
theorem dX10_canEnd_56 : decode cX10_canEnd 56 = .ok (.iload_n 1, 1) := by decide +kernel
theorem dX10_canEnd_57 : decode cX10_canEnd 57 = .ok (.invokevirtual 64, 3) := by decide +kernel
theorem dX10_canEnd_60 : decode cX10_canEnd 60 = .ok (.if_icmp .ne 7, 3) := by decide +kernel
theorem dX10_canEnd_63 : decode cX10_canEnd 63 = .ok (.iconst 1, 1) := by decide +kernel
theorem dX10_canEnd_64 : decode cX10_canEnd 64 = .ok (.goto 4, 3) := by decide +kernel
theorem dX10_canEnd_67 : decode cX10_canEnd 67 = .ok (.iconst 0, 1) := by decide +kernel
theorem dX10_canEnd_68 : decode cX10_canEnd 68 = .ok (.ireturn, 1) := by decide +kernel
theorem dX10_canEnd_69 : decode cX10_canEnd 69 = .ok (.aload_n 0, 1) := by decide +kernel
theorem dX10_canEnd_70 : decode cX10_canEnd 70 = .ok (.iload_n 2, 1) := by decide +kernel
theorem dX10_canEnd_71 : decode cX10_canEnd 71 = .ok (.aload 4, 2) := by decide +kernel
theorem dX10_canEnd_73 : decode cX10_canEnd 73 = .ok (.getfield 122, 3) := by decide +kernel
theorem dX10_canEnd_76 : decode cX10_canEnd 76 = .ok (.iload_n 1, 1) := by decide +kernel
theorem dX10_canEnd_77 : decode cX10_canEnd 77 = .ok (.invokevirtual 64, 3) := by decide +kernel
theorem dX10_canEnd_80 : decode cX10_canEnd 80 = .ok (.invokevirtual 125, 3) := by decide +kernel
theorem dX10_canEnd_83 : decode cX10_canEnd 83 = .ok (.ifCond .ne 7, 3) := by decide +kernel
theorem dX10_canEnd_86 : decode cX10_canEnd 86 = .ok (.iconst 1, 1) := by decide +kernel
theorem dX10_canEnd_87 : decode cX10_canEnd 87 = .ok (.goto 4, 3) := by decide +kernel
theorem dX10_canEnd_90 : decode cX10_canEnd 90 = .ok (.iconst 0, 1) := by decide +kernel
theorem dX10_canEnd_91 : decode cX10_canEnd 91 = .ok (.ireturn, 1) := by decide +kernel
theorem dX10_startSpot_0 : decode cX10_startSpot 0 = .ok (.aload_n 0, 1) := by decide +kernel
theorem dX10_startSpot_1 : decode cX10_startSpot 1 = .ok (.getfield 30, 3) := by decide +kernel
theorem dX10_startSpot_4 : decode cX10_startSpot 4 = .ok (.getfield 137, 3) := by decide +kernel
theorem dX10_startSpot_7 : decode cX10_startSpot 7 = .ok (.aload_n 0, 1) := by decide +kernel
theorem dX10_startSpot_8 : decode cX10_startSpot 8 = .ok (.getfield 30, 3) := by decide +kernel
theorem dX10_startSpot_11 : decode cX10_startSpot 11 = .ok (.getfield 49, 3) := by decide +kernel
theorem dX10_startSpot_14 : decode cX10_startSpot 14 = .ok (.iload_n 1, 1) := by decide +kernel
theorem dX10_startSpot_15 : decode cX10_startSpot 15 = .ok (.iload_n 2, 1) := by decide +kernel
theorem dX10_startSpot_16 : decode cX10_startSpot 16 = .ok (.invokevirtual 140, 3) := by decide +kernel
theorem dX10_startSpot_19 : decode cX10_startSpot 19 = .ok (.invokevirtual 64, 3) := by decide +kernel
theorem dX10_startSpot_22 : decode cX10_startSpot 22 = .ok (.ireturn, 1) := by decide +kernel
theorem dX10_layer_0 : decode cX10_layer 0 = .ok (.aload_n 0, 1) := by decide +kernel
theorem dX10_layer_1 : decode cX10_layer 1 = .ok (.getfield 23, 3) := by decide +kernel
theorem dX10_layer_4 : decode cX10_layer 4 = .ok (.iload_n 1, 1) := by decide +kernel
theorem dX10_layer_5 : decode cX10_layer 5 = .ok (.bipush 9, 2) := by decide +kernel
theorem dX10_layer_7 : decode cX10_layer 7 = .ok (.imul, 1) := by decide +kernel
theorem dX10_layer_8 : decode cX10_layer 8 = .ok (.iload_n 2, 1) := by decide +kernel
theorem dX10_layer_9 : decode cX10_layer 9 = .ok (.iadd, 1) := by decide +kernel
theorem dX10_layer_10 : decode cX10_layer 10 = .ok (.invokevirtual 143, 3) := by decide +kernel
theorem dX10_layer_13 : decode cX10_layer 13 = .ok (.areturn, 1) := by decide +kernel
theorem dX10_region_0 : decode cX10_region 0 = .ok (.aload_n 0, 1) := by decide +kernel
theorem dX10_region_1 : decode cX10_region 1 = .ok (.getfield 23, 3) := by decide +kernel
theorem dX10_region_4 : decode cX10_region 4 = .ok (.iload_n 1, 1) := by decide +kernel
theorem dX10_region_5 : decode cX10_region 5 = .ok (.bipush 9, 2) := by decide +kernel
theorem dX10_region_7 : decode cX10_region 7 = .ok (.imul, 1) := by decide +kernel
theorem dX10_region_8 : decode cX10_region 8 = .ok (.aload_n 0, 1) := by decide +kernel
theorem dX10_region_9 : decode cX10_region 9 = .ok (.getfield 30, 3) := by decide +kernel
theorem dX10_region_12 : decode cX10_region 12 = .ok (.getfield 49, 3) := by decide +kernel
theorem dX10_region_15 : decode cX10_region 15 = .ok (.getfield 109, 3) := by decide +kernel
theorem dX10_region_18 : decode cX10_region 18 = .ok (.iload_n 1, 1) := by decide +kernel
theorem dX10_region_19 : decode cX10_region 19 = .ok (.invokevirtual 64, 3) := by decide +kernel
theorem dX10_region_22 : decode cX10_region 22 = .ok (.iadd, 1) := by decide +kernel
theorem dX10_region_23 : decode cX10_region 23 = .ok (.invokevirtual 143, 3) := by decide +kernel
theorem dX10_region_26 : decode cX10_region 26 = .ok (.areturn, 1) := by decide +kernel
theorem dX10_countStarts_0 : decode cX10_countStarts 0 = .ok (.aload_n 0, 1) := by decide +kernel
theorem dX10_countStarts_1 : decode cX10_countStarts 1 = .ok (.iload_n 1, 1) := by decide +kernel
theorem dX10_countStarts_2 : decode cX10_countStarts 2 = .ok (.iload_n 2, 1) := by decide +kernel
theorem dX10_countStarts_3 : decode cX10_countStarts 3 = .ok (.invokevirtual 147, 3) := by decide +kernel
theorem dX10_countStarts_6 : decode cX10_countStarts 6 = .ok (.iconst 0, 1) := by decide +kernel
theorem dX10_countStarts_7 : decode cX10_countStarts 7 = .ok (.istore_n 3, 1) := by decide +kernel
theorem dX10_countStarts_8 : decode cX10_countStarts 8 = .ok (.iconst 0, 1) := by decide +kernel
theorem dX10_countStarts_9 : decode cX10_countStarts 9 = .ok (.istore 4, 2) := by decide +kernel
theorem dX10_countStarts_11 : decode cX10_countStarts 11 = .ok (.iload 4, 2) := by decide +kernel
theorem dX10_countStarts_13 : decode cX10_countStarts 13 = .ok (.aload_n 0, 1) := by decide +kernel
theorem dX10_countStarts_14 : decode cX10_countStarts 14 = .ok (.getfield 30, 3) := by decide +kernel
theorem dX10_countStarts_17 : decode cX10_countStarts 17 = .ok (.getfield 49, 3) := by decide +kernel
theorem dX10_countStarts_20 : decode cX10_countStarts 20 = .ok (.getfield 96, 3) := by decide +kernel
theorem dX10_countStarts_23 : decode cX10_countStarts 23 = .ok (.iload_n 1, 1) := by decide +kernel
theorem dX10_countStarts_24 : decode cX10_countStarts 24 = .ok (.invokevirtual 64, 3) := by decide +kernel
theorem dX10_countStarts_27 : decode cX10_countStarts 27 = .ok (.if_icmp .ge 38, 3) := by decide +kernel
theorem dX10_countStarts_30 : decode cX10_countStarts 30 = .ok (.iload_n 3, 1) := by decide +kernel
theorem dX10_countStarts_31 : decode cX10_countStarts 31 = .ok (.aload_n 0, 1) := by decide +kernel
theorem dX10_countStarts_32 : decode cX10_countStarts 32 = .ok (.getfield 27, 3) := by decide +kernel
theorem dX10_countStarts_35 : decode cX10_countStarts 35 = .ok (.iconst 0, 1) := by decide +kernel
theorem dX10_countStarts_36 : decode cX10_countStarts 36 = .ok (.invokevirtual 143, 3) := by decide +kernel
theorem dX10_countStarts_39 : decode cX10_countStarts 39 = .ok (.aload_n 0, 1) := by decide +kernel
theorem dX10_countStarts_40 : decode cX10_countStarts 40 = .ok (.iload_n 1, 1) := by decide +kernel
theorem dX10_countStarts_41 : decode cX10_countStarts 41 = .ok (.iload 4, 2) := by decide +kernel
theorem dX10_countStarts_43 : decode cX10_countStarts 43 = .ok (.invokevirtual 103, 3) := by decide +kernel
theorem dX10_countStarts_46 : decode cX10_countStarts 46 = .ok (.invokevirtual 90, 3) := by decide +kernel
theorem dX10_countStarts_49 : decode cX10_countStarts 49 = .ok (.ifCond .eq 7, 3) := by decide +kernel
theorem dX10_countStarts_52 : decode cX10_countStarts 52 = .ok (.iconst 1, 1) := by decide +kernel
theorem dX10_countStarts_53 : decode cX10_countStarts 53 = .ok (.goto 4, 3) := by decide +kernel
theorem dX10_countStarts_56 : decode cX10_countStarts 56 = .ok (.iconst 0, 1) := by decide +kernel
theorem dX10_countStarts_57 : decode cX10_countStarts 57 = .ok (.iadd, 1) := by decide +kernel
theorem dX10_countStarts_58 : decode cX10_countStarts 58 = .ok (.istore_n 3, 1) := by decide +kernel
theorem dX10_countStarts_59 : decode cX10_countStarts 59 = .ok (.iinc 4 1, 3) := by decide +kernel
theorem dX10_countStarts_62 : decode cX10_countStarts 62 = .ok (.goto (-51), 3) := by decide +kernel
theorem dX10_countStarts_65 : decode cX10_countStarts 65 = .ok (.iload_n 3, 1) := by decide +kernel
theorem dX10_countStarts_66 : decode cX10_countStarts 66 = .ok (.ireturn, 1) := by decide +kernel
theorem dX10_firstWalkPaces_0 : decode cX10_firstWalkPaces 0 = .ok (.aload_n 0, 1) := by decide +kernel
theorem dX10_firstWalkPaces_1 : decode cX10_firstWalkPaces 1 = .ok (.iload_n 1, 1) := by decide +kernel
theorem dX10_firstWalkPaces_2 : decode cX10_firstWalkPaces 2 = .ok (.iload_n 2, 1) := by decide +kernel
theorem dX10_firstWalkPaces_3 : decode cX10_firstWalkPaces 3 = .ok (.invokevirtual 147, 3) := by decide +kernel
theorem dX10_firstWalkPaces_6 : decode cX10_firstWalkPaces 6 = .ok (.aload_n 0, 1) := by decide +kernel
theorem dX10_firstWalkPaces_7 : decode cX10_firstWalkPaces 7 = .ok (.iload_n 1, 1) := by decide +kernel
theorem dX10_firstWalkPaces_8 : decode cX10_firstWalkPaces 8 = .ok (.invokevirtual 150, 3) := by decide +kernel
theorem dX10_firstWalkPaces_11 : decode cX10_firstWalkPaces 11 = .ok (.istore 4, 2) := by decide +kernel
theorem dX10_firstWalkPaces_13 : decode cX10_firstWalkPaces 13 = .ok (.iconst 0, 1) := by decide +kernel
theorem dX10_firstWalkPaces_14 : decode cX10_firstWalkPaces 14 = .ok (.istore 5, 2) := by decide +kernel
theorem dX10_firstWalkPaces_16 : decode cX10_firstWalkPaces 16 = .ok (.iload 5, 2) := by decide +kernel
theorem dX10_firstWalkPaces_18 : decode cX10_firstWalkPaces 18 = .ok (.iload_n 3, 1) := by decide +kernel
theorem dX10_firstWalkPaces_19 : decode cX10_firstWalkPaces 19 = .ok (.if_icmp .ge 29, 3) := by decide +kernel
theorem dX10_firstWalkPaces_22 : decode cX10_firstWalkPaces 22 = .ok (.aload_n 0, 1) := by decide +kernel
theorem dX10_firstWalkPaces_23 : decode cX10_firstWalkPaces 23 = .ok (.iload_n 1, 1) := by decide +kernel
theorem dX10_firstWalkPaces_24 : decode cX10_firstWalkPaces 24 = .ok (.iload 5, 2) := by decide +kernel
theorem dX10_firstWalkPaces_26 : decode cX10_firstWalkPaces 26 = .ok (.iload 4, 2) := by decide +kernel
theorem dX10_firstWalkPaces_28 : decode cX10_firstWalkPaces 28 = .ok (.aload_n 0, 1) := by decide +kernel
theorem dX10_firstWalkPaces_29 : decode cX10_firstWalkPaces 29 = .ok (.iload_n 1, 1) := by decide +kernel
theorem dX10_firstWalkPaces_30 : decode cX10_firstWalkPaces 30 = .ok (.iload 5, 2) := by decide +kernel
theorem dX10_firstWalkPaces_32 : decode cX10_firstWalkPaces 32 = .ok (.iload 4, 2) := by decide +kernel
theorem dX10_firstWalkPaces_34 : decode cX10_firstWalkPaces 34 = .ok (.invokevirtual 153, 3) := by decide +kernel
theorem dX10_firstWalkPaces_37 : decode cX10_firstWalkPaces 37 = .ok (.invokevirtual 156, 3) := by decide +kernel
theorem dX10_firstWalkPaces_40 : decode cX10_firstWalkPaces 40 = .ok (.istore 4, 2) := by decide +kernel
theorem dX10_firstWalkPaces_42 : decode cX10_firstWalkPaces 42 = .ok (.iinc 5 1, 3) := by decide +kernel
theorem dX10_firstWalkPaces_45 : decode cX10_firstWalkPaces 45 = .ok (.goto (-29), 3) := by decide +kernel
theorem dX10_firstWalkPaces_48 : decode cX10_firstWalkPaces 48 = .ok (.aload_n 0, 1) := by decide +kernel
theorem dX10_firstWalkPaces_49 : decode cX10_firstWalkPaces 49 = .ok (.iload_n 1, 1) := by decide +kernel
theorem dX10_firstWalkPaces_50 : decode cX10_firstWalkPaces 50 = .ok (.iload_n 3, 1) := by decide +kernel
theorem dX10_firstWalkPaces_51 : decode cX10_firstWalkPaces 51 = .ok (.iload 4, 2) := by decide +kernel
theorem dX10_firstWalkPaces_53 : decode cX10_firstWalkPaces 53 = .ok (.invokevirtual 153, 3) := by decide +kernel
theorem dX10_firstWalkPaces_56 : decode cX10_firstWalkPaces 56 = .ok (.ireturn, 1) := by decide +kernel
theorem dX10_firstStart_0 : decode cX10_firstStart 0 = .ok (.iconst 0, 1) := by decide +kernel
theorem dX10_firstStart_1 : decode cX10_firstStart 1 = .ok (.istore_n 2, 1) := by decide +kernel
theorem dX10_firstStart_2 : decode cX10_firstStart 2 = .ok (.iload_n 2, 1) := by decide +kernel
theorem dX10_firstStart_3 : decode cX10_firstStart 3 = .ok (.aload_n 0, 1) := by decide +kernel
theorem dX10_firstStart_4 : decode cX10_firstStart 4 = .ok (.getfield 30, 3) := by decide +kernel
theorem dX10_firstStart_7 : decode cX10_firstStart 7 = .ok (.getfield 49, 3) := by decide +kernel
theorem dX10_firstStart_10 : decode cX10_firstStart 10 = .ok (.getfield 96, 3) := by decide +kernel
theorem dX10_firstStart_13 : decode cX10_firstStart 13 = .ok (.iload_n 1, 1) := by decide +kernel
theorem dX10_firstStart_14 : decode cX10_firstStart 14 = .ok (.invokevirtual 64, 3) := by decide +kernel
theorem dX10_firstStart_17 : decode cX10_firstStart 17 = .ok (.if_icmp .ge 36, 3) := by decide +kernel
theorem dX10_firstStart_20 : decode cX10_firstStart 20 = .ok (.aload_n 0, 1) := by decide +kernel
theorem dX10_firstStart_21 : decode cX10_firstStart 21 = .ok (.getfield 27, 3) := by decide +kernel
theorem dX10_firstStart_24 : decode cX10_firstStart 24 = .ok (.iconst 0, 1) := by decide +kernel
theorem dX10_firstStart_25 : decode cX10_firstStart 25 = .ok (.invokevirtual 143, 3) := by decide +kernel
theorem dX10_firstStart_28 : decode cX10_firstStart 28 = .ok (.aload_n 0, 1) := by decide +kernel
theorem dX10_firstStart_29 : decode cX10_firstStart 29 = .ok (.iload_n 1, 1) := by decide +kernel
theorem dX10_firstStart_30 : decode cX10_firstStart 30 = .ok (.iload_n 2, 1) := by decide +kernel
theorem dX10_firstStart_31 : decode cX10_firstStart 31 = .ok (.invokevirtual 103, 3) := by decide +kernel
theorem dX10_firstStart_34 : decode cX10_firstStart 34 = .ok (.invokevirtual 90, 3) := by decide +kernel
theorem dX10_firstStart_37 : decode cX10_firstStart 37 = .ok (.ifCond .eq 10, 3) := by decide +kernel
theorem dX10_firstStart_40 : decode cX10_firstStart 40 = .ok (.aload_n 0, 1) := by decide +kernel
theorem dX10_firstStart_41 : decode cX10_firstStart 41 = .ok (.iload_n 1, 1) := by decide +kernel
theorem dX10_firstStart_42 : decode cX10_firstStart 42 = .ok (.iload_n 2, 1) := by decide +kernel
theorem dX10_firstStart_43 : decode cX10_firstStart 43 = .ok (.invokevirtual 103, 3) := by decide +kernel
theorem dX10_firstStart_46 : decode cX10_firstStart 46 = .ok (.ireturn, 1) := by decide +kernel
theorem dX10_firstStart_47 : decode cX10_firstStart 47 = .ok (.iinc 2 1, 3) := by decide +kernel
theorem dX10_firstStart_50 : decode cX10_firstStart 50 = .ok (.goto (-48), 3) := by decide +kernel
theorem dX10_firstStart_53 : decode cX10_firstStart 53 = .ok (.iconst 0, 1) := by decide +kernel
theorem dX10_firstStart_54 : decode cX10_firstStart 54 = .ok (.ireturn, 1) := by decide +kernel
theorem dX10_findWays_0 : decode cX10_findWays 0 = .ok (.aload_n 0, 1) := by decide +kernel
theorem dX10_findWays_1 : decode cX10_findWays 1 = .ok (.getfield 30, 3) := by decide +kernel
theorem dX10_findWays_4 : decode cX10_findWays 4 = .ok (.getfield 49, 3) := by decide +kernel
theorem dX10_findWays_7 : decode cX10_findWays 7 = .ok (.getfield 109, 3) := by decide +kernel
theorem dX10_findWays_10 : decode cX10_findWays 10 = .ok (.iload_n 1, 1) := by decide +kernel
theorem dX10_findWays_11 : decode cX10_findWays 11 = .ok (.invokevirtual 64, 3) := by decide +kernel
theorem dX10_findWays_14 : decode cX10_findWays 14 = .ok (.istore_n 3, 1) := by decide +kernel
theorem dX10_findWays_15 : decode cX10_findWays 15 = .ok (.aload_n 0, 1) := by decide +kernel
theorem dX10_findWays_16 : decode cX10_findWays 16 = .ok (.getfield 27, 3) := by decide +kernel
theorem dX10_findWays_19 : decode cX10_findWays 19 = .ok (.invokevirtual 46, 3) := by decide +kernel
theorem dX10_findWays_22 : decode cX10_findWays 22 = .ok (.aload_n 0, 1) := by decide +kernel
theorem dX10_findWays_23 : decode cX10_findWays 23 = .ok (.getfield 27, 3) := by decide +kernel
theorem dX10_findWays_26 : decode cX10_findWays 26 = .ok (.iload_n 3, 1) := by decide +kernel
theorem dX10_findWays_27 : decode cX10_findWays 27 = .ok (.invokevirtual 143, 3) := by decide +kernel
theorem dX10_findWays_30 : decode cX10_findWays 30 = .ok (.iload_n 2, 1) := by decide +kernel
theorem dX10_findWays_31 : decode cX10_findWays 31 = .ok (.invokevirtual 106, 3) := by decide +kernel
theorem dX10_findWays_34 : decode cX10_findWays 34 = .ok (.iload_n 3, 1) := by decide +kernel
theorem dX10_findWays_35 : decode cX10_findWays 35 = .ok (.iconst 1, 1) := by decide +kernel
theorem dX10_findWays_36 : decode cX10_findWays 36 = .ok (.isub, 1) := by decide +kernel
theorem dX10_findWays_37 : decode cX10_findWays 37 = .ok (.istore 4, 2) := by decide +kernel
theorem dX10_findWays_39 : decode cX10_findWays 39 = .ok (.iload 4, 2) := by decide +kernel
theorem dX10_findWays_41 : decode cX10_findWays 41 = .ok (.ifCond .lt 67, 3) := by decide +kernel
theorem dX10_findWays_44 : decode cX10_findWays 44 = .ok (.iconst 0, 1) := by decide +kernel
theorem dX10_findWays_45 : decode cX10_findWays 45 = .ok (.istore 5, 2) := by decide +kernel
theorem dX10_findWays_47 : decode cX10_findWays 47 = .ok (.iload 5, 2) := by decide +kernel
theorem dX10_findWays_49 : decode cX10_findWays 49 = .ok (.sipush 704, 3) := by decide +kernel
theorem dX10_findWays_52 : decode cX10_findWays 52 = .ok (.if_icmp .ge 50, 3) := by decide +kernel
theorem dX10_findWays_55 : decode cX10_findWays 55 = .ok (.aload_n 0, 1) := by decide +kernel
theorem dX10_findWays_56 : decode cX10_findWays 56 = .ok (.iload_n 1, 1) := by decide +kernel
theorem dX10_findWays_57 : decode cX10_findWays 57 = .ok (.iload 4, 2) := by decide +kernel
theorem dX10_findWays_59 : decode cX10_findWays 59 = .ok (.invokevirtual 99, 3) := by decide +kernel
theorem dX10_findWays_62 : decode cX10_findWays 62 = .ok (.iload 5, 2) := by decide +kernel
theorem dX10_findWays_64 : decode cX10_findWays 64 = .ok (.invokevirtual 90, 3) := by decide +kernel
theorem dX10_findWays_67 : decode cX10_findWays 67 = .ok (.ifCond .eq 29, 3) := by decide +kernel
theorem dX10_findWays_70 : decode cX10_findWays 70 = .ok (.aload_n 0, 1) := by decide +kernel
theorem dX10_findWays_71 : decode cX10_findWays 71 = .ok (.iload_n 1, 1) := by decide +kernel
theorem dX10_findWays_72 : decode cX10_findWays 72 = .ok (.iload 4, 2) := by decide +kernel
theorem dX10_findWays_74 : decode cX10_findWays 74 = .ok (.iload 5, 2) := by decide +kernel
theorem dX10_findWays_76 : decode cX10_findWays 76 = .ok (.invokevirtual 153, 3) := by decide +kernel
theorem dX10_findWays_79 : decode cX10_findWays 79 = .ok (.ifCond .lt 17, 3) := by decide +kernel
theorem dX10_findWays_82 : decode cX10_findWays 82 = .ok (.aload_n 0, 1) := by decide +kernel
theorem dX10_findWays_83 : decode cX10_findWays 83 = .ok (.getfield 27, 3) := by decide +kernel
theorem dX10_findWays_86 : decode cX10_findWays 86 = .ok (.iload 4, 2) := by decide +kernel
theorem dX10_findWays_88 : decode cX10_findWays 88 = .ok (.invokevirtual 143, 3) := by decide +kernel
theorem dX10_findWays_91 : decode cX10_findWays 91 = .ok (.iload 5, 2) := by decide +kernel
theorem dX10_findWays_93 : decode cX10_findWays 93 = .ok (.invokevirtual 106, 3) := by decide +kernel
theorem dX10_findWays_96 : decode cX10_findWays 96 = .ok (.iinc 5 1, 3) := by decide +kernel
theorem dX10_findWays_99 : decode cX10_findWays 99 = .ok (.goto (-52), 3) := by decide +kernel
theorem dX10_findWays_102 : decode cX10_findWays 102 = .ok (.iinc 4 (-1), 3) := by decide +kernel
theorem dX10_findWays_105 : decode cX10_findWays 105 = .ok (.goto (-66), 3) := by decide +kernel
theorem dX10_findWays_108 : decode cX10_findWays 108 = .ok (.return_, 1) := by decide +kernel
theorem dX10_fewestPaces_0 : decode cX10_fewestPaces 0 = .ok (.iload_n 1, 1) := by decide +kernel
theorem dX10_fewestPaces_1 : decode cX10_fewestPaces 1 = .ok (.bipush 8, 2) := by decide +kernel
theorem dX10_fewestPaces_3 : decode cX10_fewestPaces 3 = .ok (.imul, 1) := by decide +kernel
theorem dX10_fewestPaces_4 : decode cX10_fewestPaces 4 = .ok (.iload_n 2, 1) := by decide +kernel
theorem dX10_fewestPaces_5 : decode cX10_fewestPaces 5 = .ok (.iadd, 1) := by decide +kernel
theorem dX10_fewestPaces_6 : decode cX10_fewestPaces 6 = .ok (.istore 4, 2) := by decide +kernel
theorem dX10_fewestPaces_8 : decode cX10_fewestPaces 8 = .ok (.aload_n 0, 1) := by decide +kernel
theorem dX10_fewestPaces_9 : decode cX10_fewestPaces 9 = .ok (.getfield 30, 3) := by decide +kernel
theorem dX10_fewestPaces_12 : decode cX10_fewestPaces 12 = .ok (.getfield 49, 3) := by decide +kernel
theorem dX10_fewestPaces_15 : decode cX10_fewestPaces 15 = .ok (.getfield 116, 3) := by decide +kernel
theorem dX10_fewestPaces_18 : decode cX10_fewestPaces 18 = .ok (.iload 4, 2) := by decide +kernel
theorem dX10_fewestPaces_20 : decode cX10_fewestPaces 20 = .ok (.invokevirtual 64, 3) := by decide +kernel
theorem dX10_fewestPaces_23 : decode cX10_fewestPaces 23 = .ok (.istore 5, 2) := by decide +kernel
theorem dX10_fewestPaces_25 : decode cX10_fewestPaces 25 = .ok (.iload_n 3, 1) := by decide +kernel
theorem dX10_fewestPaces_26 : decode cX10_fewestPaces 26 = .ok (.istore 6, 2) := by decide +kernel
theorem dX10_fewestPaces_28 : decode cX10_fewestPaces 28 = .ok (.iconst 0, 1) := by decide +kernel
theorem dX10_fewestPaces_29 : decode cX10_fewestPaces 29 = .ok (.istore 7, 2) := by decide +kernel
theorem dX10_fewestPaces_31 : decode cX10_fewestPaces 31 = .ok (.iload 7, 2) := by decide +kernel
theorem dX10_fewestPaces_33 : decode cX10_fewestPaces 33 = .ok (.iload 5, 2) := by decide +kernel
theorem dX10_fewestPaces_35 : decode cX10_fewestPaces 35 = .ok (.if_icmp .gt 71, 3) := by decide +kernel
theorem dX10_fewestPaces_38 : decode cX10_fewestPaces 38 = .ok (.iload 6, 2) := by decide +kernel
theorem dX10_fewestPaces_40 : decode cX10_fewestPaces 40 = .ok (.ifCond .eq 66, 3) := by decide +kernel
theorem dX10_fewestPaces_43 : decode cX10_fewestPaces 43 = .ok (.aload_n 0, 1) := by decide +kernel
theorem dX10_fewestPaces_44 : decode cX10_fewestPaces 44 = .ok (.getfield 27, 3) := by decide +kernel
theorem dX10_fewestPaces_47 : decode cX10_fewestPaces 47 = .ok (.iload_n 2, 1) := by decide +kernel
theorem dX10_fewestPaces_48 : decode cX10_fewestPaces 48 = .ok (.iconst 1, 1) := by decide +kernel
theorem dX10_fewestPaces_49 : decode cX10_fewestPaces 49 = .ok (.iadd, 1) := by decide +kernel
theorem dX10_fewestPaces_50 : decode cX10_fewestPaces 50 = .ok (.invokevirtual 143, 3) := by decide +kernel
theorem dX10_fewestPaces_53 : decode cX10_fewestPaces 53 = .ok (.iload 6, 2) := by decide +kernel
theorem dX10_fewestPaces_55 : decode cX10_fewestPaces 55 = .ok (.invokevirtual 90, 3) := by decide +kernel
theorem dX10_fewestPaces_58 : decode cX10_fewestPaces 58 = .ok (.ifCond .eq 19, 3) := by decide +kernel
theorem dX10_fewestPaces_61 : decode cX10_fewestPaces 61 = .ok (.aload_n 0, 1) := by decide +kernel
theorem dX10_fewestPaces_62 : decode cX10_fewestPaces 62 = .ok (.iload 4, 2) := by decide +kernel
theorem dX10_fewestPaces_64 : decode cX10_fewestPaces 64 = .ok (.iload 6, 2) := by decide +kernel
theorem dX10_fewestPaces_66 : decode cX10_fewestPaces 66 = .ok (.iload 7, 2) := by decide +kernel
theorem dX10_fewestPaces_68 : decode cX10_fewestPaces 68 = .ok (.invokevirtual 119, 3) := by decide +kernel
theorem dX10_fewestPaces_71 : decode cX10_fewestPaces 71 = .ok (.ifCond .eq 6, 3) := by decide +kernel
theorem dX10_fewestPaces_74 : decode cX10_fewestPaces 74 = .ok (.iload 7, 2) := by decide +kernel
theorem dX10_fewestPaces_76 : decode cX10_fewestPaces 76 = .ok (.ireturn, 1) := by decide +kernel
theorem dX10_fewestPaces_77 : decode cX10_fewestPaces 77 = .ok (.aload_n 0, 1) := by decide +kernel
theorem dX10_fewestPaces_78 : decode cX10_fewestPaces 78 = .ok (.iload 6, 2) := by decide +kernel
theorem dX10_fewestPaces_80 : decode cX10_fewestPaces 80 = .ok (.aload_n 0, 1) := by decide +kernel
theorem dX10_fewestPaces_81 : decode cX10_fewestPaces 81 = .ok (.getfield 30, 3) := by decide +kernel
theorem dX10_fewestPaces_84 : decode cX10_fewestPaces 84 = .ok (.getfield 49, 3) := by decide +kernel
theorem dX10_fewestPaces_87 : decode cX10_fewestPaces 87 = .ok (.getfield 122, 3) := by decide +kernel
theorem dX10_fewestPaces_90 : decode cX10_fewestPaces 90 = .ok (.iload 4, 2) := by decide +kernel
theorem dX10_fewestPaces_92 : decode cX10_fewestPaces 92 = .ok (.invokevirtual 64, 3) := by decide +kernel
theorem dX10_fewestPaces_95 : decode cX10_fewestPaces 95 = .ok (.invokevirtual 125, 3) := by decide +kernel
theorem dX10_fewestPaces_98 : decode cX10_fewestPaces 98 = .ok (.istore 6, 2) := by decide +kernel
theorem dX10_fewestPaces_100 : decode cX10_fewestPaces 100 = .ok (.iinc 7 1, 3) := by decide +kernel
theorem dX10_fewestPaces_103 : decode cX10_fewestPaces 103 = .ok (.goto (-72), 3) := by decide +kernel
theorem dX10_fewestPaces_106 : decode cX10_fewestPaces 106 = .ok (.iconst (-1), 1) := by decide +kernel
theorem dX10_fewestPaces_107 : decode cX10_fewestPaces 107 = .ok (.ireturn, 1) := by decide +kernel
theorem dX10_spotBehind_0 : decode cX10_spotBehind 0 = .ok (.aload_n 0, 1) := by decide +kernel
theorem dX10_spotBehind_1 : decode cX10_spotBehind 1 = .ok (.getfield 30, 3) := by decide +kernel
theorem dX10_spotBehind_4 : decode cX10_spotBehind 4 = .ok (.getfield 49, 3) := by decide +kernel
theorem dX10_spotBehind_7 : decode cX10_spotBehind 7 = .ok (.getfield 122, 3) := by decide +kernel
theorem dX10_spotBehind_10 : decode cX10_spotBehind 10 = .ok (.iload_n 1, 1) := by decide +kernel
theorem dX10_spotBehind_11 : decode cX10_spotBehind 11 = .ok (.bipush 8, 2) := by decide +kernel
theorem dX10_spotBehind_13 : decode cX10_spotBehind 13 = .ok (.imul, 1) := by decide +kernel
theorem dX10_spotBehind_14 : decode cX10_spotBehind 14 = .ok (.iload_n 2, 1) := by decide +kernel
theorem dX10_spotBehind_15 : decode cX10_spotBehind 15 = .ok (.iadd, 1) := by decide +kernel
theorem dX10_spotBehind_16 : decode cX10_spotBehind 16 = .ok (.invokevirtual 64, 3) := by decide +kernel
theorem dX10_spotBehind_19 : decode cX10_spotBehind 19 = .ok (.istore 5, 2) := by decide +kernel
theorem dX10_spotBehind_21 : decode cX10_spotBehind 21 = .ok (.iload_n 3, 1) := by decide +kernel
theorem dX10_spotBehind_22 : decode cX10_spotBehind 22 = .ok (.istore 6, 2) := by decide +kernel
theorem dX10_spotBehind_24 : decode cX10_spotBehind 24 = .ok (.iconst 0, 1) := by decide +kernel
theorem dX10_spotBehind_25 : decode cX10_spotBehind 25 = .ok (.istore 7, 2) := by decide +kernel
theorem dX10_spotBehind_27 : decode cX10_spotBehind 27 = .ok (.iload 7, 2) := by decide +kernel
theorem dX10_spotBehind_29 : decode cX10_spotBehind 29 = .ok (.iload 4, 2) := by decide +kernel
theorem dX10_spotBehind_31 : decode cX10_spotBehind 31 = .ok (.if_icmp .ge 19, 3) := by decide +kernel
theorem dX10_spotBehind_34 : decode cX10_spotBehind 34 = .ok (.aload_n 0, 1) := by decide +kernel
theorem dX10_spotBehind_35 : decode cX10_spotBehind 35 = .ok (.iload 6, 2) := by decide +kernel
theorem dX10_spotBehind_37 : decode cX10_spotBehind 37 = .ok (.iload 5, 2) := by decide +kernel
theorem dX10_spotBehind_39 : decode cX10_spotBehind 39 = .ok (.invokevirtual 125, 3) := by decide +kernel
theorem dX10_spotBehind_42 : decode cX10_spotBehind 42 = .ok (.istore 6, 2) := by decide +kernel
theorem dX10_spotBehind_44 : decode cX10_spotBehind 44 = .ok (.iinc 7 1, 3) := by decide +kernel
theorem dX10_spotBehind_47 : decode cX10_spotBehind 47 = .ok (.goto (-20), 3) := by decide +kernel
theorem dX10_spotBehind_50 : decode cX10_spotBehind 50 = .ok (.iload 6, 2) := by decide +kernel
theorem dX10_spotBehind_52 : decode cX10_spotBehind 52 = .ok (.ireturn, 1) := by decide +kernel
theorem dX11_init_0 : decode cX11_init 0 = .ok (.aload_n 0, 1) := by decide +kernel
theorem dX11_init_1 : decode cX11_init 1 = .ok (.invokespecial 3, 3) := by decide +kernel
theorem dX11_init_4 : decode cX11_init 4 = .ok (.new 9, 3) := by decide +kernel
theorem dX11_init_7 : decode cX11_init 7 = .ok (.dup, 1) := by decide +kernel
theorem dX11_init_8 : decode cX11_init 8 = .ok (.invokespecial 11, 3) := by decide +kernel
theorem dX11_init_11 : decode cX11_init 11 = .ok (.astore_n 1, 1) := by decide +kernel
theorem dX11_init_12 : decode cX11_init 12 = .ok (.aload_n 1, 1) := by decide +kernel
theorem dX11_init_13 : decode cX11_init 13 = .ok (.iconst 1, 1) := by decide +kernel
theorem dX11_init_14 : decode cX11_init 14 = .ok (.iconst 1, 1) := by decide +kernel
theorem dX11_init_15 : decode cX11_init 15 = .ok (.invokevirtual 12, 3) := by decide +kernel
theorem dX11_init_18 : decode cX11_init 18 = .ok (.aload_n 1, 1) := by decide +kernel
theorem dX11_init_19 : decode cX11_init 19 = .ok (.iconst 0, 1) := by decide +kernel
theorem dX11_init_20 : decode cX11_init 20 = .ok (.iconst 0, 1) := by decide +kernel
theorem dX11_init_21 : decode cX11_init 21 = .ok (.invokestatic 16, 3) := by decide +kernel
theorem dX11_init_24 : decode cX11_init 24 = .ok (.putfield 20, 3) := by decide +kernel
theorem dX11_init_27 : decode cX11_init 27 = .ok (.new 24, 3) := by decide +kernel
theorem dX11_init_30 : decode cX11_init 30 = .ok (.dup, 1) := by decide +kernel
theorem dX11_init_31 : decode cX11_init 31 = .ok (.aload_n 1, 1) := by decide +kernel
theorem dX11_init_32 : decode cX11_init 32 = .ok (.invokespecial 26, 3) := by decide +kernel
theorem dX11_init_35 : decode cX11_init 35 = .ok (.astore_n 2, 1) := by decide +kernel
theorem dX11_init_36 : decode cX11_init 36 = .ok (.new 29, 3) := by decide +kernel
theorem dX11_init_39 : decode cX11_init 39 = .ok (.dup, 1) := by decide +kernel
theorem dX11_init_40 : decode cX11_init 40 = .ok (.aload_n 1, 1) := by decide +kernel
theorem dX11_init_41 : decode cX11_init 41 = .ok (.aload_n 2, 1) := by decide +kernel
theorem dX11_init_42 : decode cX11_init 42 = .ok (.invokespecial 31, 3) := by decide +kernel
theorem dX11_init_45 : decode cX11_init 45 = .ok (.astore_n 3, 1) := by decide +kernel
theorem dX11_init_46 : decode cX11_init 46 = .ok (.aload_n 0, 1) := by decide +kernel
theorem dX11_init_47 : decode cX11_init 47 = .ok (.aload_n 1, 1) := by decide +kernel
theorem dX11_init_48 : decode cX11_init 48 = .ok (.putfield 34, 3) := by decide +kernel
theorem dX11_init_51 : decode cX11_init 51 = .ok (.aload_n 0, 1) := by decide +kernel
theorem dX11_init_52 : decode cX11_init 52 = .ok (.new 38, 3) := by decide +kernel
theorem dX11_init_55 : decode cX11_init 55 = .ok (.dup, 1) := by decide +kernel
theorem dX11_init_56 : decode cX11_init 56 = .ok (.invokespecial 40, 3) := by decide +kernel
theorem dX11_init_59 : decode cX11_init 59 = .ok (.putfield 41, 3) := by decide +kernel
theorem dX11_init_62 : decode cX11_init 62 = .ok (.aload_n 0, 1) := by decide +kernel
theorem dX11_init_63 : decode cX11_init 63 = .ok (.new 45, 3) := by decide +kernel
theorem dX11_init_66 : decode cX11_init 66 = .ok (.dup, 1) := by decide +kernel
theorem dX11_init_67 : decode cX11_init 67 = .ok (.invokespecial 47, 3) := by decide +kernel
theorem dX11_init_70 : decode cX11_init 70 = .ok (.putfield 48, 3) := by decide +kernel
theorem dX11_init_73 : decode cX11_init 73 = .ok (.aload_n 0, 1) := by decide +kernel
theorem dX11_init_74 : decode cX11_init 74 = .ok (.aload_n 2, 1) := by decide +kernel
theorem dX11_init_75 : decode cX11_init 75 = .ok (.putfield 52, 3) := by decide +kernel
theorem dX11_init_78 : decode cX11_init 78 = .ok (.aload_n 0, 1) := by decide +kernel
theorem dX11_init_79 : decode cX11_init 79 = .ok (.aload_n 3, 1) := by decide +kernel
theorem dX11_init_80 : decode cX11_init 80 = .ok (.putfield 56, 3) := by decide +kernel
theorem dX11_init_83 : decode cX11_init 83 = .ok (.aload_n 0, 1) := by decide +kernel
theorem dX11_init_84 : decode cX11_init 84 = .ok (.new 60, 3) := by decide +kernel
theorem dX11_init_87 : decode cX11_init 87 = .ok (.dup, 1) := by decide +kernel
theorem dX11_init_88 : decode cX11_init 88 = .ok (.aload_n 1, 1) := by decide +kernel
theorem dX11_init_89 : decode cX11_init 89 = .ok (.aload_n 3, 1) := by decide +kernel
theorem dX11_init_90 : decode cX11_init 90 = .ok (.invokespecial 62, 3) := by decide +kernel
theorem dX11_init_93 : decode cX11_init 93 = .ok (.putfield 65, 3) := by decide +kernel
theorem dX11_init_96 : decode cX11_init 96 = .ok (.aload_n 0, 1) := by decide +kernel
theorem dX11_init_97 : decode cX11_init 97 = .ok (.iconst (-1), 1) := by decide +kernel
theorem dX11_init_98 : decode cX11_init 98 = .ok (.putfield 69, 3) := by decide +kernel
theorem dX11_init_101 : decode cX11_init 101 = .ok (.return_, 1) := by decide +kernel
theorem dX11_append_0 : decode cX11_append 0 = .ok (.aload_n 0, 1) := by decide +kernel
theorem dX11_append_1 : decode cX11_append 1 = .ok (.getfield 48, 3) := by decide +kernel
theorem dX11_append_4 : decode cX11_append 4 = .ok (.getfield 72, 3) := by decide +kernel
theorem dX11_append_7 : decode cX11_append 7 = .ok (.bipush 20, 2) := by decide +kernel
theorem dX11_append_9 : decode cX11_append 9 = .ok (.iadd, 1) := by decide +kernel
theorem dX11_append_10 : decode cX11_append 10 = .ok (.sipush 600, 3) := by decide +kernel
theorem dX11_append_13 : decode cX11_append 13 = .ok (.if_icmp .le 5, 3) := by decide +kernel
theorem dX11_append_16 : decode cX11_append 16 = .ok (.iconst (-1), 1) := by decide +kernel
theorem dX11_append_17 : decode cX11_append 17 = .ok (.ireturn, 1) := by decide +kernel
theorem dX11_append_18 : decode cX11_append 18 = .ok (.aload_n 0, 1) := by decide +kernel
theorem dX11_append_19 : decode cX11_append 19 = .ok (.getfield 48, 3) := by decide +kernel
theorem dX11_append_22 : decode cX11_append 22 = .ok (.iload_n 1, 1) := by decide +kernel
theorem dX11_append_23 : decode cX11_append 23 = .ok (.invokevirtual 75, 3) := by decide +kernel
theorem dX11_append_26 : decode cX11_append 26 = .ok (.aload_n 0, 1) := by decide +kernel
theorem dX11_append_27 : decode cX11_append 27 = .ok (.getfield 48, 3) := by decide +kernel
theorem dX11_append_30 : decode cX11_append 30 = .ok (.iload_n 2, 1) := by decide +kernel
theorem dX11_append_31 : decode cX11_append 31 = .ok (.invokevirtual 75, 3) := by decide +kernel
theorem dX11_append_34 : decode cX11_append 34 = .ok (.aload_n 0, 1) := by decide +kernel
theorem dX11_append_35 : decode cX11_append 35 = .ok (.getfield 48, 3) := by decide +kernel
theorem dX11_append_38 : decode cX11_append 38 = .ok (.iload_n 3, 1) := by decide +kernel
theorem dX11_append_39 : decode cX11_append 39 = .ok (.invokevirtual 75, 3) := by decide +kernel
theorem dX11_append_42 : decode cX11_append 42 = .ok (.aload_n 0, 1) := by decide +kernel
theorem dX11_append_43 : decode cX11_append 43 = .ok (.getfield 48, 3) := by decide +kernel
theorem dX11_append_46 : decode cX11_append 46 = .ok (.iload 4, 2) := by decide +kernel
theorem dX11_append_48 : decode cX11_append 48 = .ok (.invokevirtual 75, 3) := by decide +kernel
theorem dX11_append_51 : decode cX11_append 51 = .ok (.aload_n 0, 1) := by decide +kernel
theorem dX11_append_52 : decode cX11_append 52 = .ok (.getfield 48, 3) := by decide +kernel
theorem dX11_append_55 : decode cX11_append 55 = .ok (.iload 5, 2) := by decide +kernel
theorem dX11_append_57 : decode cX11_append 57 = .ok (.invokevirtual 75, 3) := by decide +kernel
theorem dX11_append_60 : decode cX11_append 60 = .ok (.aload_n 0, 1) := by decide +kernel
theorem dX11_append_61 : decode cX11_append 61 = .ok (.getfield 48, 3) := by decide +kernel
theorem dX11_append_64 : decode cX11_append 64 = .ok (.getfield 72, 3) := by decide +kernel
theorem dX11_append_67 : decode cX11_append 67 = .ok (.ireturn, 1) := by decide +kernel
theorem dX11_load_0 : decode cX11_load 0 = .ok (.iload_n 1, 1) := by decide +kernel
theorem dX11_load_1 : decode cX11_load 1 = .ok (.ifCond .lt 14, 3) := by decide +kernel
theorem dX11_load_4 : decode cX11_load 4 = .ok (.iload_n 1, 1) := by decide +kernel
theorem dX11_load_5 : decode cX11_load 5 = .ok (.aload_n 0, 1) := by decide +kernel
theorem dX11_load_6 : decode cX11_load 6 = .ok (.getfield 48, 3) := by decide +kernel
theorem dX11_load_9 : decode cX11_load 9 = .ok (.getfield 72, 3) := by decide +kernel
theorem dX11_load_12 : decode cX11_load 12 = .ok (.if_icmp .le 13, 3) := by decide +kernel
theorem dX11_load_15 : decode cX11_load 15 = .ok (.new 79, 3) := by decide +kernel
theorem dX11_load_18 : decode cX11_load 18 = .ok (.dup, 1) := by decide +kernel
theorem dX11_load_19 : decode cX11_load 19 = .ok (.ldc 81, 2) := by decide +kernel
theorem dX11_load_21 : decode cX11_load 21 = .ok (.invokespecial 83, 3) := by decide +kernel
theorem dX11_load_24 : decode cX11_load 24 = .ok (.athrow, 1) := by decide +kernel
theorem dX11_load_25 : decode cX11_load 25 = .ok (.aload_n 0, 1) := by decide +kernel
theorem dX11_load_26 : decode cX11_load 26 = .ok (.getfield 48, 3) := by decide +kernel
theorem dX11_load_29 : decode cX11_load 29 = .ok (.iload_n 1, 1) := by decide +kernel
theorem dX11_load_30 : decode cX11_load 30 = .ok (.invokevirtual 86, 3) := by decide +kernel
theorem dX11_load_33 : decode cX11_load 33 = .ok (.istore_n 2, 1) := by decide +kernel
theorem dX11_load_34 : decode cX11_load 34 = .ok (.aload_n 0, 1) := by decide +kernel
theorem dX11_load_35 : decode cX11_load 35 = .ok (.aload_n 0, 1) := by decide +kernel
theorem dX11_load_36 : decode cX11_load 36 = .ok (.getfield 48, 3) := by decide +kernel
theorem dX11_load_39 : decode cX11_load 39 = .ok (.getfield 90, 3) := by decide +kernel
theorem dX11_load_42 : decode cX11_load 42 = .ok (.putfield 69, 3) := by decide +kernel
theorem dX11_load_45 : decode cX11_load 45 = .ok (.iload_n 2, 1) := by decide +kernel
theorem dX11_load_46 : decode cX11_load 46 = .ok (.ifCond .eq 5, 3) := by decide +kernel
theorem dX11_load_49 : decode cX11_load 49 = .ok (.iload_n 2, 1) := by decide +kernel
theorem dX11_load_50 : decode cX11_load 50 = .ok (.ireturn, 1) := by decide +kernel
theorem dX11_load_51 : decode cX11_load 51 = .ok (.aload_n 0, 1) := by decide +kernel
theorem dX11_load_52 : decode cX11_load 52 = .ok (.getfield 41, 3) := by decide +kernel
theorem dX11_load_55 : decode cX11_load 55 = .ok (.aload_n 0, 1) := by decide +kernel
theorem dX11_load_56 : decode cX11_load 56 = .ok (.getfield 34, 3) := by decide +kernel
theorem dX11_load_59 : decode cX11_load 59 = .ok (.invokevirtual 91, 3) := by decide +kernel
theorem dX11_load_62 : decode cX11_load 62 = .ok (.aload_n 0, 1) := by decide +kernel
theorem dX11_load_63 : decode cX11_load 63 = .ok (.getfield 34, 3) := by decide +kernel
theorem dX11_load_66 : decode cX11_load 66 = .ok (.aload_n 0, 1) := by decide +kernel
theorem dX11_load_67 : decode cX11_load 67 = .ok (.getfield 48, 3) := by decide +kernel
theorem dX11_load_70 : decode cX11_load 70 = .ok (.getfield 94, 3) := by decide +kernel
theorem dX11_load_73 : decode cX11_load 73 = .ok (.invokevirtual 97, 3) := by decide +kernel
theorem dX11_load_76 : decode cX11_load 76 = .ok (.aload_n 0, 1) := by decide +kernel
theorem dX11_load_77 : decode cX11_load 77 = .ok (.getfield 52, 3) := by decide +kernel
theorem dX11_load_80 : decode cX11_load 80 = .ok (.invokevirtual 100, 3) := by decide +kernel
theorem dX11_load_83 : decode cX11_load 83 = .ok (.aload_n 0, 1) := by decide +kernel
theorem dX11_load_84 : decode cX11_load 84 = .ok (.getfield 34, 3) := by decide +kernel
theorem dX11_load_87 : decode cX11_load 87 = .ok (.getfield 103, 3) := by decide +kernel
theorem dX11_load_90 : decode cX11_load 90 = .ok (.getfield 107, 3) := by decide +kernel
theorem dX11_load_93 : decode cX11_load 93 = .ok (.ireturn, 1) := by decide +kernel
theorem dX11_errorOffset_0 : decode cX11_errorOffset 0 = .ok (.aload_n 0, 1) := by decide +kernel
theorem dX11_errorOffset_1 : decode cX11_errorOffset 1 = .ok (.getfield 69, 3) := by decide +kernel
theorem dX11_errorOffset_4 : decode cX11_errorOffset 4 = .ok (.ireturn, 1) := by decide +kernel
theorem dX11_state_0 : decode cX11_state 0 = .ok (.iload_n 1, 1) := by decide +kernel
theorem dX11_state_1 : decode cX11_state 1 = .ok (.tableswitch 193 0 12 #[67, 75, 83, 91, 99, 110, 121, 132, 143, 154, 162, 177, 185], 67) := by decide +kernel
theorem dX11_state_68 : decode cX11_state 68 = .ok (.aload_n 0, 1) := by decide +kernel
theorem dX11_state_69 : decode cX11_state 69 = .ok (.getfield 34, 3) := by decide +kernel
theorem dX11_state_72 : decode cX11_state 72 = .ok (.getfield 112, 3) := by decide +kernel
theorem dX11_state_75 : decode cX11_state 75 = .ok (.ireturn, 1) := by decide +kernel
theorem dX11_state_76 : decode cX11_state 76 = .ok (.aload_n 0, 1) := by decide +kernel
theorem dX11_state_77 : decode cX11_state 77 = .ok (.getfield 34, 3) := by decide +kernel
theorem dX11_state_80 : decode cX11_state 80 = .ok (.getfield 115, 3) := by decide +kernel
theorem dX11_state_83 : decode cX11_state 83 = .ok (.ireturn, 1) := by decide +kernel
theorem dX11_state_84 : decode cX11_state 84 = .ok (.aload_n 0, 1) := by decide +kernel
theorem dX11_state_85 : decode cX11_state 85 = .ok (.getfield 34, 3) := by decide +kernel
theorem dX11_state_88 : decode cX11_state 88 = .ok (.invokevirtual 118, 3) := by decide +kernel
theorem dX11_state_91 : decode cX11_state 91 = .ok (.ireturn, 1) := by decide +kernel
theorem dX11_state_92 : decode cX11_state 92 = .ok (.aload_n 0, 1) := by decide +kernel
theorem dX11_state_93 : decode cX11_state 93 = .ok (.getfield 34, 3) := by decide +kernel
theorem dX11_state_96 : decode cX11_state 96 = .ok (.getfield 122, 3) := by decide +kernel
theorem dX11_state_99 : decode cX11_state 99 = .ok (.ireturn, 1) := by decide +kernel
theorem dX11_state_100 : decode cX11_state 100 = .ok (.aload_n 0, 1) := by decide +kernel
theorem dX11_state_101 : decode cX11_state 101 = .ok (.getfield 34, 3) := by decide +kernel
theorem dX11_state_104 : decode cX11_state 104 = .ok (.getfield 103, 3) := by decide +kernel
theorem dX11_state_107 : decode cX11_state 107 = .ok (.getfield 107, 3) := by decide +kernel
theorem dX11_state_110 : decode cX11_state 110 = .ok (.ireturn, 1) := by decide +kernel
theorem dX11_state_111 : decode cX11_state 111 = .ok (.aload_n 0, 1) := by decide +kernel
theorem dX11_state_112 : decode cX11_state 112 = .ok (.getfield 34, 3) := by decide +kernel
theorem dX11_state_115 : decode cX11_state 115 = .ok (.getfield 103, 3) := by decide +kernel
theorem dX11_state_118 : decode cX11_state 118 = .ok (.invokevirtual 125, 3) := by decide +kernel
theorem dX11_state_121 : decode cX11_state 121 = .ok (.ireturn, 1) := by decide +kernel
theorem dX11_state_122 : decode cX11_state 122 = .ok (.aload_n 0, 1) := by decide +kernel
theorem dX11_state_123 : decode cX11_state 123 = .ok (.getfield 56, 3) := by decide +kernel
theorem dX11_state_126 : decode cX11_state 126 = .ok (.invokevirtual 128, 3) := by decide +kernel
theorem dX11_state_129 : decode cX11_state 129 = .ok (.invokevirtual 132, 3) := by decide +kernel
theorem dX11_state_132 : decode cX11_state 132 = .ok (.ireturn, 1) := by decide +kernel
theorem dX11_state_133 : decode cX11_state 133 = .ok (.aload_n 0, 1) := by decide +kernel
theorem dX11_state_134 : decode cX11_state 134 = .ok (.getfield 56, 3) := by decide +kernel
theorem dX11_state_137 : decode cX11_state 137 = .ok (.invokevirtual 136, 3) := by decide +kernel
theorem dX11_state_140 : decode cX11_state 140 = .ok (.invokevirtual 132, 3) := by decide +kernel
theorem dX11_state_143 : decode cX11_state 143 = .ok (.ireturn, 1) := by decide +kernel
theorem dX11_state_144 : decode cX11_state 144 = .ok (.aload_n 0, 1) := by decide +kernel
theorem dX11_state_145 : decode cX11_state 145 = .ok (.getfield 34, 3) := by decide +kernel
theorem dX11_state_148 : decode cX11_state 148 = .ok (.getfield 139, 3) := by decide +kernel
theorem dX11_state_151 : decode cX11_state 151 = .ok (.invokevirtual 132, 3) := by decide +kernel
theorem dX11_state_154 : decode cX11_state 154 = .ok (.ireturn, 1) := by decide +kernel
theorem dX11_state_155 : decode cX11_state 155 = .ok (.aload_n 0, 1) := by decide +kernel
theorem dX11_state_156 : decode cX11_state 156 = .ok (.getfield 56, 3) := by decide +kernel
theorem dX11_state_159 : decode cX11_state 159 = .ok (.invokevirtual 143, 3) := by decide +kernel
theorem dX11_state_162 : decode cX11_state 162 = .ok (.ireturn, 1) := by decide +kernel
theorem dX11_state_163 : decode cX11_state 163 = .ok (.aload_n 0, 1) := by decide +kernel
theorem dX11_state_164 : decode cX11_state 164 = .ok (.getfield 34, 3) := by decide +kernel
theorem dX11_state_167 : decode cX11_state 167 = .ok (.aload_n 0, 1) := by decide +kernel
theorem dX11_state_168 : decode cX11_state 168 = .ok (.getfield 34, 3) := by decide +kernel
theorem dX11_state_171 : decode cX11_state 171 = .ok (.getfield 20, 3) := by decide +kernel
theorem dX11_state_174 : decode cX11_state 174 = .ok (.invokevirtual 146, 3) := by decide +kernel
theorem dX11_state_177 : decode cX11_state 177 = .ok (.ireturn, 1) := by decide +kernel
theorem dX11_state_178 : decode cX11_state 178 = .ok (.aload_n 0, 1) := by decide +kernel
theorem dX11_state_179 : decode cX11_state 179 = .ok (.getfield 34, 3) := by decide +kernel
theorem dX11_state_182 : decode cX11_state 182 = .ok (.getfield 149, 3) := by decide +kernel
theorem dX11_state_185 : decode cX11_state 185 = .ok (.ireturn, 1) := by decide +kernel
theorem dX11_state_186 : decode cX11_state 186 = .ok (.aload_n 0, 1) := by decide +kernel
theorem dX11_state_187 : decode cX11_state 187 = .ok (.getfield 34, 3) := by decide +kernel
theorem dX11_state_190 : decode cX11_state 190 = .ok (.getfield 152, 3) := by decide +kernel
theorem dX11_state_193 : decode cX11_state 193 = .ok (.ireturn, 1) := by decide +kernel
theorem dX11_state_194 : decode cX11_state 194 = .ok (.new 79, 3) := by decide +kernel
theorem dX11_state_197 : decode cX11_state 197 = .ok (.dup, 1) := by decide +kernel
theorem dX11_state_198 : decode cX11_state 198 = .ok (.ldc 155, 2) := by decide +kernel
theorem dX11_state_200 : decode cX11_state 200 = .ok (.invokespecial 83, 3) := by decide +kernel
theorem dX11_state_203 : decode cX11_state 203 = .ok (.athrow, 1) := by decide +kernel
theorem dX11_cell_0 : decode cX11_cell 0 = .ok (.aload_n 0, 1) := by decide +kernel
theorem dX11_cell_1 : decode cX11_cell 1 = .ok (.iload_n 1, 1) := by decide +kernel
theorem dX11_cell_2 : decode cX11_cell 2 = .ok (.iload_n 2, 1) := by decide +kernel
theorem dX11_cell_3 : decode cX11_cell 3 = .ok (.invokevirtual 157, 3) := by decide +kernel
theorem dX11_cell_6 : decode cX11_cell 6 = .ok (.istore_n 3, 1) := by decide +kernel
theorem dX11_cell_7 : decode cX11_cell 7 = .ok (.aload_n 0, 1) := by decide +kernel
theorem dX11_cell_8 : decode cX11_cell 8 = .ok (.getfield 34, 3) := by decide +kernel
theorem dX11_cell_11 : decode cX11_cell 11 = .ok (.getfield 160, 3) := by decide +kernel
theorem dX11_cell_14 : decode cX11_cell 14 = .ok (.iload_n 3, 1) := by decide +kernel
theorem dX11_cell_15 : decode cX11_cell 15 = .ok (.invokevirtual 163, 3) := by decide +kernel
theorem dX11_cell_18 : decode cX11_cell 18 = .ok (.ifCond .ne 5, 3) := by decide +kernel
theorem dX11_cell_21 : decode cX11_cell 21 = .ok (.iconst 0, 1) := by decide +kernel
theorem dX11_cell_22 : decode cX11_cell 22 = .ok (.ireturn, 1) := by decide +kernel
theorem dX11_cell_23 : decode cX11_cell 23 = .ok (.aload_n 0, 1) := by decide +kernel
theorem dX11_cell_24 : decode cX11_cell 24 = .ok (.getfield 34, 3) := by decide +kernel
theorem dX11_cell_27 : decode cX11_cell 27 = .ok (.getfield 139, 3) := by decide +kernel
theorem dX11_cell_30 : decode cX11_cell 30 = .ok (.iload_n 3, 1) := by decide +kernel
theorem dX11_cell_31 : decode cX11_cell 31 = .ok (.invokevirtual 163, 3) := by decide +kernel
theorem dX11_cell_34 : decode cX11_cell 34 = .ok (.ifCond .eq 7, 3) := by decide +kernel
theorem dX11_cell_37 : decode cX11_cell 37 = .ok (.iconst 1, 1) := by decide +kernel
theorem dX11_cell_38 : decode cX11_cell 38 = .ok (.goto 4, 3) := by decide +kernel
theorem dX11_cell_41 : decode cX11_cell 41 = .ok (.iconst 0, 1) := by decide +kernel
theorem dX11_cell_42 : decode cX11_cell 42 = .ok (.istore 4, 2) := by decide +kernel
theorem dX11_cell_44 : decode cX11_cell 44 = .ok (.aload_n 0, 1) := by decide +kernel
theorem dX11_cell_45 : decode cX11_cell 45 = .ok (.getfield 56, 3) := by decide +kernel
theorem dX11_cell_48 : decode cX11_cell 48 = .ok (.invokevirtual 128, 3) := by decide +kernel
theorem dX11_cell_51 : decode cX11_cell 51 = .ok (.iload_n 3, 1) := by decide +kernel
theorem dX11_cell_52 : decode cX11_cell 52 = .ok (.invokevirtual 163, 3) := by decide +kernel
theorem dX11_cell_55 : decode cX11_cell 55 = .ok (.ifCond .eq 7, 3) := by decide +kernel
theorem dX11_cell_58 : decode cX11_cell 58 = .ok (.iconst 3, 1) := by decide +kernel
theorem dX11_cell_59 : decode cX11_cell 59 = .ok (.goto 4, 3) := by decide +kernel
theorem dX11_cell_62 : decode cX11_cell 62 = .ok (.iconst 1, 1) := by decide +kernel
theorem dX11_cell_63 : decode cX11_cell 63 = .ok (.iload 4, 2) := by decide +kernel
theorem dX11_cell_65 : decode cX11_cell 65 = .ok (.iadd, 1) := by decide +kernel
theorem dX11_cell_66 : decode cX11_cell 66 = .ok (.ireturn, 1) := by decide +kernel
theorem dX11_pace_0 : decode cX11_pace 0 = .ok (.aload_n 0, 1) := by decide +kernel
theorem dX11_pace_1 : decode cX11_pace 1 = .ok (.iload_n 1, 1) := by decide +kernel
theorem dX11_pace_2 : decode cX11_pace 2 = .ok (.iload_n 2, 1) := by decide +kernel
theorem dX11_pace_3 : decode cX11_pace 3 = .ok (.invokevirtual 157, 3) := by decide +kernel
theorem dX11_pace_6 : decode cX11_pace 6 = .ok (.istore 4, 2) := by decide +kernel
theorem dX11_pace_8 : decode cX11_pace 8 = .ok (.iload_n 3, 1) := by decide +kernel
theorem dX11_pace_9 : decode cX11_pace 9 = .ok (.ifCond .lt 9, 3) := by decide +kernel
theorem dX11_pace_12 : decode cX11_pace 12 = .ok (.iload_n 3, 1) := by decide +kernel
theorem dX11_pace_13 : decode cX11_pace 13 = .ok (.bipush 8, 2) := by decide +kernel
theorem dX11_pace_15 : decode cX11_pace 15 = .ok (.if_icmp .lt 13, 3) := by decide +kernel
theorem dX11_pace_18 : decode cX11_pace 18 = .ok (.new 79, 3) := by decide +kernel
theorem dX11_pace_21 : decode cX11_pace 21 = .ok (.dup, 1) := by decide +kernel
theorem dX11_pace_22 : decode cX11_pace 22 = .ok (.ldc 167, 2) := by decide +kernel
theorem dX11_pace_24 : decode cX11_pace 24 = .ok (.invokespecial 83, 3) := by decide +kernel
theorem dX11_pace_27 : decode cX11_pace 27 = .ok (.athrow, 1) := by decide +kernel
theorem dX11_pace_28 : decode cX11_pace 28 = .ok (.aload_n 0, 1) := by decide +kernel
theorem dX11_pace_29 : decode cX11_pace 29 = .ok (.getfield 34, 3) := by decide +kernel
theorem dX11_pace_32 : decode cX11_pace 32 = .ok (.aload_n 0, 1) := by decide +kernel
theorem dX11_pace_33 : decode cX11_pace 33 = .ok (.getfield 52, 3) := by decide +kernel
theorem dX11_pace_36 : decode cX11_pace 36 = .ok (.iload 4, 2) := by decide +kernel
theorem dX11_pace_38 : decode cX11_pace 38 = .ok (.iload_n 3, 1) := by decide +kernel
theorem dX11_pace_39 : decode cX11_pace 39 = .ok (.invokevirtual 169, 3) := by decide +kernel
theorem dX11_pace_42 : decode cX11_pace 42 = .ok (.invokevirtual 146, 3) := by decide +kernel
theorem dX11_pace_45 : decode cX11_pace 45 = .ok (.ireturn, 1) := by decide +kernel
theorem dX11_reached_0 : decode cX11_reached 0 = .ok (.aload_n 0, 1) := by decide +kernel
theorem dX11_reached_1 : decode cX11_reached 1 = .ok (.iload_n 1, 1) := by decide +kernel
theorem dX11_reached_2 : decode cX11_reached 2 = .ok (.invokevirtual 172, 3) := by decide +kernel
theorem dX11_reached_5 : decode cX11_reached 5 = .ok (.iload_n 2, 1) := by decide +kernel
theorem dX11_reached_6 : decode cX11_reached 6 = .ok (.ifCond .lt 21, 3) := by decide +kernel
theorem dX11_reached_9 : decode cX11_reached 9 = .ok (.iload_n 2, 1) := by decide +kernel
theorem dX11_reached_10 : decode cX11_reached 10 = .ok (.aload_n 0, 1) := by decide +kernel
theorem dX11_reached_11 : decode cX11_reached 11 = .ok (.getfield 34, 3) := by decide +kernel
theorem dX11_reached_14 : decode cX11_reached 14 = .ok (.getfield 103, 3) := by decide +kernel
theorem dX11_reached_17 : decode cX11_reached 17 = .ok (.getfield 175, 3) := by decide +kernel
theorem dX11_reached_20 : decode cX11_reached 20 = .ok (.iload_n 1, 1) := by decide +kernel
theorem dX11_reached_21 : decode cX11_reached 21 = .ok (.invokevirtual 179, 3) := by decide +kernel
theorem dX11_reached_24 : decode cX11_reached 24 = .ok (.if_icmp .le 13, 3) := by decide +kernel
theorem dX11_reached_27 : decode cX11_reached 27 = .ok (.new 79, 3) := by decide +kernel
theorem dX11_reached_30 : decode cX11_reached 30 = .ok (.dup, 1) := by decide +kernel
theorem dX11_reached_31 : decode cX11_reached 31 = .ok (.ldc 184, 2) := by decide +kernel
theorem dX11_reached_33 : decode cX11_reached 33 = .ok (.invokespecial 83, 3) := by decide +kernel
theorem dX11_reached_36 : decode cX11_reached 36 = .ok (.athrow, 1) := by decide +kernel
theorem dX11_reached_37 : decode cX11_reached 37 = .ok (.aload_n 0, 1) := by decide +kernel
theorem dX11_reached_38 : decode cX11_reached 38 = .ok (.getfield 52, 3) := by decide +kernel
theorem dX11_reached_41 : decode cX11_reached 41 = .ok (.iload_n 1, 1) := by decide +kernel
theorem dX11_reached_42 : decode cX11_reached 42 = .ok (.iload_n 2, 1) := by decide +kernel
theorem dX11_reached_43 : decode cX11_reached 43 = .ok (.invokevirtual 186, 3) := by decide +kernel
theorem dX11_reached_46 : decode cX11_reached 46 = .ok (.invokevirtual 132, 3) := by decide +kernel
theorem dX11_reached_49 : decode cX11_reached 49 = .ok (.ireturn, 1) := by decide +kernel
theorem dX11_why_0 : decode cX11_why 0 = .ok (.aload_n 0, 1) := by decide +kernel
theorem dX11_why_1 : decode cX11_why 1 = .ok (.iload_n 1, 1) := by decide +kernel
theorem dX11_why_2 : decode cX11_why 2 = .ok (.iload_n 2, 1) := by decide +kernel
theorem dX11_why_3 : decode cX11_why 3 = .ok (.invokevirtual 157, 3) := by decide +kernel
theorem dX11_why_6 : decode cX11_why 6 = .ok (.istore_n 3, 1) := by decide +kernel
theorem dX11_why_7 : decode cX11_why 7 = .ok (.aload_n 0, 1) := by decide +kernel
theorem dX11_why_8 : decode cX11_why 8 = .ok (.getfield 34, 3) := by decide +kernel
theorem dX11_why_11 : decode cX11_why 11 = .ok (.getfield 160, 3) := by decide +kernel
theorem dX11_why_14 : decode cX11_why 14 = .ok (.iload_n 3, 1) := by decide +kernel
theorem dX11_why_15 : decode cX11_why 15 = .ok (.invokevirtual 163, 3) := by decide +kernel
theorem dX11_why_18 : decode cX11_why 18 = .ok (.ifCond .eq 14, 3) := by decide +kernel
theorem dX11_why_21 : decode cX11_why 21 = .ok (.aload_n 0, 1) := by decide +kernel
theorem dX11_why_22 : decode cX11_why 22 = .ok (.getfield 56, 3) := by decide +kernel
theorem dX11_why_25 : decode cX11_why 25 = .ok (.iload_n 3, 1) := by decide +kernel
theorem dX11_why_26 : decode cX11_why 26 = .ok (.invokevirtual 194, 3) := by decide +kernel
theorem dX11_why_29 : decode cX11_why 29 = .ok (.goto 4, 3) := by decide +kernel
theorem dX11_why_32 : decode cX11_why 32 = .ok (.iconst (-1), 1) := by decide +kernel
theorem dX11_why_33 : decode cX11_why 33 = .ok (.ireturn, 1) := by decide +kernel
theorem dX11_walk_0 : decode cX11_walk 0 = .ok (.aload_n 0, 1) := by decide +kernel
theorem dX11_walk_1 : decode cX11_walk 1 = .ok (.iload_n 1, 1) := by decide +kernel
theorem dX11_walk_2 : decode cX11_walk 2 = .ok (.invokevirtual 172, 3) := by decide +kernel
theorem dX11_walk_5 : decode cX11_walk 5 = .ok (.aload_n 0, 1) := by decide +kernel
theorem dX11_walk_6 : decode cX11_walk 6 = .ok (.iload_n 2, 1) := by decide +kernel
theorem dX11_walk_7 : decode cX11_walk 7 = .ok (.iload_n 3, 1) := by decide +kernel
theorem dX11_walk_8 : decode cX11_walk 8 = .ok (.invokevirtual 157, 3) := by decide +kernel
theorem dX11_walk_11 : decode cX11_walk 11 = .ok (.istore 5, 2) := by decide +kernel
theorem dX11_walk_13 : decode cX11_walk 13 = .ok (.iload 4, 2) := by decide +kernel
theorem dX11_walk_15 : decode cX11_walk 15 = .ok (.ifCond .lt 22, 3) := by decide +kernel
theorem dX11_walk_18 : decode cX11_walk 18 = .ok (.iload 4, 2) := by decide +kernel
theorem dX11_walk_20 : decode cX11_walk 20 = .ok (.aload_n 0, 1) := by decide +kernel
theorem dX11_walk_21 : decode cX11_walk 21 = .ok (.getfield 34, 3) := by decide +kernel
theorem dX11_walk_24 : decode cX11_walk 24 = .ok (.getfield 103, 3) := by decide +kernel
theorem dX11_walk_27 : decode cX11_walk 27 = .ok (.getfield 175, 3) := by decide +kernel
theorem dX11_walk_30 : decode cX11_walk 30 = .ok (.iload_n 1, 1) := by decide +kernel
theorem dX11_walk_31 : decode cX11_walk 31 = .ok (.invokevirtual 179, 3) := by decide +kernel
theorem dX11_walk_34 : decode cX11_walk 34 = .ok (.if_icmp .lt 13, 3) := by decide +kernel
theorem dX11_walk_37 : decode cX11_walk 37 = .ok (.new 197, 3) := by decide +kernel
theorem dX11_walk_40 : decode cX11_walk 40 = .ok (.dup, 1) := by decide +kernel
theorem dX11_walk_41 : decode cX11_walk 41 = .ok (.ldc 199, 2) := by decide +kernel
theorem dX11_walk_43 : decode cX11_walk 43 = .ok (.invokespecial 201, 3) := by decide +kernel
theorem dX11_walk_46 : decode cX11_walk 46 = .ok (.athrow, 1) := by decide +kernel
theorem dX11_walk_47 : decode cX11_walk 47 = .ok (.aload_n 0, 1) := by decide +kernel
theorem dX11_walk_48 : decode cX11_walk 48 = .ok (.getfield 52, 3) := by decide +kernel
theorem dX11_walk_51 : decode cX11_walk 51 = .ok (.iload_n 1, 1) := by decide +kernel
theorem dX11_walk_52 : decode cX11_walk 52 = .ok (.invokevirtual 190, 3) := by decide +kernel
theorem dX11_walk_55 : decode cX11_walk 55 = .ok (.iload 5, 2) := by decide +kernel
theorem dX11_walk_57 : decode cX11_walk 57 = .ok (.invokevirtual 163, 3) := by decide +kernel
theorem dX11_walk_60 : decode cX11_walk 60 = .ok (.ifCond .ne 13, 3) := by decide +kernel
theorem dX11_walk_63 : decode cX11_walk 63 = .ok (.new 202, 3) := by decide +kernel
theorem dX11_walk_66 : decode cX11_walk 66 = .ok (.dup, 1) := by decide +kernel
theorem dX11_walk_67 : decode cX11_walk 67 = .ok (.ldc 204, 2) := by decide +kernel
theorem dX11_walk_69 : decode cX11_walk 69 = .ok (.invokespecial 206, 3) := by decide +kernel
theorem dX11_walk_72 : decode cX11_walk 72 = .ok (.athrow, 1) := by decide +kernel
theorem dX11_walk_73 : decode cX11_walk 73 = .ok (.aload_n 0, 1) := by decide +kernel
theorem dX11_walk_74 : decode cX11_walk 74 = .ok (.getfield 52, 3) := by decide +kernel
theorem dX11_walk_77 : decode cX11_walk 77 = .ok (.iload_n 1, 1) := by decide +kernel
theorem dX11_walk_78 : decode cX11_walk 78 = .ok (.iload 5, 2) := by decide +kernel
theorem dX11_walk_80 : decode cX11_walk 80 = .ok (.iload 4, 2) := by decide +kernel
theorem dX11_walk_82 : decode cX11_walk 82 = .ok (.invokevirtual 207, 3) := by decide +kernel
theorem dX11_walk_85 : decode cX11_walk 85 = .ok (.ireturn, 1) := by decide +kernel
theorem dX11_starts_0 : decode cX11_starts 0 = .ok (.aload_n 0, 1) := by decide +kernel
theorem dX11_starts_1 : decode cX11_starts 1 = .ok (.iload_n 1, 1) := by decide +kernel
theorem dX11_starts_2 : decode cX11_starts 2 = .ok (.invokevirtual 172, 3) := by decide +kernel
theorem dX11_starts_5 : decode cX11_starts 5 = .ok (.aload_n 0, 1) := by decide +kernel
theorem dX11_starts_6 : decode cX11_starts 6 = .ok (.getfield 52, 3) := by decide +kernel
theorem dX11_starts_9 : decode cX11_starts 9 = .ok (.iload_n 1, 1) := by decide +kernel
theorem dX11_starts_10 : decode cX11_starts 10 = .ok (.aload_n 0, 1) := by decide +kernel
theorem dX11_starts_11 : decode cX11_starts 11 = .ok (.iload_n 2, 1) := by decide +kernel
theorem dX11_starts_12 : decode cX11_starts 12 = .ok (.iload_n 3, 1) := by decide +kernel
theorem dX11_starts_13 : decode cX11_starts 13 = .ok (.invokevirtual 157, 3) := by decide +kernel
theorem dX11_starts_16 : decode cX11_starts 16 = .ok (.invokevirtual 211, 3) := by decide +kernel
theorem dX11_starts_19 : decode cX11_starts 19 = .ok (.ireturn, 1) := by decide +kernel
theorem dX11_distance_0 : decode cX11_distance 0 = .ok (.aload_n 0, 1) := by decide +kernel
theorem dX11_distance_1 : decode cX11_distance 1 = .ok (.iload_n 1, 1) := by decide +kernel
theorem dX11_distance_2 : decode cX11_distance 2 = .ok (.iload_n 2, 1) := by decide +kernel
theorem dX11_distance_3 : decode cX11_distance 3 = .ok (.invokevirtual 157, 3) := by decide +kernel
theorem dX11_distance_6 : decode cX11_distance 6 = .ok (.istore_n 3, 1) := by decide +kernel
theorem dX11_distance_7 : decode cX11_distance 7 = .ok (.aload_n 0, 1) := by decide +kernel
theorem dX11_distance_8 : decode cX11_distance 8 = .ok (.getfield 56, 3) := by decide +kernel
theorem dX11_distance_11 : decode cX11_distance 11 = .ok (.aload_n 0, 1) := by decide +kernel
theorem dX11_distance_12 : decode cX11_distance 12 = .ok (.getfield 34, 3) := by decide +kernel
theorem dX11_distance_15 : decode cX11_distance 15 = .ok (.getfield 20, 3) := by decide +kernel
theorem dX11_distance_18 : decode cX11_distance 18 = .ok (.invokevirtual 214, 3) := by decide +kernel
theorem dX11_distance_21 : decode cX11_distance 21 = .ok (.iload_n 3, 1) := by decide +kernel
theorem dX11_distance_22 : decode cX11_distance 22 = .ok (.invokevirtual 179, 3) := by decide +kernel
theorem dX11_distance_25 : decode cX11_distance 25 = .ok (.ireturn, 1) := by decide +kernel
theorem dX11_part_0 : decode cX11_part 0 = .ok (.aload_n 0, 1) := by decide +kernel
theorem dX11_part_1 : decode cX11_part 1 = .ok (.getfield 56, 3) := by decide +kernel
theorem dX11_part_4 : decode cX11_part 4 = .ok (.aload_n 0, 1) := by decide +kernel
theorem dX11_part_5 : decode cX11_part 5 = .ok (.iload_n 1, 1) := by decide +kernel
theorem dX11_part_6 : decode cX11_part 6 = .ok (.iload_n 2, 1) := by decide +kernel
theorem dX11_part_7 : decode cX11_part 7 = .ok (.invokevirtual 157, 3) := by decide +kernel
theorem dX11_part_10 : decode cX11_part 10 = .ok (.invokevirtual 224, 3) := by decide +kernel
theorem dX11_part_13 : decode cX11_part 13 = .ok (.ireturn, 1) := by decide +kernel
theorem dX11_chestIsLeft_0 : decode cX11_chestIsLeft 0 = .ok (.aload_n 0, 1) := by decide +kernel
theorem dX11_chestIsLeft_1 : decode cX11_chestIsLeft 1 = .ok (.getfield 34, 3) := by decide +kernel
theorem dX11_chestIsLeft_4 : decode cX11_chestIsLeft 4 = .ok (.getfield 152, 3) := by decide +kernel
theorem dX11_chestIsLeft_7 : decode cX11_chestIsLeft 7 = .ok (.iconst 1, 1) := by decide +kernel
theorem dX11_chestIsLeft_8 : decode cX11_chestIsLeft 8 = .ok (.if_icmp .ne 27, 3) := by decide +kernel
theorem dX11_chestIsLeft_11 : decode cX11_chestIsLeft 11 = .ok (.aload_n 0, 1) := by decide +kernel
theorem dX11_chestIsLeft_12 : decode cX11_chestIsLeft 12 = .ok (.getfield 56, 3) := by decide +kernel
theorem dX11_chestIsLeft_15 : decode cX11_chestIsLeft 15 = .ok (.invokevirtual 136, 3) := by decide +kernel
theorem dX11_chestIsLeft_18 : decode cX11_chestIsLeft 18 = .ok (.aload_n 0, 1) := by decide +kernel
theorem dX11_chestIsLeft_19 : decode cX11_chestIsLeft 19 = .ok (.getfield 34, 3) := by decide +kernel
theorem dX11_chestIsLeft_22 : decode cX11_chestIsLeft 22 = .ok (.getfield 231, 3) := by decide +kernel
theorem dX11_chestIsLeft_25 : decode cX11_chestIsLeft 25 = .ok (.invokevirtual 163, 3) := by decide +kernel
theorem dX11_chestIsLeft_28 : decode cX11_chestIsLeft 28 = .ok (.ifCond .eq 7, 3) := by decide +kernel
theorem dX11_chestIsLeft_31 : decode cX11_chestIsLeft 31 = .ok (.iconst 1, 1) := by decide +kernel
theorem dX11_chestIsLeft_32 : decode cX11_chestIsLeft 32 = .ok (.goto 4, 3) := by decide +kernel
theorem dX11_chestIsLeft_35 : decode cX11_chestIsLeft 35 = .ok (.iconst 0, 1) := by decide +kernel
theorem dX11_chestIsLeft_36 : decode cX11_chestIsLeft 36 = .ok (.ireturn, 1) := by decide +kernel
theorem dX11_moveTo_0 : decode cX11_moveTo 0 = .ok (.aload_n 0, 1) := by decide +kernel
theorem dX11_moveTo_1 : decode cX11_moveTo 1 = .ok (.iload_n 1, 1) := by decide +kernel
theorem dX11_moveTo_2 : decode cX11_moveTo 2 = .ok (.iload_n 2, 1) := by decide +kernel
theorem dX11_moveTo_3 : decode cX11_moveTo 3 = .ok (.invokevirtual 157, 3) := by decide +kernel
theorem dX11_moveTo_6 : decode cX11_moveTo 6 = .ok (.istore_n 3, 1) := by decide +kernel
theorem dX11_moveTo_7 : decode cX11_moveTo 7 = .ok (.aload_n 0, 1) := by decide +kernel
theorem dX11_moveTo_8 : decode cX11_moveTo 8 = .ok (.getfield 56, 3) := by decide +kernel
theorem dX11_moveTo_11 : decode cX11_moveTo 11 = .ok (.aload_n 0, 1) := by decide +kernel
theorem dX11_moveTo_12 : decode cX11_moveTo 12 = .ok (.getfield 34, 3) := by decide +kernel
theorem dX11_moveTo_15 : decode cX11_moveTo 15 = .ok (.getfield 20, 3) := by decide +kernel
theorem dX11_moveTo_18 : decode cX11_moveTo 18 = .ok (.invokevirtual 214, 3) := by decide +kernel
theorem dX11_moveTo_21 : decode cX11_moveTo 21 = .ok (.iload_n 3, 1) := by decide +kernel
theorem dX11_moveTo_22 : decode cX11_moveTo 22 = .ok (.invokevirtual 179, 3) := by decide +kernel
theorem dX11_moveTo_25 : decode cX11_moveTo 25 = .ok (.istore 4, 2) := by decide +kernel
theorem dX11_moveTo_27 : decode cX11_moveTo 27 = .ok (.iload 4, 2) := by decide +kernel
theorem dX11_moveTo_29 : decode cX11_moveTo 29 = .ok (.ifCond .ge 5, 3) := by decide +kernel
theorem dX11_moveTo_32 : decode cX11_moveTo 32 = .ok (.iconst (-1), 1) := by decide +kernel
theorem dX11_moveTo_33 : decode cX11_moveTo 33 = .ok (.ireturn, 1) := by decide +kernel
theorem dX11_moveTo_34 : decode cX11_moveTo 34 = .ok (.aload_n 0, 1) := by decide +kernel
theorem dX11_moveTo_35 : decode cX11_moveTo 35 = .ok (.getfield 41, 3) := by decide +kernel
theorem dX11_moveTo_38 : decode cX11_moveTo 38 = .ok (.aload_n 0, 1) := by decide +kernel
theorem dX11_moveTo_39 : decode cX11_moveTo 39 = .ok (.getfield 34, 3) := by decide +kernel
theorem dX11_moveTo_42 : decode cX11_moveTo 42 = .ok (.invokevirtual 91, 3) := by decide +kernel
theorem dX11_moveTo_45 : decode cX11_moveTo 45 = .ok (.aload_n 0, 1) := by decide +kernel
theorem dX11_moveTo_46 : decode cX11_moveTo 46 = .ok (.getfield 34, 3) := by decide +kernel
theorem dX11_moveTo_49 : decode cX11_moveTo 49 = .ok (.iload_n 3, 1) := by decide +kernel
theorem dX11_moveTo_50 : decode cX11_moveTo 50 = .ok (.putfield 20, 3) := by decide +kernel
theorem dX11_moveTo_53 : decode cX11_moveTo 53 = .ok (.aload_n 0, 1) := by decide +kernel
theorem dX11_moveTo_54 : decode cX11_moveTo 54 = .ok (.getfield 34, 3) := by decide +kernel
theorem dX11_moveTo_57 : decode cX11_moveTo 57 = .ok (.dup, 1) := by decide +kernel
theorem dX11_moveTo_58 : decode cX11_moveTo 58 = .ok (.getfield 149, 3) := by decide +kernel
theorem dX11_moveTo_61 : decode cX11_moveTo 61 = .ok (.iload 4, 2) := by decide +kernel
theorem dX11_moveTo_63 : decode cX11_moveTo 63 = .ok (.iadd, 1) := by decide +kernel
theorem dX11_moveTo_64 : decode cX11_moveTo 64 = .ok (.putfield 149, 3) := by decide +kernel
theorem dX11_moveTo_67 : decode cX11_moveTo 67 = .ok (.iload 4, 2) := by decide +kernel
theorem dX11_moveTo_69 : decode cX11_moveTo 69 = .ok (.ireturn, 1) := by decide +kernel
theorem dX11_dig_0 : decode cX11_dig 0 = .ok (.aload_n 0, 1) := by decide +kernel
theorem dX11_dig_1 : decode cX11_dig 1 = .ok (.getfield 41, 3) := by decide +kernel
theorem dX11_dig_4 : decode cX11_dig 4 = .ok (.aload_n 0, 1) := by decide +kernel
theorem dX11_dig_5 : decode cX11_dig 5 = .ok (.getfield 34, 3) := by decide +kernel
theorem dX11_dig_8 : decode cX11_dig 8 = .ok (.invokevirtual 91, 3) := by decide +kernel
theorem dX11_dig_11 : decode cX11_dig 11 = .ok (.aload_n 0, 1) := by decide +kernel
theorem dX11_dig_12 : decode cX11_dig 12 = .ok (.getfield 34, 3) := by decide +kernel
theorem dX11_dig_15 : decode cX11_dig 15 = .ok (.getfield 139, 3) := by decide +kernel
theorem dX11_dig_18 : decode cX11_dig 18 = .ok (.aload_n 0, 1) := by decide +kernel
theorem dX11_dig_19 : decode cX11_dig 19 = .ok (.getfield 34, 3) := by decide +kernel
theorem dX11_dig_22 : decode cX11_dig 22 = .ok (.getfield 20, 3) := by decide +kernel
theorem dX11_dig_25 : decode cX11_dig 25 = .ok (.invokevirtual 163, 3) := by decide +kernel
theorem dX11_dig_28 : decode cX11_dig 28 = .ok (.ifCond .eq 5, 3) := by decide +kernel
theorem dX11_dig_31 : decode cX11_dig 31 = .ok (.iconst 0, 1) := by decide +kernel
theorem dX11_dig_32 : decode cX11_dig 32 = .ok (.ireturn, 1) := by decide +kernel
theorem dX11_dig_33 : decode cX11_dig 33 = .ok (.aload_n 0, 1) := by decide +kernel
theorem dX11_dig_34 : decode cX11_dig 34 = .ok (.getfield 34, 3) := by decide +kernel
theorem dX11_dig_37 : decode cX11_dig 37 = .ok (.getfield 139, 3) := by decide +kernel
theorem dX11_dig_40 : decode cX11_dig 40 = .ok (.aload_n 0, 1) := by decide +kernel
theorem dX11_dig_41 : decode cX11_dig 41 = .ok (.getfield 34, 3) := by decide +kernel
theorem dX11_dig_44 : decode cX11_dig 44 = .ok (.getfield 20, 3) := by decide +kernel
theorem dX11_dig_47 : decode cX11_dig 47 = .ok (.invokevirtual 234, 3) := by decide +kernel
theorem dX11_dig_50 : decode cX11_dig 50 = .ok (.aload_n 0, 1) := by decide +kernel
theorem dX11_dig_51 : decode cX11_dig 51 = .ok (.getfield 34, 3) := by decide +kernel
theorem dX11_dig_54 : decode cX11_dig 54 = .ok (.getfield 152, 3) := by decide +kernel
theorem dX11_dig_57 : decode cX11_dig 57 = .ok (.iconst 1, 1) := by decide +kernel
theorem dX11_dig_58 : decode cX11_dig 58 = .ok (.if_icmp .ne 20, 3) := by decide +kernel
theorem dX11_dig_61 : decode cX11_dig 61 = .ok (.aload_n 0, 1) := by decide +kernel
theorem dX11_dig_62 : decode cX11_dig 62 = .ok (.getfield 34, 3) := by decide +kernel
theorem dX11_dig_65 : decode cX11_dig 65 = .ok (.getfield 231, 3) := by decide +kernel
theorem dX11_dig_68 : decode cX11_dig 68 = .ok (.aload_n 0, 1) := by decide +kernel
theorem dX11_dig_69 : decode cX11_dig 69 = .ok (.getfield 34, 3) := by decide +kernel
theorem dX11_dig_72 : decode cX11_dig 72 = .ok (.getfield 20, 3) := by decide +kernel
theorem dX11_dig_75 : decode cX11_dig 75 = .ok (.if_icmp .eq 5, 3) := by decide +kernel
theorem dX11_dig_78 : decode cX11_dig 78 = .ok (.iconst 1, 1) := by decide +kernel
theorem dX11_dig_79 : decode cX11_dig 79 = .ok (.ireturn, 1) := by decide +kernel
theorem dX11_dig_80 : decode cX11_dig 80 = .ok (.aload_n 0, 1) := by decide +kernel
theorem dX11_dig_81 : decode cX11_dig 81 = .ok (.getfield 34, 3) := by decide +kernel
theorem dX11_dig_84 : decode cX11_dig 84 = .ok (.iconst 2, 1) := by decide +kernel
theorem dX11_dig_85 : decode cX11_dig 85 = .ok (.putfield 152, 3) := by decide +kernel
theorem dX11_dig_88 : decode cX11_dig 88 = .ok (.iconst 2, 1) := by decide +kernel
theorem dX11_dig_89 : decode cX11_dig 89 = .ok (.ireturn, 1) := by decide +kernel
theorem dX11_use_0 : decode cX11_use 0 = .ok (.aload_n 0, 1) := by decide +kernel
theorem dX11_use_1 : decode cX11_use 1 = .ok (.iload_n 1, 1) := by decide +kernel
theorem dX11_use_2 : decode cX11_use 2 = .ok (.invokevirtual 172, 3) := by decide +kernel
theorem dX11_use_5 : decode cX11_use 5 = .ok (.aload_n 0, 1) := by decide +kernel
theorem dX11_use_6 : decode cX11_use 6 = .ok (.getfield 41, 3) := by decide +kernel
theorem dX11_use_9 : decode cX11_use 9 = .ok (.aload_n 0, 1) := by decide +kernel
theorem dX11_use_10 : decode cX11_use 10 = .ok (.getfield 34, 3) := by decide +kernel
theorem dX11_use_13 : decode cX11_use 13 = .ok (.invokevirtual 91, 3) := by decide +kernel
theorem dX11_use_16 : decode cX11_use 16 = .ok (.aload_n 0, 1) := by decide +kernel
theorem dX11_use_17 : decode cX11_use 17 = .ok (.getfield 34, 3) := by decide +kernel
theorem dX11_use_20 : decode cX11_use 20 = .ok (.getfield 103, 3) := by decide +kernel
theorem dX11_use_23 : decode cX11_use 23 = .ok (.getfield 237, 3) := by decide +kernel
theorem dX11_use_26 : decode cX11_use 26 = .ok (.iload_n 1, 1) := by decide +kernel
theorem dX11_use_27 : decode cX11_use 27 = .ok (.iload_n 2, 1) := by decide +kernel
theorem dX11_use_28 : decode cX11_use 28 = .ok (.ifCond .eq 7, 3) := by decide +kernel
theorem dX11_use_31 : decode cX11_use 31 = .ok (.iconst 1, 1) := by decide +kernel
theorem dX11_use_32 : decode cX11_use 32 = .ok (.goto 4, 3) := by decide +kernel
theorem dX11_use_35 : decode cX11_use 35 = .ok (.iconst 0, 1) := by decide +kernel
theorem dX11_use_36 : decode cX11_use 36 = .ok (.invokevirtual 240, 3) := by decide +kernel
theorem dX11_use_39 : decode cX11_use 39 = .ok (.aload_n 0, 1) := by decide +kernel
theorem dX11_use_40 : decode cX11_use 40 = .ok (.getfield 56, 3) := by decide +kernel
theorem dX11_use_43 : decode cX11_use 43 = .ok (.invokevirtual 136, 3) := by decide +kernel
theorem dX11_use_46 : decode cX11_use 46 = .ok (.invokevirtual 132, 3) := by decide +kernel
theorem dX11_use_49 : decode cX11_use 49 = .ok (.ireturn, 1) := by decide +kernel
theorem dX11_hide_0 : decode cX11_hide 0 = .ok (.iload_n 1, 1) := by decide +kernel
theorem dX11_hide_1 : decode cX11_hide 1 = .ok (.ifCond .lt 10, 3) := by decide +kernel
theorem dX11_hide_4 : decode cX11_hide 4 = .ok (.iload_n 1, 1) := by decide +kernel
theorem dX11_hide_5 : decode cX11_hide 5 = .ok (.sipush 9999, 3) := by decide +kernel
theorem dX11_hide_8 : decode cX11_hide 8 = .ok (.if_icmp .le 13, 3) := by decide +kernel
theorem dX11_hide_11 : decode cX11_hide 11 = .ok (.new 79, 3) := by decide +kernel
theorem dX11_hide_14 : decode cX11_hide 14 = .ok (.dup, 1) := by decide +kernel
theorem dX11_hide_15 : decode cX11_hide 15 = .ok (.ldc 243, 2) := by decide +kernel
theorem dX11_hide_17 : decode cX11_hide 17 = .ok (.invokespecial 83, 3) := by decide +kernel
theorem dX11_hide_20 : decode cX11_hide 20 = .ok (.athrow, 1) := by decide +kernel
theorem dX11_hide_21 : decode cX11_hide 21 = .ok (.aload_n 0, 1) := by decide +kernel
theorem dX11_hide_22 : decode cX11_hide 22 = .ok (.getfield 41, 3) := by decide +kernel
theorem dX11_hide_25 : decode cX11_hide 25 = .ok (.aload_n 0, 1) := by decide +kernel
theorem dX11_hide_26 : decode cX11_hide 26 = .ok (.getfield 34, 3) := by decide +kernel
theorem dX11_hide_29 : decode cX11_hide 29 = .ok (.invokevirtual 91, 3) := by decide +kernel
theorem dX11_hide_32 : decode cX11_hide 32 = .ok (.aload_n 0, 1) := by decide +kernel
theorem dX11_hide_33 : decode cX11_hide 33 = .ok (.getfield 56, 3) := by decide +kernel
theorem dX11_hide_36 : decode cX11_hide 36 = .ok (.invokevirtual 136, 3) := by decide +kernel
theorem dX11_hide_39 : decode cX11_hide 39 = .ok (.astore_n 2, 1) := by decide +kernel
theorem dX11_hide_40 : decode cX11_hide 40 = .ok (.aload_n 2, 1) := by decide +kernel
theorem dX11_hide_41 : decode cX11_hide 41 = .ok (.invokevirtual 132, 3) := by decide +kernel
theorem dX11_hide_44 : decode cX11_hide 44 = .ok (.istore_n 3, 1) := by decide +kernel
theorem dX11_hide_45 : decode cX11_hide 45 = .ok (.aload_n 0, 1) := by decide +kernel
theorem dX11_hide_46 : decode cX11_hide 46 = .ok (.getfield 34, 3) := by decide +kernel
theorem dX11_hide_49 : decode cX11_hide 49 = .ok (.iload_n 3, 1) := by decide +kernel
theorem dX11_hide_50 : decode cX11_hide 50 = .ok (.ifCond .le 7, 3) := by decide +kernel
theorem dX11_hide_53 : decode cX11_hide 53 = .ok (.iconst 1, 1) := by decide +kernel
theorem dX11_hide_54 : decode cX11_hide 54 = .ok (.goto 4, 3) := by decide +kernel
theorem dX11_hide_57 : decode cX11_hide 57 = .ok (.iconst 0, 1) := by decide +kernel
theorem dX11_hide_58 : decode cX11_hide 58 = .ok (.putfield 152, 3) := by decide +kernel
theorem dX11_hide_61 : decode cX11_hide 61 = .ok (.aload_n 0, 1) := by decide +kernel
theorem dX11_hide_62 : decode cX11_hide 62 = .ok (.getfield 34, 3) := by decide +kernel
theorem dX11_hide_65 : decode cX11_hide 65 = .ok (.iload_n 3, 1) := by decide +kernel
theorem dX11_hide_66 : decode cX11_hide 66 = .ok (.ifCond .le 13, 3) := by decide +kernel
theorem dX11_hide_69 : decode cX11_hide 69 = .ok (.aload_n 2, 1) := by decide +kernel
theorem dX11_hide_70 : decode cX11_hide 70 = .ok (.iload_n 1, 1) := by decide +kernel
theorem dX11_hide_71 : decode cX11_hide 71 = .ok (.iload_n 3, 1) := by decide +kernel
theorem dX11_hide_72 : decode cX11_hide 72 = .ok (.irem, 1) := by decide +kernel
theorem dX11_hide_73 : decode cX11_hide 73 = .ok (.invokevirtual 245, 3) := by decide +kernel
theorem dX11_hide_76 : decode cX11_hide 76 = .ok (.goto 4, 3) := by decide +kernel
theorem dX11_hide_79 : decode cX11_hide 79 = .ok (.iconst 0, 1) := by decide +kernel
theorem dX11_hide_80 : decode cX11_hide 80 = .ok (.putfield 231, 3) := by decide +kernel
theorem dX11_hide_83 : decode cX11_hide 83 = .ok (.iload_n 3, 1) := by decide +kernel
theorem dX11_hide_84 : decode cX11_hide 84 = .ok (.ireturn, 1) := by decide +kernel
theorem dX11_turn_0 : decode cX11_turn 0 = .ok (.iload_n 1, 1) := by decide +kernel
theorem dX11_turn_1 : decode cX11_turn 1 = .ok (.ifCond .lt 14, 3) := by decide +kernel
theorem dX11_turn_4 : decode cX11_turn 4 = .ok (.iload_n 1, 1) := by decide +kernel
theorem dX11_turn_5 : decode cX11_turn 5 = .ok (.aload_n 0, 1) := by decide +kernel
theorem dX11_turn_6 : decode cX11_turn 6 = .ok (.getfield 34, 3) := by decide +kernel
theorem dX11_turn_9 : decode cX11_turn 9 = .ok (.getfield 122, 3) := by decide +kernel
theorem dX11_turn_12 : decode cX11_turn 12 = .ok (.if_icmp .lt 13, 3) := by decide +kernel
theorem dX11_turn_15 : decode cX11_turn 15 = .ok (.new 197, 3) := by decide +kernel
theorem dX11_turn_18 : decode cX11_turn 18 = .ok (.dup, 1) := by decide +kernel
theorem dX11_turn_19 : decode cX11_turn 19 = .ok (.ldc 248, 2) := by decide +kernel
theorem dX11_turn_21 : decode cX11_turn 21 = .ok (.invokespecial 201, 3) := by decide +kernel
theorem dX11_turn_24 : decode cX11_turn 24 = .ok (.athrow, 1) := by decide +kernel
theorem dX11_turn_25 : decode cX11_turn 25 = .ok (.iload_n 2, 1) := by decide +kernel
theorem dX11_turn_26 : decode cX11_turn 26 = .ok (.bipush (-3), 2) := by decide +kernel
theorem dX11_turn_28 : decode cX11_turn 28 = .ok (.if_icmp .lt 8, 3) := by decide +kernel
theorem dX11_turn_31 : decode cX11_turn 31 = .ok (.iload_n 2, 1) := by decide +kernel
theorem dX11_turn_32 : decode cX11_turn 32 = .ok (.iconst 3, 1) := by decide +kernel
theorem dX11_turn_33 : decode cX11_turn 33 = .ok (.if_icmp .le 13, 3) := by decide +kernel
theorem dX11_turn_36 : decode cX11_turn 36 = .ok (.new 79, 3) := by decide +kernel
theorem dX11_turn_39 : decode cX11_turn 39 = .ok (.dup, 1) := by decide +kernel
theorem dX11_turn_40 : decode cX11_turn 40 = .ok (.ldc 250, 2) := by decide +kernel
theorem dX11_turn_42 : decode cX11_turn 42 = .ok (.invokespecial 83, 3) := by decide +kernel
theorem dX11_turn_45 : decode cX11_turn 45 = .ok (.athrow, 1) := by decide +kernel
theorem dX11_turn_46 : decode cX11_turn 46 = .ok (.aload_n 0, 1) := by decide +kernel
theorem dX11_turn_47 : decode cX11_turn 47 = .ok (.getfield 41, 3) := by decide +kernel
theorem dX11_turn_50 : decode cX11_turn 50 = .ok (.aload_n 0, 1) := by decide +kernel
theorem dX11_turn_51 : decode cX11_turn 51 = .ok (.getfield 34, 3) := by decide +kernel
theorem dX11_turn_54 : decode cX11_turn 54 = .ok (.invokevirtual 91, 3) := by decide +kernel
theorem dX11_turn_57 : decode cX11_turn 57 = .ok (.aload_n 0, 1) := by decide +kernel
theorem dX11_turn_58 : decode cX11_turn 58 = .ok (.getfield 34, 3) := by decide +kernel
theorem dX11_turn_61 : decode cX11_turn 61 = .ok (.getfield 252, 3) := by decide +kernel
theorem dX11_turn_64 : decode cX11_turn 64 = .ok (.iload_n 1, 1) := by decide +kernel
theorem dX11_turn_65 : decode cX11_turn 65 = .ok (.invokevirtual 179, 3) := by decide +kernel
theorem dX11_turn_68 : decode cX11_turn 68 = .ok (.istore_n 3, 1) := by decide +kernel
theorem dX11_turn_69 : decode cX11_turn 69 = .ok (.aload_n 0, 1) := by decide +kernel
theorem dX11_turn_70 : decode cX11_turn 70 = .ok (.getfield 34, 3) := by decide +kernel
theorem dX11_turn_73 : decode cX11_turn 73 = .ok (.getfield 252, 3) := by decide +kernel
theorem dX11_turn_76 : decode cX11_turn 76 = .ok (.iload_n 1, 1) := by decide +kernel
theorem dX11_turn_77 : decode cX11_turn 77 = .ok (.iload_n 2, 1) := by decide +kernel
theorem dX11_turn_78 : decode cX11_turn 78 = .ok (.invokevirtual 240, 3) := by decide +kernel
theorem dX11_turn_81 : decode cX11_turn 81 = .ok (.aload_n 0, 1) := by decide +kernel
theorem dX11_turn_82 : decode cX11_turn 82 = .ok (.getfield 52, 3) := by decide +kernel
theorem dX11_turn_85 : decode cX11_turn 85 = .ok (.invokevirtual 100, 3) := by decide +kernel
theorem dX11_turn_88 : decode cX11_turn 88 = .ok (.iload_n 3, 1) := by decide +kernel
theorem dX11_turn_89 : decode cX11_turn 89 = .ok (.ireturn, 1) := by decide +kernel
theorem dX11_undo_0 : decode cX11_undo 0 = .ok (.aload_n 0, 1) := by decide +kernel
theorem dX11_undo_1 : decode cX11_undo 1 = .ok (.getfield 41, 3) := by decide +kernel
theorem dX11_undo_4 : decode cX11_undo 4 = .ok (.aload_n 0, 1) := by decide +kernel
theorem dX11_undo_5 : decode cX11_undo 5 = .ok (.getfield 34, 3) := by decide +kernel
theorem dX11_undo_8 : decode cX11_undo 8 = .ok (.invokevirtual 255, 3) := by decide +kernel
theorem dX11_undo_11 : decode cX11_undo 11 = .ok (.ifCond .ne 5, 3) := by decide +kernel
theorem dX11_undo_14 : decode cX11_undo 14 = .ok (.iconst (-1), 1) := by decide +kernel
theorem dX11_undo_15 : decode cX11_undo 15 = .ok (.ireturn, 1) := by decide +kernel
theorem dX11_undo_16 : decode cX11_undo 16 = .ok (.aload_n 0, 1) := by decide +kernel
theorem dX11_undo_17 : decode cX11_undo 17 = .ok (.getfield 52, 3) := by decide +kernel
theorem dX11_undo_20 : decode cX11_undo 20 = .ok (.invokevirtual 100, 3) := by decide +kernel
theorem dX11_undo_23 : decode cX11_undo 23 = .ok (.aload_n 0, 1) := by decide +kernel
theorem dX11_undo_24 : decode cX11_undo 24 = .ok (.getfield 41, 3) := by decide +kernel
theorem dX11_undo_27 : decode cX11_undo 27 = .ok (.getfield 259, 3) := by decide +kernel
theorem dX11_undo_30 : decode cX11_undo 30 = .ok (.ireturn, 1) := by decide +kernel
theorem dX11_checksum_0 : decode cX11_checksum 0 = .ok (.lconst 0, 1) := by decide +kernel
theorem dX11_checksum_1 : decode cX11_checksum 1 = .ok (.lstore_n 1, 1) := by decide +kernel
theorem dX11_checksum_2 : decode cX11_checksum 2 = .ok (.iconst 0, 1) := by decide +kernel
theorem dX11_checksum_3 : decode cX11_checksum 3 = .ok (.istore_n 3, 1) := by decide +kernel
theorem dX11_checksum_4 : decode cX11_checksum 4 = .ok (.iload_n 3, 1) := by decide +kernel
theorem dX11_checksum_5 : decode cX11_checksum 5 = .ok (.bipush 12, 2) := by decide +kernel
theorem dX11_checksum_7 : decode cX11_checksum 7 = .ok (.if_icmp .gt 22, 3) := by decide +kernel
theorem dX11_checksum_10 : decode cX11_checksum 10 = .ok (.ldc2_w 260, 3) := by decide +kernel
theorem dX11_checksum_13 : decode cX11_checksum 13 = .ok (.lload_n 1, 1) := by decide +kernel
theorem dX11_checksum_14 : decode cX11_checksum 14 = .ok (.lmul, 1) := by decide +kernel
theorem dX11_checksum_15 : decode cX11_checksum 15 = .ok (.aload_n 0, 1) := by decide +kernel
theorem dX11_checksum_16 : decode cX11_checksum 16 = .ok (.iload_n 3, 1) := by decide +kernel
theorem dX11_checksum_17 : decode cX11_checksum 17 = .ok (.invokevirtual 262, 3) := by decide +kernel
theorem dX11_checksum_20 : decode cX11_checksum 20 = .ok (.i2l, 1) := by decide +kernel
theorem dX11_checksum_21 : decode cX11_checksum 21 = .ok (.ladd, 1) := by decide +kernel
theorem dX11_checksum_22 : decode cX11_checksum 22 = .ok (.lstore_n 1, 1) := by decide +kernel
theorem dX11_checksum_23 : decode cX11_checksum 23 = .ok (.iinc 3 1, 3) := by decide +kernel
theorem dX11_checksum_26 : decode cX11_checksum 26 = .ok (.goto (-22), 3) := by decide +kernel
theorem dX11_checksum_29 : decode cX11_checksum 29 = .ok (.iconst 0, 1) := by decide +kernel
theorem dX11_checksum_30 : decode cX11_checksum 30 = .ok (.istore_n 3, 1) := by decide +kernel
theorem dX11_checksum_31 : decode cX11_checksum 31 = .ok (.iload_n 3, 1) := by decide +kernel
theorem dX11_checksum_32 : decode cX11_checksum 32 = .ok (.aload_n 0, 1) := by decide +kernel
theorem dX11_checksum_33 : decode cX11_checksum 33 = .ok (.getfield 34, 3) := by decide +kernel
theorem dX11_checksum_36 : decode cX11_checksum 36 = .ok (.getfield 115, 3) := by decide +kernel
theorem dX11_checksum_39 : decode cX11_checksum 39 = .ok (.if_icmp .ge 45, 3) := by decide +kernel
theorem dX11_checksum_42 : decode cX11_checksum 42 = .ok (.iconst 0, 1) := by decide +kernel
theorem dX11_checksum_43 : decode cX11_checksum 43 = .ok (.istore 4, 2) := by decide +kernel
theorem dX11_checksum_45 : decode cX11_checksum 45 = .ok (.iload 4, 2) := by decide +kernel
theorem dX11_checksum_47 : decode cX11_checksum 47 = .ok (.aload_n 0, 1) := by decide +kernel
theorem dX11_checksum_48 : decode cX11_checksum 48 = .ok (.getfield 34, 3) := by decide +kernel
theorem dX11_checksum_51 : decode cX11_checksum 51 = .ok (.getfield 112, 3) := by decide +kernel
theorem dX11_checksum_54 : decode cX11_checksum 54 = .ok (.if_icmp .ge 24, 3) := by decide +kernel
theorem dX11_checksum_57 : decode cX11_checksum 57 = .ok (.ldc2_w 260, 3) := by decide +kernel
theorem dX11_checksum_60 : decode cX11_checksum 60 = .ok (.lload_n 1, 1) := by decide +kernel
theorem dX11_checksum_61 : decode cX11_checksum 61 = .ok (.lmul, 1) := by decide +kernel
theorem dX11_checksum_62 : decode cX11_checksum 62 = .ok (.aload_n 0, 1) := by decide +kernel
theorem dX11_checksum_63 : decode cX11_checksum 63 = .ok (.iload 4, 2) := by decide +kernel
theorem dX11_checksum_65 : decode cX11_checksum 65 = .ok (.iload_n 3, 1) := by decide +kernel
theorem dX11_checksum_66 : decode cX11_checksum 66 = .ok (.invokevirtual 265, 3) := by decide +kernel
theorem dX11_checksum_69 : decode cX11_checksum 69 = .ok (.i2l, 1) := by decide +kernel
theorem dX11_checksum_70 : decode cX11_checksum 70 = .ok (.ladd, 1) := by decide +kernel
theorem dX11_checksum_71 : decode cX11_checksum 71 = .ok (.lstore_n 1, 1) := by decide +kernel
theorem dX11_checksum_72 : decode cX11_checksum 72 = .ok (.iinc 4 1, 3) := by decide +kernel
theorem dX11_checksum_75 : decode cX11_checksum 75 = .ok (.goto (-30), 3) := by decide +kernel
theorem dX11_checksum_78 : decode cX11_checksum 78 = .ok (.iinc 3 1, 3) := by decide +kernel
theorem dX11_checksum_81 : decode cX11_checksum 81 = .ok (.goto (-50), 3) := by decide +kernel
theorem dX11_checksum_84 : decode cX11_checksum 84 = .ok (.iconst 0, 1) := by decide +kernel
theorem dX11_checksum_85 : decode cX11_checksum 85 = .ok (.istore_n 3, 1) := by decide +kernel
theorem dX11_checksum_86 : decode cX11_checksum 86 = .ok (.iload_n 3, 1) := by decide +kernel
theorem dX11_checksum_87 : decode cX11_checksum 87 = .ok (.aload_n 0, 1) := by decide +kernel
theorem dX11_checksum_88 : decode cX11_checksum 88 = .ok (.getfield 34, 3) := by decide +kernel
theorem dX11_checksum_91 : decode cX11_checksum 91 = .ok (.getfield 103, 3) := by decide +kernel
theorem dX11_checksum_94 : decode cX11_checksum 94 = .ok (.getfield 107, 3) := by decide +kernel
theorem dX11_checksum_97 : decode cX11_checksum 97 = .ok (.if_icmp .ge 79, 3) := by decide +kernel
theorem dX11_checksum_100 : decode cX11_checksum 100 = .ok (.ldc2_w 260, 3) := by decide +kernel
theorem dX11_checksum_103 : decode cX11_checksum 103 = .ok (.lload_n 1, 1) := by decide +kernel
theorem dX11_checksum_104 : decode cX11_checksum 104 = .ok (.lmul, 1) := by decide +kernel
theorem dX11_checksum_105 : decode cX11_checksum 105 = .ok (.aload_n 0, 1) := by decide +kernel
theorem dX11_checksum_106 : decode cX11_checksum 106 = .ok (.getfield 34, 3) := by decide +kernel
theorem dX11_checksum_109 : decode cX11_checksum 109 = .ok (.getfield 103, 3) := by decide +kernel
theorem dX11_checksum_112 : decode cX11_checksum 112 = .ok (.iload_n 3, 1) := by decide +kernel
theorem dX11_checksum_113 : decode cX11_checksum 113 = .ok (.invokevirtual 268, 3) := by decide +kernel
theorem dX11_checksum_116 : decode cX11_checksum 116 = .ok (.ifCond .eq 7, 3) := by decide +kernel
theorem dX11_checksum_119 : decode cX11_checksum 119 = .ok (.iconst 1, 1) := by decide +kernel
theorem dX11_checksum_120 : decode cX11_checksum 120 = .ok (.goto 4, 3) := by decide +kernel
theorem dX11_checksum_123 : decode cX11_checksum 123 = .ok (.iconst 0, 1) := by decide +kernel
theorem dX11_checksum_124 : decode cX11_checksum 124 = .ok (.i2l, 1) := by decide +kernel
theorem dX11_checksum_125 : decode cX11_checksum 125 = .ok (.ladd, 1) := by decide +kernel
theorem dX11_checksum_126 : decode cX11_checksum 126 = .ok (.lstore_n 1, 1) := by decide +kernel
theorem dX11_checksum_127 : decode cX11_checksum 127 = .ok (.iconst 0, 1) := by decide +kernel
theorem dX11_checksum_128 : decode cX11_checksum 128 = .ok (.istore 4, 2) := by decide +kernel
theorem dX11_checksum_130 : decode cX11_checksum 130 = .ok (.iload 4, 2) := by decide +kernel
theorem dX11_checksum_132 : decode cX11_checksum 132 = .ok (.aload_n 0, 1) := by decide +kernel
theorem dX11_checksum_133 : decode cX11_checksum 133 = .ok (.getfield 34, 3) := by decide +kernel
theorem dX11_checksum_136 : decode cX11_checksum 136 = .ok (.getfield 103, 3) := by decide +kernel
theorem dX11_checksum_139 : decode cX11_checksum 139 = .ok (.getfield 175, 3) := by decide +kernel
theorem dX11_checksum_142 : decode cX11_checksum 142 = .ok (.iload_n 3, 1) := by decide +kernel
theorem dX11_checksum_143 : decode cX11_checksum 143 = .ok (.invokevirtual 179, 3) := by decide +kernel
theorem dX11_checksum_146 : decode cX11_checksum 146 = .ok (.if_icmp .gt 24, 3) := by decide +kernel
theorem dX11_checksum_149 : decode cX11_checksum 149 = .ok (.ldc2_w 260, 3) := by decide +kernel
theorem dX11_checksum_152 : decode cX11_checksum 152 = .ok (.lload_n 1, 1) := by decide +kernel
theorem dX11_checksum_153 : decode cX11_checksum 153 = .ok (.lmul, 1) := by decide +kernel
theorem dX11_checksum_154 : decode cX11_checksum 154 = .ok (.aload_n 0, 1) := by decide +kernel
theorem dX11_checksum_155 : decode cX11_checksum 155 = .ok (.iload_n 3, 1) := by decide +kernel
theorem dX11_checksum_156 : decode cX11_checksum 156 = .ok (.iload 4, 2) := by decide +kernel
theorem dX11_checksum_158 : decode cX11_checksum 158 = .ok (.invokevirtual 271, 3) := by decide +kernel
theorem dX11_checksum_161 : decode cX11_checksum 161 = .ok (.i2l, 1) := by decide +kernel
theorem dX11_checksum_162 : decode cX11_checksum 162 = .ok (.ladd, 1) := by decide +kernel
theorem dX11_checksum_163 : decode cX11_checksum 163 = .ok (.lstore_n 1, 1) := by decide +kernel
theorem dX11_checksum_164 : decode cX11_checksum 164 = .ok (.iinc 4 1, 3) := by decide +kernel
theorem dX11_checksum_167 : decode cX11_checksum 167 = .ok (.goto (-37), 3) := by decide +kernel
theorem dX11_checksum_170 : decode cX11_checksum 170 = .ok (.iinc 3 1, 3) := by decide +kernel
theorem dX11_checksum_173 : decode cX11_checksum 173 = .ok (.goto (-87), 3) := by decide +kernel
theorem dX11_checksum_176 : decode cX11_checksum 176 = .ok (.lload_n 1, 1) := by decide +kernel
theorem dX11_checksum_177 : decode cX11_checksum 177 = .ok (.lreturn, 1) := by decide +kernel
theorem dX11_checkedSpot_0 : decode cX11_checkedSpot 0 = .ok (.iload_n 1, 1) := by decide +kernel
theorem dX11_checkedSpot_1 : decode cX11_checkedSpot 1 = .ok (.ifCond .lt 29, 3) := by decide +kernel
theorem dX11_checkedSpot_4 : decode cX11_checkedSpot 4 = .ok (.iload_n 1, 1) := by decide +kernel
theorem dX11_checkedSpot_5 : decode cX11_checkedSpot 5 = .ok (.aload_n 0, 1) := by decide +kernel
theorem dX11_checkedSpot_6 : decode cX11_checkedSpot 6 = .ok (.getfield 34, 3) := by decide +kernel
theorem dX11_checkedSpot_9 : decode cX11_checkedSpot 9 = .ok (.getfield 112, 3) := by decide +kernel
theorem dX11_checkedSpot_12 : decode cX11_checkedSpot 12 = .ok (.if_icmp .ge 18, 3) := by decide +kernel
theorem dX11_checkedSpot_15 : decode cX11_checkedSpot 15 = .ok (.iload_n 2, 1) := by decide +kernel
theorem dX11_checkedSpot_16 : decode cX11_checkedSpot 16 = .ok (.ifCond .lt 14, 3) := by decide +kernel
theorem dX11_checkedSpot_19 : decode cX11_checkedSpot 19 = .ok (.iload_n 2, 1) := by decide +kernel
theorem dX11_checkedSpot_20 : decode cX11_checkedSpot 20 = .ok (.aload_n 0, 1) := by decide +kernel
theorem dX11_checkedSpot_21 : decode cX11_checkedSpot 21 = .ok (.getfield 34, 3) := by decide +kernel
theorem dX11_checkedSpot_24 : decode cX11_checkedSpot 24 = .ok (.getfield 115, 3) := by decide +kernel
theorem dX11_checkedSpot_27 : decode cX11_checkedSpot 27 = .ok (.if_icmp .lt 14, 3) := by decide +kernel
theorem dX11_checkedSpot_30 : decode cX11_checkedSpot 30 = .ok (.new 197, 3) := by decide +kernel
theorem dX11_checkedSpot_33 : decode cX11_checkedSpot 33 = .ok (.dup, 1) := by decide +kernel
theorem dX11_checkedSpot_34 : decode cX11_checkedSpot 34 = .ok (.ldc_w 274, 3) := by decide +kernel
theorem dX11_checkedSpot_37 : decode cX11_checkedSpot 37 = .ok (.invokespecial 201, 3) := by decide +kernel
theorem dX11_checkedSpot_40 : decode cX11_checkedSpot 40 = .ok (.athrow, 1) := by decide +kernel
theorem dX11_checkedSpot_41 : decode cX11_checkedSpot 41 = .ok (.iload_n 1, 1) := by decide +kernel
theorem dX11_checkedSpot_42 : decode cX11_checkedSpot 42 = .ok (.iload_n 2, 1) := by decide +kernel
theorem dX11_checkedSpot_43 : decode cX11_checkedSpot 43 = .ok (.invokestatic 16, 3) := by decide +kernel
theorem dX11_checkedSpot_46 : decode cX11_checkedSpot 46 = .ok (.ireturn, 1) := by decide +kernel
theorem dX11_checkClue_0 : decode cX11_checkClue 0 = .ok (.iload_n 1, 1) := by decide +kernel
theorem dX11_checkClue_1 : decode cX11_checkClue 1 = .ok (.ifCond .lt 17, 3) := by decide +kernel
theorem dX11_checkClue_4 : decode cX11_checkClue 4 = .ok (.iload_n 1, 1) := by decide +kernel
theorem dX11_checkClue_5 : decode cX11_checkClue 5 = .ok (.aload_n 0, 1) := by decide +kernel
theorem dX11_checkClue_6 : decode cX11_checkClue 6 = .ok (.getfield 34, 3) := by decide +kernel
theorem dX11_checkClue_9 : decode cX11_checkClue 9 = .ok (.getfield 103, 3) := by decide +kernel
theorem dX11_checkClue_12 : decode cX11_checkClue 12 = .ok (.getfield 107, 3) := by decide +kernel
theorem dX11_checkClue_15 : decode cX11_checkClue 15 = .ok (.if_icmp .lt 14, 3) := by decide +kernel
theorem dX11_checkClue_18 : decode cX11_checkClue 18 = .ok (.new 197, 3) := by decide +kernel
theorem dX11_checkClue_21 : decode cX11_checkClue 21 = .ok (.dup, 1) := by decide +kernel
theorem dX11_checkClue_22 : decode cX11_checkClue 22 = .ok (.ldc_w 276, 3) := by decide +kernel
theorem dX11_checkClue_25 : decode cX11_checkClue 25 = .ok (.invokespecial 201, 3) := by decide +kernel
theorem dX11_checkClue_28 : decode cX11_checkClue 28 = .ok (.athrow, 1) := by decide +kernel
theorem dX11_checkClue_29 : decode cX11_checkClue 29 = .ok (.return_, 1) := by decide +kernel
theorem dX11_spotAt_0 : decode cX11_spotAt 0 = .ok (.iload_n 1, 1) := by decide +kernel
theorem dX11_spotAt_1 : decode cX11_spotAt 1 = .ok (.iconst 1, 1) := by decide +kernel
theorem dX11_spotAt_2 : decode cX11_spotAt 2 = .ok (.iadd, 1) := by decide +kernel
theorem dX11_spotAt_3 : decode cX11_spotAt 3 = .ok (.bipush 32, 2) := by decide +kernel
theorem dX11_spotAt_5 : decode cX11_spotAt 5 = .ok (.imul, 1) := by decide +kernel
theorem dX11_spotAt_6 : decode cX11_spotAt 6 = .ok (.iload_n 0, 1) := by decide +kernel
theorem dX11_spotAt_7 : decode cX11_spotAt 7 = .ok (.iadd, 1) := by decide +kernel
theorem dX11_spotAt_8 : decode cX11_spotAt 8 = .ok (.iconst 1, 1) := by decide +kernel
theorem dX11_spotAt_9 : decode cX11_spotAt 9 = .ok (.iadd, 1) := by decide +kernel
theorem dX11_spotAt_10 : decode cX11_spotAt 10 = .ok (.ireturn, 1) := by decide +kernel
theorem dX11_columnOf_0 : decode cX11_columnOf 0 = .ok (.iload_n 0, 1) := by decide +kernel
theorem dX11_columnOf_1 : decode cX11_columnOf 1 = .ok (.bipush 31, 2) := by decide +kernel
theorem dX11_columnOf_3 : decode cX11_columnOf 3 = .ok (.iand, 1) := by decide +kernel
theorem dX11_columnOf_4 : decode cX11_columnOf 4 = .ok (.ireturn, 1) := by decide +kernel
theorem dX11_rowOf_0 : decode cX11_rowOf 0 = .ok (.iload_n 0, 1) := by decide +kernel
theorem dX11_rowOf_1 : decode cX11_rowOf 1 = .ok (.iconst 5, 1) := by decide +kernel
theorem dX11_rowOf_2 : decode cX11_rowOf 2 = .ok (.ishr, 1) := by decide +kernel
theorem dX11_rowOf_3 : decode cX11_rowOf 3 = .ok (.ireturn, 1) := by decide +kernel
theorem dX11_neighbour_0 : decode cX11_neighbour 0 = .ok (.iload_n 1, 1) := by decide +kernel
theorem dX11_neighbour_1 : decode cX11_neighbour 1 = .ok (.bipush 7, 2) := by decide +kernel
theorem dX11_neighbour_3 : decode cX11_neighbour 3 = .ok (.iand, 1) := by decide +kernel
theorem dX11_neighbour_4 : decode cX11_neighbour 4 = .ok (.istore_n 2, 1) := by decide +kernel
theorem dX11_neighbour_5 : decode cX11_neighbour 5 = .ok (.iload_n 2, 1) := by decide +kernel
theorem dX11_neighbour_6 : decode cX11_neighbour 6 = .ok (.getstatic 278, 3) := by decide +kernel
theorem dX11_neighbour_9 : decode cX11_neighbour 9 = .ok (.arraylength, 1) := by decide +kernel
theorem dX11_neighbour_10 : decode cX11_neighbour 10 = .ok (.if_icmp .ge 13, 3) := by decide +kernel
theorem dX11_neighbour_13 : decode cX11_neighbour 13 = .ok (.iload_n 0, 1) := by decide +kernel
theorem dX11_neighbour_14 : decode cX11_neighbour 14 = .ok (.getstatic 278, 3) := by decide +kernel
theorem dX11_neighbour_17 : decode cX11_neighbour 17 = .ok (.iload_n 2, 1) := by decide +kernel
theorem dX11_neighbour_18 : decode cX11_neighbour 18 = .ok (.iaload, 1) := by decide +kernel
theorem dX11_neighbour_19 : decode cX11_neighbour 19 = .ok (.iadd, 1) := by decide +kernel
theorem dX11_neighbour_20 : decode cX11_neighbour 20 = .ok (.goto 4, 3) := by decide +kernel
theorem dX11_neighbour_23 : decode cX11_neighbour 23 = .ok (.iconst 0, 1) := by decide +kernel
theorem dX11_neighbour_24 : decode cX11_neighbour 24 = .ok (.ireturn, 1) := by decide +kernel
theorem dX11_isBetween_0 : decode cX11_isBetween 0 = .ok (.iload_n 2, 1) := by decide +kernel
theorem dX11_isBetween_1 : decode cX11_isBetween 1 = .ok (.invokestatic 282, 3) := by decide +kernel
theorem dX11_isBetween_4 : decode cX11_isBetween 4 = .ok (.iload_n 0, 1) := by decide +kernel
theorem dX11_isBetween_5 : decode cX11_isBetween 5 = .ok (.invokestatic 282, 3) := by decide +kernel
theorem dX11_isBetween_8 : decode cX11_isBetween 8 = .ok (.if_icmp .lt 40, 3) := by decide +kernel
theorem dX11_isBetween_11 : decode cX11_isBetween 11 = .ok (.iload_n 2, 1) := by decide +kernel
theorem dX11_isBetween_12 : decode cX11_isBetween 12 = .ok (.invokestatic 282, 3) := by decide +kernel
theorem dX11_isBetween_15 : decode cX11_isBetween 15 = .ok (.iload_n 1, 1) := by decide +kernel
theorem dX11_isBetween_16 : decode cX11_isBetween 16 = .ok (.invokestatic 282, 3) := by decide +kernel
theorem dX11_isBetween_19 : decode cX11_isBetween 19 = .ok (.if_icmp .gt 29, 3) := by decide +kernel
theorem dX11_isBetween_22 : decode cX11_isBetween 22 = .ok (.iload_n 2, 1) := by decide +kernel
theorem dX11_isBetween_23 : decode cX11_isBetween 23 = .ok (.invokestatic 285, 3) := by decide +kernel
theorem dX11_isBetween_26 : decode cX11_isBetween 26 = .ok (.iload_n 0, 1) := by decide +kernel
theorem dX11_isBetween_27 : decode cX11_isBetween 27 = .ok (.invokestatic 285, 3) := by decide +kernel
theorem dX11_isBetween_30 : decode cX11_isBetween 30 = .ok (.if_icmp .lt 18, 3) := by decide +kernel
theorem dX11_isBetween_33 : decode cX11_isBetween 33 = .ok (.iload_n 2, 1) := by decide +kernel
theorem dX11_isBetween_34 : decode cX11_isBetween 34 = .ok (.invokestatic 285, 3) := by decide +kernel
theorem dX11_isBetween_37 : decode cX11_isBetween 37 = .ok (.iload_n 1, 1) := by decide +kernel
theorem dX11_isBetween_38 : decode cX11_isBetween 38 = .ok (.invokestatic 285, 3) := by decide +kernel
theorem dX11_isBetween_41 : decode cX11_isBetween 41 = .ok (.if_icmp .gt 7, 3) := by decide +kernel
theorem dX11_isBetween_44 : decode cX11_isBetween 44 = .ok (.iconst 1, 1) := by decide +kernel
theorem dX11_isBetween_45 : decode cX11_isBetween 45 = .ok (.goto 4, 3) := by decide +kernel
theorem dX11_isBetween_48 : decode cX11_isBetween 48 = .ok (.iconst 0, 1) := by decide +kernel
theorem dX11_isBetween_49 : decode cX11_isBetween 49 = .ok (.ireturn, 1) := by decide +kernel
theorem dX12_init_0 : decode cX12_init 0 = .ok (.aload_n 0, 1) := by decide +kernel
theorem dX12_init_1 : decode cX12_init 1 = .ok (.invokespecial 1, 3) := by decide +kernel
theorem dX12_init_4 : decode cX12_init 4 = .ok (.aload_n 0, 1) := by decide +kernel
theorem dX12_init_5 : decode cX12_init 5 = .ok (.iconst 0, 1) := by decide +kernel
theorem dX12_init_6 : decode cX12_init 6 = .ok (.newarray .int, 2) := by decide +kernel
theorem dX12_init_8 : decode cX12_init 8 = .ok (.putfield 7, 3) := by decide +kernel
theorem dX12_init_11 : decode cX12_init 11 = .ok (.aload_n 0, 1) := by decide +kernel
theorem dX12_init_12 : decode cX12_init 12 = .ok (.iconst 0, 1) := by decide +kernel
theorem dX12_init_13 : decode cX12_init 13 = .ok (.anewarray 13, 3) := by decide +kernel
theorem dX12_init_16 : decode cX12_init 16 = .ok (.putfield 15, 3) := by decide +kernel
theorem dX12_init_19 : decode cX12_init 19 = .ok (.aload_n 0, 1) := by decide +kernel
theorem dX12_init_20 : decode cX12_init 20 = .ok (.iconst 1, 1) := by decide +kernel
theorem dX12_init_21 : decode cX12_init 21 = .ok (.putfield 19, 3) := by decide +kernel
theorem dX12_init_24 : decode cX12_init 24 = .ok (.return_, 1) := by decide +kernel
theorem dX13_init_0 : decode cX13_init 0 = .ok (.aload_n 0, 1) := by decide +kernel
theorem dX13_init_1 : decode cX13_init 1 = .ok (.invokespecial 1, 3) := by decide +kernel
theorem dX13_init_4 : decode cX13_init 4 = .ok (.aload_n 0, 1) := by decide +kernel
theorem dX13_init_5 : decode cX13_init 5 = .ok (.iconst 1, 1) := by decide +kernel
theorem dX13_init_6 : decode cX13_init 6 = .ok (.putfield 7, 3) := by decide +kernel
theorem dX13_init_9 : decode cX13_init 9 = .ok (.aload_n 0, 1) := by decide +kernel
theorem dX13_init_10 : decode cX13_init 10 = .ok (.iconst 1, 1) := by decide +kernel
theorem dX13_init_11 : decode cX13_init 11 = .ok (.putfield 13, 3) := by decide +kernel
theorem dX13_init_14 : decode cX13_init 14 = .ok (.aload_n 0, 1) := by decide +kernel
theorem dX13_init_15 : decode cX13_init 15 = .ok (.iconst 1, 1) := by decide +kernel
theorem dX13_init_16 : decode cX13_init 16 = .ok (.newarray .boolean, 2) := by decide +kernel
theorem dX13_init_18 : decode cX13_init 18 = .ok (.putfield 16, 3) := by decide +kernel
theorem dX13_init_21 : decode cX13_init 21 = .ok (.aload_n 0, 1) := by decide +kernel
theorem dX13_init_22 : decode cX13_init 22 = .ok (.iconst 1, 1) := by decide +kernel
theorem dX13_init_23 : decode cX13_init 23 = .ok (.newarray .boolean, 2) := by decide +kernel
theorem dX13_init_25 : decode cX13_init 25 = .ok (.putfield 20, 3) := by decide +kernel
theorem dX13_init_28 : decode cX13_init 28 = .ok (.aload_n 0, 1) := by decide +kernel
theorem dX13_init_29 : decode cX13_init 29 = .ok (.bipush 8, 2) := by decide +kernel
theorem dX13_init_31 : decode cX13_init 31 = .ok (.newarray .int, 2) := by decide +kernel
theorem dX13_init_33 : decode cX13_init 33 = .ok (.dup, 1) := by decide +kernel
theorem dX13_init_34 : decode cX13_init 34 = .ok (.iconst 0, 1) := by decide +kernel
theorem dX13_init_35 : decode cX13_init 35 = .ok (.iconst (-1), 1) := by decide +kernel
theorem dX13_init_36 : decode cX13_init 36 = .ok (.iastore, 1) := by decide +kernel
theorem dX13_init_37 : decode cX13_init 37 = .ok (.dup, 1) := by decide +kernel
theorem dX13_init_38 : decode cX13_init 38 = .ok (.iconst 1, 1) := by decide +kernel
theorem dX13_init_39 : decode cX13_init 39 = .ok (.iconst (-1), 1) := by decide +kernel
theorem dX13_init_40 : decode cX13_init 40 = .ok (.iastore, 1) := by decide +kernel
theorem dX13_init_41 : decode cX13_init 41 = .ok (.dup, 1) := by decide +kernel
theorem dX13_init_42 : decode cX13_init 42 = .ok (.iconst 2, 1) := by decide +kernel
theorem dX13_init_43 : decode cX13_init 43 = .ok (.iconst (-1), 1) := by decide +kernel
theorem dX13_init_44 : decode cX13_init 44 = .ok (.iastore, 1) := by decide +kernel
theorem dX13_init_45 : decode cX13_init 45 = .ok (.dup, 1) := by decide +kernel
theorem dX13_init_46 : decode cX13_init 46 = .ok (.iconst 3, 1) := by decide +kernel
theorem dX13_init_47 : decode cX13_init 47 = .ok (.iconst (-1), 1) := by decide +kernel
theorem dX13_init_48 : decode cX13_init 48 = .ok (.iastore, 1) := by decide +kernel
theorem dX13_init_49 : decode cX13_init 49 = .ok (.dup, 1) := by decide +kernel
theorem dX13_init_50 : decode cX13_init 50 = .ok (.iconst 4, 1) := by decide +kernel
theorem dX13_init_51 : decode cX13_init 51 = .ok (.iconst (-1), 1) := by decide +kernel
theorem dX13_init_52 : decode cX13_init 52 = .ok (.iastore, 1) := by decide +kernel
theorem dX13_init_53 : decode cX13_init 53 = .ok (.dup, 1) := by decide +kernel
theorem dX13_init_54 : decode cX13_init 54 = .ok (.iconst 5, 1) := by decide +kernel
theorem dX13_init_55 : decode cX13_init 55 = .ok (.iconst (-1), 1) := by decide +kernel
theorem dX13_init_56 : decode cX13_init 56 = .ok (.iastore, 1) := by decide +kernel
theorem dX13_init_57 : decode cX13_init 57 = .ok (.dup, 1) := by decide +kernel
theorem dX13_init_58 : decode cX13_init 58 = .ok (.bipush 6, 2) := by decide +kernel
theorem dX13_init_60 : decode cX13_init 60 = .ok (.iconst (-1), 1) := by decide +kernel
theorem dX13_init_61 : decode cX13_init 61 = .ok (.iastore, 1) := by decide +kernel
theorem dX13_init_62 : decode cX13_init 62 = .ok (.dup, 1) := by decide +kernel
theorem dX13_init_63 : decode cX13_init 63 = .ok (.bipush 7, 2) := by decide +kernel
theorem dX13_init_65 : decode cX13_init 65 = .ok (.iconst (-1), 1) := by decide +kernel
theorem dX13_init_66 : decode cX13_init 66 = .ok (.iastore, 1) := by decide +kernel
theorem dX13_init_67 : decode cX13_init 67 = .ok (.putfield 23, 3) := by decide +kernel
theorem dX13_init_70 : decode cX13_init 70 = .ok (.aload_n 0, 1) := by decide +kernel
theorem dX13_init_71 : decode cX13_init 71 = .ok (.iconst 0, 1) := by decide +kernel
theorem dX13_init_72 : decode cX13_init 72 = .ok (.anewarray 27, 3) := by decide +kernel
theorem dX13_init_75 : decode cX13_init 75 = .ok (.putfield 28, 3) := by decide +kernel
theorem dX13_init_78 : decode cX13_init 78 = .ok (.aload_n 0, 1) := by decide +kernel
theorem dX13_init_79 : decode cX13_init 79 = .ok (.iconst 0, 1) := by decide +kernel
theorem dX13_init_80 : decode cX13_init 80 = .ok (.anewarray 32, 3) := by decide +kernel
theorem dX13_init_83 : decode cX13_init 83 = .ok (.putfield 34, 3) := by decide +kernel
theorem dX13_init_86 : decode cX13_init 86 = .ok (.aload_n 0, 1) := by decide +kernel
theorem dX13_init_87 : decode cX13_init 87 = .ok (.bipush 9, 2) := by decide +kernel
theorem dX13_init_89 : decode cX13_init 89 = .ok (.newarray .int, 2) := by decide +kernel
theorem dX13_init_91 : decode cX13_init 91 = .ok (.putfield 38, 3) := by decide +kernel
theorem dX13_init_94 : decode cX13_init 94 = .ok (.return_, 1) := by decide +kernel
theorem dX13_copy_0 : decode cX13_copy 0 = .ok (.new 8, 3) := by decide +kernel
theorem dX13_copy_3 : decode cX13_copy 3 = .ok (.dup, 1) := by decide +kernel
theorem dX13_copy_4 : decode cX13_copy 4 = .ok (.invokespecial 41, 3) := by decide +kernel
theorem dX13_copy_7 : decode cX13_copy 7 = .ok (.astore_n 1, 1) := by decide +kernel
theorem dX13_copy_8 : decode cX13_copy 8 = .ok (.aload_n 1, 1) := by decide +kernel
theorem dX13_copy_9 : decode cX13_copy 9 = .ok (.aload_n 0, 1) := by decide +kernel
theorem dX13_copy_10 : decode cX13_copy 10 = .ok (.getfield 7, 3) := by decide +kernel
theorem dX13_copy_13 : decode cX13_copy 13 = .ok (.putfield 7, 3) := by decide +kernel
theorem dX13_copy_16 : decode cX13_copy 16 = .ok (.aload_n 1, 1) := by decide +kernel
theorem dX13_copy_17 : decode cX13_copy 17 = .ok (.aload_n 0, 1) := by decide +kernel
theorem dX13_copy_18 : decode cX13_copy 18 = .ok (.getfield 13, 3) := by decide +kernel
theorem dX13_copy_21 : decode cX13_copy 21 = .ok (.putfield 13, 3) := by decide +kernel
theorem dX13_copy_24 : decode cX13_copy 24 = .ok (.aload_n 1, 1) := by decide +kernel
theorem dX13_copy_25 : decode cX13_copy 25 = .ok (.aload_n 0, 1) := by decide +kernel
theorem dX13_copy_26 : decode cX13_copy 26 = .ok (.getfield 16, 3) := by decide +kernel
theorem dX13_copy_29 : decode cX13_copy 29 = .ok (.putfield 16, 3) := by decide +kernel
theorem dX13_copy_32 : decode cX13_copy 32 = .ok (.aload_n 1, 1) := by decide +kernel
theorem dX13_copy_33 : decode cX13_copy 33 = .ok (.aload_n 0, 1) := by decide +kernel
theorem dX13_copy_34 : decode cX13_copy 34 = .ok (.getfield 20, 3) := by decide +kernel
theorem dX13_copy_37 : decode cX13_copy 37 = .ok (.invokevirtual 42, 3) := by decide +kernel
theorem dX13_copy_40 : decode cX13_copy 40 = .ok (.checkcast 43, 3) := by decide +kernel
theorem dX13_copy_43 : decode cX13_copy 43 = .ok (.putfield 20, 3) := by decide +kernel
theorem dX13_copy_46 : decode cX13_copy 46 = .ok (.aload_n 1, 1) := by decide +kernel
theorem dX13_copy_47 : decode cX13_copy 47 = .ok (.aload_n 0, 1) := by decide +kernel
theorem dX13_copy_48 : decode cX13_copy 48 = .ok (.getfield 23, 3) := by decide +kernel
theorem dX13_copy_51 : decode cX13_copy 51 = .ok (.putfield 23, 3) := by decide +kernel
theorem dX13_copy_54 : decode cX13_copy 54 = .ok (.aload_n 1, 1) := by decide +kernel
theorem dX13_copy_55 : decode cX13_copy 55 = .ok (.aload_n 0, 1) := by decide +kernel
theorem dX13_copy_56 : decode cX13_copy 56 = .ok (.getfield 28, 3) := by decide +kernel
theorem dX13_copy_59 : decode cX13_copy 59 = .ok (.arraylength, 1) := by decide +kernel
theorem dX13_copy_60 : decode cX13_copy 60 = .ok (.anewarray 27, 3) := by decide +kernel
theorem dX13_copy_63 : decode cX13_copy 63 = .ok (.putfield 28, 3) := by decide +kernel
theorem dX13_copy_66 : decode cX13_copy 66 = .ok (.iconst 0, 1) := by decide +kernel
theorem dX13_copy_67 : decode cX13_copy 67 = .ok (.istore_n 2, 1) := by decide +kernel
theorem dX13_copy_68 : decode cX13_copy 68 = .ok (.iload_n 2, 1) := by decide +kernel
theorem dX13_copy_69 : decode cX13_copy 69 = .ok (.aload_n 0, 1) := by decide +kernel
theorem dX13_copy_70 : decode cX13_copy 70 = .ok (.getfield 28, 3) := by decide +kernel
theorem dX13_copy_73 : decode cX13_copy 73 = .ok (.arraylength, 1) := by decide +kernel
theorem dX13_copy_74 : decode cX13_copy 74 = .ok (.if_icmp .ge 27, 3) := by decide +kernel
theorem dX13_copy_77 : decode cX13_copy 77 = .ok (.aload_n 1, 1) := by decide +kernel
theorem dX13_copy_78 : decode cX13_copy 78 = .ok (.getfield 28, 3) := by decide +kernel
theorem dX13_copy_81 : decode cX13_copy 81 = .ok (.iload_n 2, 1) := by decide +kernel
theorem dX13_copy_82 : decode cX13_copy 82 = .ok (.aload_n 0, 1) := by decide +kernel
theorem dX13_copy_83 : decode cX13_copy 83 = .ok (.getfield 28, 3) := by decide +kernel
theorem dX13_copy_86 : decode cX13_copy 86 = .ok (.iload_n 2, 1) := by decide +kernel
theorem dX13_copy_87 : decode cX13_copy 87 = .ok (.aaload, 1) := by decide +kernel
theorem dX13_copy_88 : decode cX13_copy 88 = .ok (.invokevirtual 47, 3) := by decide +kernel
theorem dX13_copy_91 : decode cX13_copy 91 = .ok (.checkcast 27, 3) := by decide +kernel
theorem dX13_copy_94 : decode cX13_copy 94 = .ok (.aastore, 1) := by decide +kernel
theorem dX13_copy_95 : decode cX13_copy 95 = .ok (.iinc 2 1, 3) := by decide +kernel
theorem dX13_copy_98 : decode cX13_copy 98 = .ok (.goto (-30), 3) := by decide +kernel
theorem dX13_copy_101 : decode cX13_copy 101 = .ok (.aload_n 1, 1) := by decide +kernel
theorem dX13_copy_102 : decode cX13_copy 102 = .ok (.aload_n 0, 1) := by decide +kernel
theorem dX13_copy_103 : decode cX13_copy 103 = .ok (.getfield 34, 3) := by decide +kernel
theorem dX13_copy_106 : decode cX13_copy 106 = .ok (.arraylength, 1) := by decide +kernel
theorem dX13_copy_107 : decode cX13_copy 107 = .ok (.anewarray 32, 3) := by decide +kernel
theorem dX13_copy_110 : decode cX13_copy 110 = .ok (.putfield 34, 3) := by decide +kernel
theorem dX13_copy_113 : decode cX13_copy 113 = .ok (.iconst 0, 1) := by decide +kernel
theorem dX13_copy_114 : decode cX13_copy 114 = .ok (.istore_n 2, 1) := by decide +kernel
theorem dX13_copy_115 : decode cX13_copy 115 = .ok (.iload_n 2, 1) := by decide +kernel
theorem dX13_copy_116 : decode cX13_copy 116 = .ok (.aload_n 0, 1) := by decide +kernel
theorem dX13_copy_117 : decode cX13_copy 117 = .ok (.getfield 34, 3) := by decide +kernel
theorem dX13_copy_120 : decode cX13_copy 120 = .ok (.arraylength, 1) := by decide +kernel
theorem dX13_copy_121 : decode cX13_copy 121 = .ok (.if_icmp .ge 63, 3) := by decide +kernel
theorem dX13_copy_124 : decode cX13_copy 124 = .ok (.new 32, 3) := by decide +kernel
theorem dX13_copy_127 : decode cX13_copy 127 = .ok (.dup, 1) := by decide +kernel
theorem dX13_copy_128 : decode cX13_copy 128 = .ok (.invokespecial 48, 3) := by decide +kernel
theorem dX13_copy_131 : decode cX13_copy 131 = .ok (.astore_n 3, 1) := by decide +kernel
theorem dX13_copy_132 : decode cX13_copy 132 = .ok (.aload_n 3, 1) := by decide +kernel
theorem dX13_copy_133 : decode cX13_copy 133 = .ok (.aload_n 0, 1) := by decide +kernel
theorem dX13_copy_134 : decode cX13_copy 134 = .ok (.getfield 34, 3) := by decide +kernel
theorem dX13_copy_137 : decode cX13_copy 137 = .ok (.iload_n 2, 1) := by decide +kernel
theorem dX13_copy_138 : decode cX13_copy 138 = .ok (.aaload, 1) := by decide +kernel
theorem dX13_copy_139 : decode cX13_copy 139 = .ok (.getfield 49, 3) := by decide +kernel
theorem dX13_copy_142 : decode cX13_copy 142 = .ok (.putfield 49, 3) := by decide +kernel
theorem dX13_copy_145 : decode cX13_copy 145 = .ok (.aload_n 3, 1) := by decide +kernel

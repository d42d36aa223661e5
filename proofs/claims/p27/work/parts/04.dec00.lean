theorem dX0_init_0 : decode cX0_init 0 = .ok (.aload_n 0, 1) := by decide +kernel
theorem dX0_init_1 : decode cX0_init 1 = .ok (.invokespecial 3, 3) := by decide +kernel
theorem dX0_init_4 : decode cX0_init 4 = .ok (.aload_n 0, 1) := by decide +kernel
theorem dX0_init_5 : decode cX0_init 5 = .ok (.bipush 22, 2) := by decide +kernel
theorem dX0_init_7 : decode cX0_init 7 = .ok (.newarray .int, 2) := by decide +kernel
theorem dX0_init_9 : decode cX0_init 9 = .ok (.putfield 9, 3) := by decide +kernel
theorem dX0_init_12 : decode cX0_init 12 = .ok (.return_, 1) := by decide +kernel
theorem dX0_has_0 : decode cX0_has 0 = .ok (.iload_n 1, 1) := by decide +kernel
theorem dX0_has_1 : decode cX0_has 1 = .ok (.iconst 5, 1) := by decide +kernel
theorem dX0_has_2 : decode cX0_has 2 = .ok (.ishr, 1) := by decide +kernel
theorem dX0_has_3 : decode cX0_has 3 = .ok (.istore_n 2, 1) := by decide +kernel
theorem dX0_has_4 : decode cX0_has 4 = .ok (.iload_n 2, 1) := by decide +kernel
theorem dX0_has_5 : decode cX0_has 5 = .ok (.ifCond .lt 33, 3) := by decide +kernel
theorem dX0_has_8 : decode cX0_has 8 = .ok (.iload_n 2, 1) := by decide +kernel
theorem dX0_has_9 : decode cX0_has 9 = .ok (.aload_n 0, 1) := by decide +kernel
theorem dX0_has_10 : decode cX0_has 10 = .ok (.getfield 9, 3) := by decide +kernel
theorem dX0_has_13 : decode cX0_has 13 = .ok (.arraylength, 1) := by decide +kernel
theorem dX0_has_14 : decode cX0_has 14 = .ok (.if_icmp .ge 24, 3) := by decide +kernel
theorem dX0_has_17 : decode cX0_has 17 = .ok (.aload_n 0, 1) := by decide +kernel
theorem dX0_has_18 : decode cX0_has 18 = .ok (.getfield 9, 3) := by decide +kernel
theorem dX0_has_21 : decode cX0_has 21 = .ok (.iload_n 2, 1) := by decide +kernel
theorem dX0_has_22 : decode cX0_has 22 = .ok (.iaload, 1) := by decide +kernel
theorem dX0_has_23 : decode cX0_has 23 = .ok (.iload_n 1, 1) := by decide +kernel
theorem dX0_has_24 : decode cX0_has 24 = .ok (.bipush 31, 2) := by decide +kernel
theorem dX0_has_26 : decode cX0_has 26 = .ok (.iand, 1) := by decide +kernel
theorem dX0_has_27 : decode cX0_has 27 = .ok (.iushr, 1) := by decide +kernel
theorem dX0_has_28 : decode cX0_has 28 = .ok (.iconst 1, 1) := by decide +kernel
theorem dX0_has_29 : decode cX0_has 29 = .ok (.iand, 1) := by decide +kernel
theorem dX0_has_30 : decode cX0_has 30 = .ok (.iconst 1, 1) := by decide +kernel
theorem dX0_has_31 : decode cX0_has 31 = .ok (.if_icmp .ne 7, 3) := by decide +kernel
theorem dX0_has_34 : decode cX0_has 34 = .ok (.iconst 1, 1) := by decide +kernel
theorem dX0_has_35 : decode cX0_has 35 = .ok (.goto 4, 3) := by decide +kernel
theorem dX0_has_38 : decode cX0_has 38 = .ok (.iconst 0, 1) := by decide +kernel
theorem dX0_has_39 : decode cX0_has 39 = .ok (.ireturn, 1) := by decide +kernel
theorem dX0_add_0 : decode cX0_add 0 = .ok (.iload_n 1, 1) := by decide +kernel
theorem dX0_add_1 : decode cX0_add 1 = .ok (.iconst 5, 1) := by decide +kernel
theorem dX0_add_2 : decode cX0_add 2 = .ok (.ishr, 1) := by decide +kernel
theorem dX0_add_3 : decode cX0_add 3 = .ok (.istore_n 2, 1) := by decide +kernel
theorem dX0_add_4 : decode cX0_add 4 = .ok (.iload_n 2, 1) := by decide +kernel
theorem dX0_add_5 : decode cX0_add 5 = .ok (.ifCond .lt 27, 3) := by decide +kernel
theorem dX0_add_8 : decode cX0_add 8 = .ok (.iload_n 2, 1) := by decide +kernel
theorem dX0_add_9 : decode cX0_add 9 = .ok (.aload_n 0, 1) := by decide +kernel
theorem dX0_add_10 : decode cX0_add 10 = .ok (.getfield 9, 3) := by decide +kernel
theorem dX0_add_13 : decode cX0_add 13 = .ok (.arraylength, 1) := by decide +kernel
theorem dX0_add_14 : decode cX0_add 14 = .ok (.if_icmp .ge 18, 3) := by decide +kernel
theorem dX0_add_17 : decode cX0_add 17 = .ok (.aload_n 0, 1) := by decide +kernel
theorem dX0_add_18 : decode cX0_add 18 = .ok (.getfield 9, 3) := by decide +kernel
theorem dX0_add_21 : decode cX0_add 21 = .ok (.iload_n 2, 1) := by decide +kernel
theorem dX0_add_22 : decode cX0_add 22 = .ok (.dup2, 1) := by decide +kernel
theorem dX0_add_23 : decode cX0_add 23 = .ok (.iaload, 1) := by decide +kernel
theorem dX0_add_24 : decode cX0_add 24 = .ok (.iconst 1, 1) := by decide +kernel
theorem dX0_add_25 : decode cX0_add 25 = .ok (.iload_n 1, 1) := by decide +kernel
theorem dX0_add_26 : decode cX0_add 26 = .ok (.bipush 31, 2) := by decide +kernel
theorem dX0_add_28 : decode cX0_add 28 = .ok (.iand, 1) := by decide +kernel
theorem dX0_add_29 : decode cX0_add 29 = .ok (.ishl, 1) := by decide +kernel
theorem dX0_add_30 : decode cX0_add 30 = .ok (.ior, 1) := by decide +kernel
theorem dX0_add_31 : decode cX0_add 31 = .ok (.iastore, 1) := by decide +kernel
theorem dX0_add_32 : decode cX0_add 32 = .ok (.return_, 1) := by decide +kernel
theorem dX0_remove_0 : decode cX0_remove 0 = .ok (.iload_n 1, 1) := by decide +kernel
theorem dX0_remove_1 : decode cX0_remove 1 = .ok (.iconst 5, 1) := by decide +kernel
theorem dX0_remove_2 : decode cX0_remove 2 = .ok (.ishr, 1) := by decide +kernel
theorem dX0_remove_3 : decode cX0_remove 3 = .ok (.istore_n 2, 1) := by decide +kernel
theorem dX0_remove_4 : decode cX0_remove 4 = .ok (.iload_n 2, 1) := by decide +kernel
theorem dX0_remove_5 : decode cX0_remove 5 = .ok (.ifCond .lt 29, 3) := by decide +kernel
theorem dX0_remove_8 : decode cX0_remove 8 = .ok (.iload_n 2, 1) := by decide +kernel
theorem dX0_remove_9 : decode cX0_remove 9 = .ok (.aload_n 0, 1) := by decide +kernel
theorem dX0_remove_10 : decode cX0_remove 10 = .ok (.getfield 9, 3) := by decide +kernel
theorem dX0_remove_13 : decode cX0_remove 13 = .ok (.arraylength, 1) := by decide +kernel
theorem dX0_remove_14 : decode cX0_remove 14 = .ok (.if_icmp .ge 20, 3) := by decide +kernel
theorem dX0_remove_17 : decode cX0_remove 17 = .ok (.aload_n 0, 1) := by decide +kernel
theorem dX0_remove_18 : decode cX0_remove 18 = .ok (.getfield 9, 3) := by decide +kernel
theorem dX0_remove_21 : decode cX0_remove 21 = .ok (.iload_n 2, 1) := by decide +kernel
theorem dX0_remove_22 : decode cX0_remove 22 = .ok (.dup2, 1) := by decide +kernel
theorem dX0_remove_23 : decode cX0_remove 23 = .ok (.iaload, 1) := by decide +kernel
theorem dX0_remove_24 : decode cX0_remove 24 = .ok (.iconst 1, 1) := by decide +kernel
theorem dX0_remove_25 : decode cX0_remove 25 = .ok (.iload_n 1, 1) := by decide +kernel
theorem dX0_remove_26 : decode cX0_remove 26 = .ok (.bipush 31, 2) := by decide +kernel
theorem dX0_remove_28 : decode cX0_remove 28 = .ok (.iand, 1) := by decide +kernel
theorem dX0_remove_29 : decode cX0_remove 29 = .ok (.ishl, 1) := by decide +kernel
theorem dX0_remove_30 : decode cX0_remove 30 = .ok (.iconst (-1), 1) := by decide +kernel
theorem dX0_remove_31 : decode cX0_remove 31 = .ok (.ixor, 1) := by decide +kernel
theorem dX0_remove_32 : decode cX0_remove 32 = .ok (.iand, 1) := by decide +kernel
theorem dX0_remove_33 : decode cX0_remove 33 = .ok (.iastore, 1) := by decide +kernel
theorem dX0_remove_34 : decode cX0_remove 34 = .ok (.return_, 1) := by decide +kernel
theorem dX0_clear_0 : decode cX0_clear 0 = .ok (.aload_n 0, 1) := by decide +kernel
theorem dX0_clear_1 : decode cX0_clear 1 = .ok (.getfield 9, 3) := by decide +kernel
theorem dX0_clear_4 : decode cX0_clear 4 = .ok (.iconst 0, 1) := by decide +kernel
theorem dX0_clear_5 : decode cX0_clear 5 = .ok (.invokestatic 15, 3) := by decide +kernel
theorem dX0_clear_8 : decode cX0_clear 8 = .ok (.return_, 1) := by decide +kernel
theorem dX0_count_0 : decode cX0_count 0 = .ok (.iconst 0, 1) := by decide +kernel
theorem dX0_count_1 : decode cX0_count 1 = .ok (.istore_n 1, 1) := by decide +kernel
theorem dX0_count_2 : decode cX0_count 2 = .ok (.aload_n 0, 1) := by decide +kernel
theorem dX0_count_3 : decode cX0_count 3 = .ok (.getfield 9, 3) := by decide +kernel
theorem dX0_count_6 : decode cX0_count 6 = .ok (.astore_n 2, 1) := by decide +kernel
theorem dX0_count_7 : decode cX0_count 7 = .ok (.aload_n 2, 1) := by decide +kernel
theorem dX0_count_8 : decode cX0_count 8 = .ok (.arraylength, 1) := by decide +kernel
theorem dX0_count_9 : decode cX0_count 9 = .ok (.istore_n 3, 1) := by decide +kernel
theorem dX0_count_10 : decode cX0_count 10 = .ok (.iconst 0, 1) := by decide +kernel
theorem dX0_count_11 : decode cX0_count 11 = .ok (.istore 4, 2) := by decide +kernel
theorem dX0_count_13 : decode cX0_count 13 = .ok (.iload 4, 2) := by decide +kernel
theorem dX0_count_15 : decode cX0_count 15 = .ok (.iload_n 3, 1) := by decide +kernel
theorem dX0_count_16 : decode cX0_count 16 = .ok (.if_icmp .ge 23, 3) := by decide +kernel
theorem dX0_count_19 : decode cX0_count 19 = .ok (.aload_n 2, 1) := by decide +kernel
theorem dX0_count_20 : decode cX0_count 20 = .ok (.iload 4, 2) := by decide +kernel
theorem dX0_count_22 : decode cX0_count 22 = .ok (.iaload, 1) := by decide +kernel
theorem dX0_count_23 : decode cX0_count 23 = .ok (.istore 5, 2) := by decide +kernel
theorem dX0_count_25 : decode cX0_count 25 = .ok (.iload_n 1, 1) := by decide +kernel
theorem dX0_count_26 : decode cX0_count 26 = .ok (.iload 5, 2) := by decide +kernel
theorem dX0_count_28 : decode cX0_count 28 = .ok (.invokestatic 21, 3) := by decide +kernel
theorem dX0_count_31 : decode cX0_count 31 = .ok (.iadd, 1) := by decide +kernel
theorem dX0_count_32 : decode cX0_count 32 = .ok (.istore_n 1, 1) := by decide +kernel
theorem dX0_count_33 : decode cX0_count 33 = .ok (.iinc 4 1, 3) := by decide +kernel
theorem dX0_count_36 : decode cX0_count 36 = .ok (.goto (-23), 3) := by decide +kernel
theorem dX0_count_39 : decode cX0_count 39 = .ok (.iload_n 1, 1) := by decide +kernel
theorem dX0_count_40 : decode cX0_count 40 = .ok (.ireturn, 1) := by decide +kernel
theorem dX0_at_0 : decode cX0_at 0 = .ok (.iconst 0, 1) := by decide +kernel
theorem dX0_at_1 : decode cX0_at 1 = .ok (.istore_n 2, 1) := by decide +kernel
theorem dX0_at_2 : decode cX0_at 2 = .ok (.iconst 0, 1) := by decide +kernel
theorem dX0_at_3 : decode cX0_at 3 = .ok (.istore_n 3, 1) := by decide +kernel
theorem dX0_at_4 : decode cX0_at 4 = .ok (.iload_n 3, 1) := by decide +kernel
theorem dX0_at_5 : decode cX0_at 5 = .ok (.sipush 704, 3) := by decide +kernel
theorem dX0_at_8 : decode cX0_at 8 = .ok (.if_icmp .ge 27, 3) := by decide +kernel
theorem dX0_at_11 : decode cX0_at 11 = .ok (.aload_n 0, 1) := by decide +kernel
theorem dX0_at_12 : decode cX0_at 12 = .ok (.iload_n 3, 1) := by decide +kernel
theorem dX0_at_13 : decode cX0_at 13 = .ok (.invokevirtual 27, 3) := by decide +kernel
theorem dX0_at_16 : decode cX0_at 16 = .ok (.ifCond .eq 13, 3) := by decide +kernel
theorem dX0_at_19 : decode cX0_at 19 = .ok (.iload_n 2, 1) := by decide +kernel
theorem dX0_at_20 : decode cX0_at 20 = .ok (.iload_n 1, 1) := by decide +kernel
theorem dX0_at_21 : decode cX0_at 21 = .ok (.if_icmp .ne 5, 3) := by decide +kernel
theorem dX0_at_24 : decode cX0_at 24 = .ok (.iload_n 3, 1) := by decide +kernel
theorem dX0_at_25 : decode cX0_at 25 = .ok (.ireturn, 1) := by decide +kernel
theorem dX0_at_26 : decode cX0_at 26 = .ok (.iinc 2 1, 3) := by decide +kernel
theorem dX0_at_29 : decode cX0_at 29 = .ok (.iinc 3 1, 3) := by decide +kernel
theorem dX0_at_32 : decode cX0_at 32 = .ok (.goto (-28), 3) := by decide +kernel
theorem dX0_at_35 : decode cX0_at 35 = .ok (.iconst 0, 1) := by decide +kernel
theorem dX0_at_36 : decode cX0_at 36 = .ok (.ireturn, 1) := by decide +kernel
theorem dX0_keepOnly_0 : decode cX0_keepOnly 0 = .ok (.iconst 0, 1) := by decide +kernel
theorem dX0_keepOnly_1 : decode cX0_keepOnly 1 = .ok (.istore_n 2, 1) := by decide +kernel
theorem dX0_keepOnly_2 : decode cX0_keepOnly 2 = .ok (.iload_n 2, 1) := by decide +kernel
theorem dX0_keepOnly_3 : decode cX0_keepOnly 3 = .ok (.aload_n 0, 1) := by decide +kernel
theorem dX0_keepOnly_4 : decode cX0_keepOnly 4 = .ok (.getfield 9, 3) := by decide +kernel
theorem dX0_keepOnly_7 : decode cX0_keepOnly 7 = .ok (.arraylength, 1) := by decide +kernel
theorem dX0_keepOnly_8 : decode cX0_keepOnly 8 = .ok (.if_icmp .ge 33, 3) := by decide +kernel
theorem dX0_keepOnly_11 : decode cX0_keepOnly 11 = .ok (.iload_n 2, 1) := by decide +kernel
theorem dX0_keepOnly_12 : decode cX0_keepOnly 12 = .ok (.aload_n 1, 1) := by decide +kernel
theorem dX0_keepOnly_13 : decode cX0_keepOnly 13 = .ok (.getfield 9, 3) := by decide +kernel
theorem dX0_keepOnly_16 : decode cX0_keepOnly 16 = .ok (.arraylength, 1) := by decide +kernel
theorem dX0_keepOnly_17 : decode cX0_keepOnly 17 = .ok (.if_icmp .ge 24, 3) := by decide +kernel
theorem dX0_keepOnly_20 : decode cX0_keepOnly 20 = .ok (.aload_n 0, 1) := by decide +kernel
theorem dX0_keepOnly_21 : decode cX0_keepOnly 21 = .ok (.getfield 9, 3) := by decide +kernel
theorem dX0_keepOnly_24 : decode cX0_keepOnly 24 = .ok (.iload_n 2, 1) := by decide +kernel
theorem dX0_keepOnly_25 : decode cX0_keepOnly 25 = .ok (.dup2, 1) := by decide +kernel
theorem dX0_keepOnly_26 : decode cX0_keepOnly 26 = .ok (.iaload, 1) := by decide +kernel
theorem dX0_keepOnly_27 : decode cX0_keepOnly 27 = .ok (.aload_n 1, 1) := by decide +kernel
theorem dX0_keepOnly_28 : decode cX0_keepOnly 28 = .ok (.getfield 9, 3) := by decide +kernel
theorem dX0_keepOnly_31 : decode cX0_keepOnly 31 = .ok (.iload_n 2, 1) := by decide +kernel
theorem dX0_keepOnly_32 : decode cX0_keepOnly 32 = .ok (.iaload, 1) := by decide +kernel
theorem dX0_keepOnly_33 : decode cX0_keepOnly 33 = .ok (.iand, 1) := by decide +kernel
theorem dX0_keepOnly_34 : decode cX0_keepOnly 34 = .ok (.iastore, 1) := by decide +kernel
theorem dX0_keepOnly_35 : decode cX0_keepOnly 35 = .ok (.iinc 2 1, 3) := by decide +kernel
theorem dX0_keepOnly_38 : decode cX0_keepOnly 38 = .ok (.goto (-36), 3) := by decide +kernel
theorem dX0_keepOnly_41 : decode cX0_keepOnly 41 = .ok (.return_, 1) := by decide +kernel
theorem dX0_removeAll_0 : decode cX0_removeAll 0 = .ok (.iconst 0, 1) := by decide +kernel
theorem dX0_removeAll_1 : decode cX0_removeAll 1 = .ok (.istore_n 2, 1) := by decide +kernel
theorem dX0_removeAll_2 : decode cX0_removeAll 2 = .ok (.iload_n 2, 1) := by decide +kernel
theorem dX0_removeAll_3 : decode cX0_removeAll 3 = .ok (.aload_n 0, 1) := by decide +kernel
theorem dX0_removeAll_4 : decode cX0_removeAll 4 = .ok (.getfield 9, 3) := by decide +kernel
theorem dX0_removeAll_7 : decode cX0_removeAll 7 = .ok (.arraylength, 1) := by decide +kernel
theorem dX0_removeAll_8 : decode cX0_removeAll 8 = .ok (.if_icmp .ge 35, 3) := by decide +kernel
theorem dX0_removeAll_11 : decode cX0_removeAll 11 = .ok (.iload_n 2, 1) := by decide +kernel
theorem dX0_removeAll_12 : decode cX0_removeAll 12 = .ok (.aload_n 1, 1) := by decide +kernel
theorem dX0_removeAll_13 : decode cX0_removeAll 13 = .ok (.getfield 9, 3) := by decide +kernel
theorem dX0_removeAll_16 : decode cX0_removeAll 16 = .ok (.arraylength, 1) := by decide +kernel
theorem dX0_removeAll_17 : decode cX0_removeAll 17 = .ok (.if_icmp .ge 26, 3) := by decide +kernel
theorem dX0_removeAll_20 : decode cX0_removeAll 20 = .ok (.aload_n 0, 1) := by decide +kernel
theorem dX0_removeAll_21 : decode cX0_removeAll 21 = .ok (.getfield 9, 3) := by decide +kernel
theorem dX0_removeAll_24 : decode cX0_removeAll 24 = .ok (.iload_n 2, 1) := by decide +kernel
theorem dX0_removeAll_25 : decode cX0_removeAll 25 = .ok (.dup2, 1) := by decide +kernel
theorem dX0_removeAll_26 : decode cX0_removeAll 26 = .ok (.iaload, 1) := by decide +kernel
theorem dX0_removeAll_27 : decode cX0_removeAll 27 = .ok (.aload_n 1, 1) := by decide +kernel
theorem dX0_removeAll_28 : decode cX0_removeAll 28 = .ok (.getfield 9, 3) := by decide +kernel
theorem dX0_removeAll_31 : decode cX0_removeAll 31 = .ok (.iload_n 2, 1) := by decide +kernel
theorem dX0_removeAll_32 : decode cX0_removeAll 32 = .ok (.iaload, 1) := by decide +kernel
theorem dX0_removeAll_33 : decode cX0_removeAll 33 = .ok (.iconst (-1), 1) := by decide +kernel
theorem dX0_removeAll_34 : decode cX0_removeAll 34 = .ok (.ixor, 1) := by decide +kernel
theorem dX0_removeAll_35 : decode cX0_removeAll 35 = .ok (.iand, 1) := by decide +kernel
theorem dX0_removeAll_36 : decode cX0_removeAll 36 = .ok (.iastore, 1) := by decide +kernel
theorem dX0_removeAll_37 : decode cX0_removeAll 37 = .ok (.iinc 2 1, 3) := by decide +kernel
theorem dX0_removeAll_40 : decode cX0_removeAll 40 = .ok (.goto (-38), 3) := by decide +kernel
theorem dX0_removeAll_43 : decode cX0_removeAll 43 = .ok (.return_, 1) := by decide +kernel
theorem dX0_copyFrom_0 : decode cX0_copyFrom 0 = .ok (.aload_n 1, 1) := by decide +kernel
theorem dX0_copyFrom_1 : decode cX0_copyFrom 1 = .ok (.getfield 9, 3) := by decide +kernel
theorem dX0_copyFrom_4 : decode cX0_copyFrom 4 = .ok (.iconst 0, 1) := by decide +kernel
theorem dX0_copyFrom_5 : decode cX0_copyFrom 5 = .ok (.aload_n 0, 1) := by decide +kernel
theorem dX0_copyFrom_6 : decode cX0_copyFrom 6 = .ok (.getfield 9, 3) := by decide +kernel
theorem dX0_copyFrom_9 : decode cX0_copyFrom 9 = .ok (.iconst 0, 1) := by decide +kernel
theorem dX0_copyFrom_10 : decode cX0_copyFrom 10 = .ok (.aload_n 0, 1) := by decide +kernel
theorem dX0_copyFrom_11 : decode cX0_copyFrom 11 = .ok (.getfield 9, 3) := by decide +kernel
theorem dX0_copyFrom_14 : decode cX0_copyFrom 14 = .ok (.arraylength, 1) := by decide +kernel
theorem dX0_copyFrom_15 : decode cX0_copyFrom 15 = .ok (.aload_n 1, 1) := by decide +kernel
theorem dX0_copyFrom_16 : decode cX0_copyFrom 16 = .ok (.getfield 9, 3) := by decide +kernel
theorem dX0_copyFrom_19 : decode cX0_copyFrom 19 = .ok (.arraylength, 1) := by decide +kernel
theorem dX0_copyFrom_20 : decode cX0_copyFrom 20 = .ok (.invokestatic 31, 3) := by decide +kernel
theorem dX0_copyFrom_23 : decode cX0_copyFrom 23 = .ok (.invokestatic 37, 3) := by decide +kernel
theorem dX0_copyFrom_26 : decode cX0_copyFrom 26 = .ok (.return_, 1) := by decide +kernel
theorem dX1_init_0 : decode cX1_init 0 = .ok (.aload_n 0, 1) := by decide +kernel
theorem dX1_init_1 : decode cX1_init 1 = .ok (.invokespecial 3, 3) := by decide +kernel
theorem dX1_init_4 : decode cX1_init 4 = .ok (.aload_n 0, 1) := by decide +kernel
theorem dX1_init_5 : decode cX1_init 5 = .ok (.new 9, 3) := by decide +kernel
theorem dX1_init_8 : decode cX1_init 8 = .ok (.dup, 1) := by decide +kernel
theorem dX1_init_9 : decode cX1_init 9 = .ok (.iconst 4, 1) := by decide +kernel
theorem dX1_init_10 : decode cX1_init 10 = .ok (.invokespecial 11, 3) := by decide +kernel
theorem dX1_init_13 : decode cX1_init 13 = .ok (.putfield 14, 3) := by decide +kernel
theorem dX1_init_16 : decode cX1_init 16 = .ok (.aload_n 0, 1) := by decide +kernel
theorem dX1_init_17 : decode cX1_init 17 = .ok (.new 9, 3) := by decide +kernel
theorem dX1_init_20 : decode cX1_init 20 = .ok (.dup, 1) := by decide +kernel
theorem dX1_init_21 : decode cX1_init 21 = .ok (.iconst 4, 1) := by decide +kernel
theorem dX1_init_22 : decode cX1_init 22 = .ok (.invokespecial 11, 3) := by decide +kernel
theorem dX1_init_25 : decode cX1_init 25 = .ok (.putfield 20, 3) := by decide +kernel
theorem dX1_init_28 : decode cX1_init 28 = .ok (.aload_n 0, 1) := by decide +kernel
theorem dX1_init_29 : decode cX1_init 29 = .ok (.new 9, 3) := by decide +kernel
theorem dX1_init_32 : decode cX1_init 32 = .ok (.dup, 1) := by decide +kernel
theorem dX1_init_33 : decode cX1_init 33 = .ok (.bipush 32, 2) := by decide +kernel
theorem dX1_init_35 : decode cX1_init 35 = .ok (.invokespecial 11, 3) := by decide +kernel
theorem dX1_init_38 : decode cX1_init 38 = .ok (.putfield 23, 3) := by decide +kernel
theorem dX1_init_41 : decode cX1_init 41 = .ok (.aload_n 0, 1) := by decide +kernel
theorem dX1_init_42 : decode cX1_init 42 = .ok (.new 9, 3) := by decide +kernel
theorem dX1_init_45 : decode cX1_init 45 = .ok (.dup, 1) := by decide +kernel
theorem dX1_init_46 : decode cX1_init 46 = .ok (.iconst 4, 1) := by decide +kernel
theorem dX1_init_47 : decode cX1_init 47 = .ok (.invokespecial 11, 3) := by decide +kernel
theorem dX1_init_50 : decode cX1_init 50 = .ok (.putfield 26, 3) := by decide +kernel
theorem dX1_init_53 : decode cX1_init 53 = .ok (.aload_n 0, 1) := by decide +kernel
theorem dX1_init_54 : decode cX1_init 54 = .ok (.new 9, 3) := by decide +kernel
theorem dX1_init_57 : decode cX1_init 57 = .ok (.dup, 1) := by decide +kernel
theorem dX1_init_58 : decode cX1_init 58 = .ok (.bipush 32, 2) := by decide +kernel
theorem dX1_init_60 : decode cX1_init 60 = .ok (.invokespecial 11, 3) := by decide +kernel
theorem dX1_init_63 : decode cX1_init 63 = .ok (.putfield 29, 3) := by decide +kernel
theorem dX1_init_66 : decode cX1_init 66 = .ok (.aload_n 0, 1) := by decide +kernel
theorem dX1_init_67 : decode cX1_init 67 = .ok (.new 9, 3) := by decide +kernel
theorem dX1_init_70 : decode cX1_init 70 = .ok (.dup, 1) := by decide +kernel
theorem dX1_init_71 : decode cX1_init 71 = .ok (.bipush 32, 2) := by decide +kernel
theorem dX1_init_73 : decode cX1_init 73 = .ok (.invokespecial 11, 3) := by decide +kernel
theorem dX1_init_76 : decode cX1_init 76 = .ok (.putfield 32, 3) := by decide +kernel
theorem dX1_init_79 : decode cX1_init 79 = .ok (.aload_n 0, 1) := by decide +kernel
theorem dX1_init_80 : decode cX1_init 80 = .ok (.new 9, 3) := by decide +kernel
theorem dX1_init_83 : decode cX1_init 83 = .ok (.dup, 1) := by decide +kernel
theorem dX1_init_84 : decode cX1_init 84 = .ok (.bipush 32, 2) := by decide +kernel
theorem dX1_init_86 : decode cX1_init 86 = .ok (.invokespecial 11, 3) := by decide +kernel
theorem dX1_init_89 : decode cX1_init 89 = .ok (.putfield 35, 3) := by decide +kernel
theorem dX1_init_92 : decode cX1_init 92 = .ok (.aload_n 0, 1) := by decide +kernel
theorem dX1_init_93 : decode cX1_init 93 = .ok (.new 9, 3) := by decide +kernel
theorem dX1_init_96 : decode cX1_init 96 = .ok (.dup, 1) := by decide +kernel
theorem dX1_init_97 : decode cX1_init 97 = .ok (.bipush 32, 2) := by decide +kernel
theorem dX1_init_99 : decode cX1_init 99 = .ok (.invokespecial 11, 3) := by decide +kernel
theorem dX1_init_102 : decode cX1_init 102 = .ok (.putfield 38, 3) := by decide +kernel
theorem dX1_init_105 : decode cX1_init 105 = .ok (.aload_n 0, 1) := by decide +kernel
theorem dX1_init_106 : decode cX1_init 106 = .ok (.new 9, 3) := by decide +kernel
theorem dX1_init_109 : decode cX1_init 109 = .ok (.dup, 1) := by decide +kernel
theorem dX1_init_110 : decode cX1_init 110 = .ok (.bipush 32, 2) := by decide +kernel
theorem dX1_init_112 : decode cX1_init 112 = .ok (.invokespecial 11, 3) := by decide +kernel
theorem dX1_init_115 : decode cX1_init 115 = .ok (.putfield 41, 3) := by decide +kernel
theorem dX1_init_118 : decode cX1_init 118 = .ok (.return_, 1) := by decide +kernel
theorem dX1_clear_0 : decode cX1_clear 0 = .ok (.aload_n 0, 1) := by decide +kernel
theorem dX1_clear_1 : decode cX1_clear 1 = .ok (.iconst 0, 1) := by decide +kernel
theorem dX1_clear_2 : decode cX1_clear 2 = .ok (.putfield 44, 3) := by decide +kernel
theorem dX1_clear_5 : decode cX1_clear 5 = .ok (.aload_n 0, 1) := by decide +kernel
theorem dX1_clear_6 : decode cX1_clear 6 = .ok (.getfield 20, 3) := by decide +kernel
theorem dX1_clear_9 : decode cX1_clear 9 = .ok (.iconst 0, 1) := by decide +kernel
theorem dX1_clear_10 : decode cX1_clear 10 = .ok (.invokevirtual 48, 3) := by decide +kernel
theorem dX1_clear_13 : decode cX1_clear 13 = .ok (.aload_n 0, 1) := by decide +kernel
theorem dX1_clear_14 : decode cX1_clear 14 = .ok (.getfield 26, 3) := by decide +kernel
theorem dX1_clear_17 : decode cX1_clear 17 = .ok (.iconst 0, 1) := by decide +kernel
theorem dX1_clear_18 : decode cX1_clear 18 = .ok (.invokevirtual 48, 3) := by decide +kernel
theorem dX1_clear_21 : decode cX1_clear 21 = .ok (.return_, 1) := by decide +kernel
theorem dX1_isUsed_0 : decode cX1_isUsed 0 = .ok (.aload_n 0, 1) := by decide +kernel
theorem dX1_isUsed_1 : decode cX1_isUsed 1 = .ok (.getfield 14, 3) := by decide +kernel
theorem dX1_isUsed_4 : decode cX1_isUsed 4 = .ok (.iload_n 1, 1) := by decide +kernel
theorem dX1_isUsed_5 : decode cX1_isUsed 5 = .ok (.invokevirtual 51, 3) := by decide +kernel
theorem dX1_isUsed_8 : decode cX1_isUsed 8 = .ok (.iconst 1, 1) := by decide +kernel
theorem dX1_isUsed_9 : decode cX1_isUsed 9 = .ok (.if_icmp .ne 7, 3) := by decide +kernel
theorem dX1_isUsed_12 : decode cX1_isUsed 12 = .ok (.iconst 1, 1) := by decide +kernel
theorem dX1_isUsed_13 : decode cX1_isUsed 13 = .ok (.goto 4, 3) := by decide +kernel
theorem dX1_isUsed_16 : decode cX1_isUsed 16 = .ok (.iconst 0, 1) := by decide +kernel
theorem dX1_isUsed_17 : decode cX1_isUsed 17 = .ok (.ireturn, 1) := by decide +kernel
theorem dX1_countUsed_0 : decode cX1_countUsed 0 = .ok (.iconst 0, 1) := by decide +kernel
theorem dX1_countUsed_1 : decode cX1_countUsed 1 = .ok (.istore_n 1, 1) := by decide +kernel
theorem dX1_countUsed_2 : decode cX1_countUsed 2 = .ok (.iconst 0, 1) := by decide +kernel
theorem dX1_countUsed_3 : decode cX1_countUsed 3 = .ok (.istore_n 2, 1) := by decide +kernel
theorem dX1_countUsed_4 : decode cX1_countUsed 4 = .ok (.iload_n 2, 1) := by decide +kernel
theorem dX1_countUsed_5 : decode cX1_countUsed 5 = .ok (.aload_n 0, 1) := by decide +kernel
theorem dX1_countUsed_6 : decode cX1_countUsed 6 = .ok (.getfield 44, 3) := by decide +kernel
theorem dX1_countUsed_9 : decode cX1_countUsed 9 = .ok (.if_icmp .ge 25, 3) := by decide +kernel
theorem dX1_countUsed_12 : decode cX1_countUsed 12 = .ok (.iload_n 1, 1) := by decide +kernel
theorem dX1_countUsed_13 : decode cX1_countUsed 13 = .ok (.aload_n 0, 1) := by decide +kernel
theorem dX1_countUsed_14 : decode cX1_countUsed 14 = .ok (.iload_n 2, 1) := by decide +kernel
theorem dX1_countUsed_15 : decode cX1_countUsed 15 = .ok (.invokevirtual 55, 3) := by decide +kernel
theorem dX1_countUsed_18 : decode cX1_countUsed 18 = .ok (.ifCond .eq 7, 3) := by decide +kernel
theorem dX1_countUsed_21 : decode cX1_countUsed 21 = .ok (.iconst 1, 1) := by decide +kernel
theorem dX1_countUsed_22 : decode cX1_countUsed 22 = .ok (.goto 4, 3) := by decide +kernel
theorem dX1_countUsed_25 : decode cX1_countUsed 25 = .ok (.iconst 0, 1) := by decide +kernel
theorem dX1_countUsed_26 : decode cX1_countUsed 26 = .ok (.iadd, 1) := by decide +kernel
theorem dX1_countUsed_27 : decode cX1_countUsed 27 = .ok (.istore_n 1, 1) := by decide +kernel
theorem dX1_countUsed_28 : decode cX1_countUsed 28 = .ok (.iinc 2 1, 3) := by decide +kernel
theorem dX1_countUsed_31 : decode cX1_countUsed 31 = .ok (.goto (-27), 3) := by decide +kernel
theorem dX1_countUsed_34 : decode cX1_countUsed 34 = .ok (.iload_n 1, 1) := by decide +kernel
theorem dX1_countUsed_35 : decode cX1_countUsed 35 = .ok (.ireturn, 1) := by decide +kernel
theorem dX1_startMark_0 : decode cX1_startMark 0 = .ok (.aload_n 0, 1) := by decide +kernel
theorem dX1_startMark_1 : decode cX1_startMark 1 = .ok (.getfield 23, 3) := by decide +kernel
theorem dX1_startMark_4 : decode cX1_startMark 4 = .ok (.iload_n 1, 1) := by decide +kernel
theorem dX1_startMark_5 : decode cX1_startMark 5 = .ok (.bipush 8, 2) := by decide +kernel
theorem dX1_startMark_7 : decode cX1_startMark 7 = .ok (.imul, 1) := by decide +kernel
theorem dX1_startMark_8 : decode cX1_startMark 8 = .ok (.iload_n 2, 1) := by decide +kernel
theorem dX1_startMark_9 : decode cX1_startMark 9 = .ok (.iadd, 1) := by decide +kernel
theorem dX1_startMark_10 : decode cX1_startMark 10 = .ok (.invokevirtual 51, 3) := by decide +kernel
theorem dX1_startMark_13 : decode cX1_startMark 13 = .ok (.ireturn, 1) := by decide +kernel
theorem dX1_hasStart_0 : decode cX1_hasStart 0 = .ok (.iconst 0, 1) := by decide +kernel
theorem dX1_hasStart_1 : decode cX1_hasStart 1 = .ok (.istore_n 3, 1) := by decide +kernel
theorem dX1_hasStart_2 : decode cX1_hasStart 2 = .ok (.iload_n 3, 1) := by decide +kernel
theorem dX1_hasStart_3 : decode cX1_hasStart 3 = .ok (.aload_n 0, 1) := by decide +kernel
theorem dX1_hasStart_4 : decode cX1_hasStart 4 = .ok (.getfield 20, 3) := by decide +kernel
theorem dX1_hasStart_7 : decode cX1_hasStart 7 = .ok (.iload_n 1, 1) := by decide +kernel
theorem dX1_hasStart_8 : decode cX1_hasStart 8 = .ok (.invokevirtual 51, 3) := by decide +kernel
theorem dX1_hasStart_11 : decode cX1_hasStart 11 = .ok (.if_icmp .ge 21, 3) := by decide +kernel
theorem dX1_hasStart_14 : decode cX1_hasStart 14 = .ok (.aload_n 0, 1) := by decide +kernel
theorem dX1_hasStart_15 : decode cX1_hasStart 15 = .ok (.iload_n 1, 1) := by decide +kernel
theorem dX1_hasStart_16 : decode cX1_hasStart 16 = .ok (.iload_n 3, 1) := by decide +kernel
theorem dX1_hasStart_17 : decode cX1_hasStart 17 = .ok (.invokevirtual 59, 3) := by decide +kernel
theorem dX1_hasStart_20 : decode cX1_hasStart 20 = .ok (.iload_n 2, 1) := by decide +kernel
theorem dX1_hasStart_21 : decode cX1_hasStart 21 = .ok (.if_icmp .ne 5, 3) := by decide +kernel
theorem dX1_hasStart_24 : decode cX1_hasStart 24 = .ok (.iconst 1, 1) := by decide +kernel
theorem dX1_hasStart_25 : decode cX1_hasStart 25 = .ok (.ireturn, 1) := by decide +kernel
theorem dX1_hasStart_26 : decode cX1_hasStart 26 = .ok (.iinc 3 1, 3) := by decide +kernel
theorem dX1_hasStart_29 : decode cX1_hasStart 29 = .ok (.goto (-27), 3) := by decide +kernel
theorem dX1_hasStart_32 : decode cX1_hasStart 32 = .ok (.iconst 0, 1) := by decide +kernel
theorem dX1_hasStart_33 : decode cX1_hasStart 33 = .ok (.ireturn, 1) := by decide +kernel
theorem dX1_addStart_0 : decode cX1_addStart 0 = .ok (.aload_n 0, 1) := by decide +kernel
theorem dX1_addStart_1 : decode cX1_addStart 1 = .ok (.getfield 20, 3) := by decide +kernel
theorem dX1_addStart_4 : decode cX1_addStart 4 = .ok (.iload_n 1, 1) := by decide +kernel
theorem dX1_addStart_5 : decode cX1_addStart 5 = .ok (.invokevirtual 51, 3) := by decide +kernel
theorem dX1_addStart_8 : decode cX1_addStart 8 = .ok (.istore_n 3, 1) := by decide +kernel
theorem dX1_addStart_9 : decode cX1_addStart 9 = .ok (.aload_n 0, 1) := by decide +kernel
theorem dX1_addStart_10 : decode cX1_addStart 10 = .ok (.getfield 23, 3) := by decide +kernel
theorem dX1_addStart_13 : decode cX1_addStart 13 = .ok (.iload_n 1, 1) := by decide +kernel
theorem dX1_addStart_14 : decode cX1_addStart 14 = .ok (.bipush 8, 2) := by decide +kernel
theorem dX1_addStart_16 : decode cX1_addStart 16 = .ok (.imul, 1) := by decide +kernel
theorem dX1_addStart_17 : decode cX1_addStart 17 = .ok (.iload_n 3, 1) := by decide +kernel
theorem dX1_addStart_18 : decode cX1_addStart 18 = .ok (.iadd, 1) := by decide +kernel
theorem dX1_addStart_19 : decode cX1_addStart 19 = .ok (.iload_n 2, 1) := by decide +kernel
theorem dX1_addStart_20 : decode cX1_addStart 20 = .ok (.invokevirtual 63, 3) := by decide +kernel
theorem dX1_addStart_23 : decode cX1_addStart 23 = .ok (.aload_n 0, 1) := by decide +kernel
theorem dX1_addStart_24 : decode cX1_addStart 24 = .ok (.getfield 20, 3) := by decide +kernel
theorem dX1_addStart_27 : decode cX1_addStart 27 = .ok (.iload_n 1, 1) := by decide +kernel
theorem dX1_addStart_28 : decode cX1_addStart 28 = .ok (.iload_n 3, 1) := by decide +kernel
theorem dX1_addStart_29 : decode cX1_addStart 29 = .ok (.iconst 1, 1) := by decide +kernel
theorem dX1_addStart_30 : decode cX1_addStart 30 = .ok (.iadd, 1) := by decide +kernel
theorem dX1_addStart_31 : decode cX1_addStart 31 = .ok (.invokevirtual 63, 3) := by decide +kernel
theorem dX1_addStart_34 : decode cX1_addStart 34 = .ok (.return_, 1) := by decide +kernel
theorem dX1_copyFrom_0 : decode cX1_copyFrom 0 = .ok (.aload_n 0, 1) := by decide +kernel
theorem dX1_copyFrom_1 : decode cX1_copyFrom 1 = .ok (.aload_n 1, 1) := by decide +kernel
theorem dX1_copyFrom_2 : decode cX1_copyFrom 2 = .ok (.getfield 44, 3) := by decide +kernel
theorem dX1_copyFrom_5 : decode cX1_copyFrom 5 = .ok (.putfield 44, 3) := by decide +kernel
theorem dX1_copyFrom_8 : decode cX1_copyFrom 8 = .ok (.aload_n 0, 1) := by decide +kernel
theorem dX1_copyFrom_9 : decode cX1_copyFrom 9 = .ok (.getfield 14, 3) := by decide +kernel
theorem dX1_copyFrom_12 : decode cX1_copyFrom 12 = .ok (.aload_n 1, 1) := by decide +kernel
theorem dX1_copyFrom_13 : decode cX1_copyFrom 13 = .ok (.getfield 14, 3) := by decide +kernel
theorem dX1_copyFrom_16 : decode cX1_copyFrom 16 = .ok (.invokevirtual 67, 3) := by decide +kernel
theorem dX1_copyFrom_19 : decode cX1_copyFrom 19 = .ok (.aload_n 0, 1) := by decide +kernel
theorem dX1_copyFrom_20 : decode cX1_copyFrom 20 = .ok (.getfield 20, 3) := by decide +kernel
theorem dX1_copyFrom_23 : decode cX1_copyFrom 23 = .ok (.aload_n 1, 1) := by decide +kernel
theorem dX1_copyFrom_24 : decode cX1_copyFrom 24 = .ok (.getfield 20, 3) := by decide +kernel
theorem dX1_copyFrom_27 : decode cX1_copyFrom 27 = .ok (.invokevirtual 67, 3) := by decide +kernel
theorem dX1_copyFrom_30 : decode cX1_copyFrom 30 = .ok (.aload_n 0, 1) := by decide +kernel
theorem dX1_copyFrom_31 : decode cX1_copyFrom 31 = .ok (.getfield 23, 3) := by decide +kernel
theorem dX1_copyFrom_34 : decode cX1_copyFrom 34 = .ok (.aload_n 1, 1) := by decide +kernel
theorem dX1_copyFrom_35 : decode cX1_copyFrom 35 = .ok (.getfield 23, 3) := by decide +kernel
theorem dX1_copyFrom_38 : decode cX1_copyFrom 38 = .ok (.invokevirtual 67, 3) := by decide +kernel
theorem dX1_copyFrom_41 : decode cX1_copyFrom 41 = .ok (.aload_n 0, 1) := by decide +kernel
theorem dX1_copyFrom_42 : decode cX1_copyFrom 42 = .ok (.getfield 26, 3) := by decide +kernel
theorem dX1_copyFrom_45 : decode cX1_copyFrom 45 = .ok (.aload_n 1, 1) := by decide +kernel
theorem dX1_copyFrom_46 : decode cX1_copyFrom 46 = .ok (.getfield 26, 3) := by decide +kernel
theorem dX1_copyFrom_49 : decode cX1_copyFrom 49 = .ok (.invokevirtual 67, 3) := by decide +kernel
theorem dX1_copyFrom_52 : decode cX1_copyFrom 52 = .ok (.aload_n 0, 1) := by decide +kernel
theorem dX1_copyFrom_53 : decode cX1_copyFrom 53 = .ok (.getfield 29, 3) := by decide +kernel
theorem dX1_copyFrom_56 : decode cX1_copyFrom 56 = .ok (.aload_n 1, 1) := by decide +kernel
theorem dX1_copyFrom_57 : decode cX1_copyFrom 57 = .ok (.getfield 29, 3) := by decide +kernel
theorem dX1_copyFrom_60 : decode cX1_copyFrom 60 = .ok (.invokevirtual 67, 3) := by decide +kernel
theorem dX1_copyFrom_63 : decode cX1_copyFrom 63 = .ok (.aload_n 0, 1) := by decide +kernel
theorem dX1_copyFrom_64 : decode cX1_copyFrom 64 = .ok (.getfield 32, 3) := by decide +kernel
theorem dX1_copyFrom_67 : decode cX1_copyFrom 67 = .ok (.aload_n 1, 1) := by decide +kernel
theorem dX1_copyFrom_68 : decode cX1_copyFrom 68 = .ok (.getfield 32, 3) := by decide +kernel
theorem dX1_copyFrom_71 : decode cX1_copyFrom 71 = .ok (.invokevirtual 67, 3) := by decide +kernel
theorem dX1_copyFrom_74 : decode cX1_copyFrom 74 = .ok (.aload_n 0, 1) := by decide +kernel
theorem dX1_copyFrom_75 : decode cX1_copyFrom 75 = .ok (.getfield 35, 3) := by decide +kernel
theorem dX1_copyFrom_78 : decode cX1_copyFrom 78 = .ok (.aload_n 1, 1) := by decide +kernel
theorem dX1_copyFrom_79 : decode cX1_copyFrom 79 = .ok (.getfield 35, 3) := by decide +kernel
theorem dX1_copyFrom_82 : decode cX1_copyFrom 82 = .ok (.invokevirtual 67, 3) := by decide +kernel
theorem dX1_copyFrom_85 : decode cX1_copyFrom 85 = .ok (.aload_n 0, 1) := by decide +kernel
theorem dX1_copyFrom_86 : decode cX1_copyFrom 86 = .ok (.getfield 38, 3) := by decide +kernel
theorem dX1_copyFrom_89 : decode cX1_copyFrom 89 = .ok (.aload_n 1, 1) := by decide +kernel
theorem dX1_copyFrom_90 : decode cX1_copyFrom 90 = .ok (.getfield 38, 3) := by decide +kernel
theorem dX1_copyFrom_93 : decode cX1_copyFrom 93 = .ok (.invokevirtual 67, 3) := by decide +kernel
theorem dX1_copyFrom_96 : decode cX1_copyFrom 96 = .ok (.aload_n 0, 1) := by decide +kernel
theorem dX1_copyFrom_97 : decode cX1_copyFrom 97 = .ok (.getfield 41, 3) := by decide +kernel
theorem dX1_copyFrom_100 : decode cX1_copyFrom 100 = .ok (.aload_n 1, 1) := by decide +kernel
theorem dX1_copyFrom_101 : decode cX1_copyFrom 101 = .ok (.getfield 41, 3) := by decide +kernel
theorem dX1_copyFrom_104 : decode cX1_copyFrom 104 = .ok (.invokevirtual 67, 3) := by decide +kernel
theorem dX1_copyFrom_107 : decode cX1_copyFrom 107 = .ok (.return_, 1) := by decide +kernel
theorem dX2_init_0 : decode cX2_init 0 = .ok (.aload_n 0, 1) := by decide +kernel
theorem dX2_init_1 : decode cX2_init 1 = .ok (.invokespecial 3, 3) := by decide +kernel
theorem dX2_init_4 : decode cX2_init 4 = .ok (.aload_n 0, 1) := by decide +kernel
theorem dX2_init_5 : decode cX2_init 5 = .ok (.new 9, 3) := by decide +kernel
theorem dX2_init_8 : decode cX2_init 8 = .ok (.dup, 1) := by decide +kernel
theorem dX2_init_9 : decode cX2_init 9 = .ok (.invokespecial 11, 3) := by decide +kernel
theorem dX2_init_12 : decode cX2_init 12 = .ok (.putfield 12, 3) := by decide +kernel
theorem dX2_init_15 : decode cX2_init 15 = .ok (.aload_n 0, 1) := by decide +kernel
theorem dX2_init_16 : decode cX2_init 16 = .ok (.new 9, 3) := by decide +kernel
theorem dX2_init_19 : decode cX2_init 19 = .ok (.dup, 1) := by decide +kernel
theorem dX2_init_20 : decode cX2_init 20 = .ok (.invokespecial 11, 3) := by decide +kernel
theorem dX2_init_23 : decode cX2_init 23 = .ok (.putfield 18, 3) := by decide +kernel
theorem dX2_init_26 : decode cX2_init 26 = .ok (.aload_n 0, 1) := by decide +kernel
theorem dX2_init_27 : decode cX2_init 27 = .ok (.new 21, 3) := by decide +kernel
theorem dX2_init_30 : decode cX2_init 30 = .ok (.dup, 1) := by decide +kernel
theorem dX2_init_31 : decode cX2_init 31 = .ok (.bipush 8, 2) := by decide +kernel
theorem dX2_init_33 : decode cX2_init 33 = .ok (.invokespecial 23, 3) := by decide +kernel
theorem dX2_init_36 : decode cX2_init 36 = .ok (.putfield 26, 3) := by decide +kernel
theorem dX2_init_39 : decode cX2_init 39 = .ok (.aload_n 0, 1) := by decide +kernel
theorem dX2_init_40 : decode cX2_init 40 = .ok (.new 21, 3) := by decide +kernel
theorem dX2_init_43 : decode cX2_init 43 = .ok (.dup, 1) := by decide +kernel
theorem dX2_init_44 : decode cX2_init 44 = .ok (.bipush 8, 2) := by decide +kernel
theorem dX2_init_46 : decode cX2_init 46 = .ok (.invokespecial 23, 3) := by decide +kernel
theorem dX2_init_49 : decode cX2_init 49 = .ok (.putfield 30, 3) := by decide +kernel
theorem dX2_init_52 : decode cX2_init 52 = .ok (.aload_n 0, 1) := by decide +kernel
theorem dX2_init_53 : decode cX2_init 53 = .ok (.new 21, 3) := by decide +kernel
theorem dX2_init_56 : decode cX2_init 56 = .ok (.dup, 1) := by decide +kernel
theorem dX2_init_57 : decode cX2_init 57 = .ok (.bipush 8, 2) := by decide +kernel
theorem dX2_init_59 : decode cX2_init 59 = .ok (.invokespecial 23, 3) := by decide +kernel
theorem dX2_init_62 : decode cX2_init 62 = .ok (.putfield 33, 3) := by decide +kernel
theorem dX2_init_65 : decode cX2_init 65 = .ok (.aload_n 0, 1) := by decide +kernel
theorem dX2_init_66 : decode cX2_init 66 = .ok (.new 21, 3) := by decide +kernel
theorem dX2_init_69 : decode cX2_init 69 = .ok (.dup, 1) := by decide +kernel
theorem dX2_init_70 : decode cX2_init 70 = .ok (.bipush 8, 2) := by decide +kernel
theorem dX2_init_72 : decode cX2_init 72 = .ok (.invokespecial 23, 3) := by decide +kernel
theorem dX2_init_75 : decode cX2_init 75 = .ok (.putfield 36, 3) := by decide +kernel
theorem dX2_init_78 : decode cX2_init 78 = .ok (.aload_n 0, 1) := by decide +kernel
theorem dX2_init_79 : decode cX2_init 79 = .ok (.new 39, 3) := by decide +kernel
theorem dX2_init_82 : decode cX2_init 82 = .ok (.dup, 1) := by decide +kernel
theorem dX2_init_83 : decode cX2_init 83 = .ok (.invokespecial 41, 3) := by decide +kernel
theorem dX2_init_86 : decode cX2_init 86 = .ok (.putfield 42, 3) := by decide +kernel
theorem dX2_init_89 : decode cX2_init 89 = .ok (.return_, 1) := by decide +kernel
theorem dX2_begin_0 : decode cX2_begin 0 = .ok (.aload_n 0, 1) := by decide +kernel
theorem dX2_begin_1 : decode cX2_begin 1 = .ok (.iload_n 1, 1) := by decide +kernel
theorem dX2_begin_2 : decode cX2_begin 2 = .ok (.putfield 46, 3) := by decide +kernel
theorem dX2_begin_5 : decode cX2_begin 5 = .ok (.aload_n 0, 1) := by decide +kernel
theorem dX2_begin_6 : decode cX2_begin 6 = .ok (.iload_n 2, 1) := by decide +kernel
theorem dX2_begin_7 : decode cX2_begin 7 = .ok (.putfield 50, 3) := by decide +kernel
theorem dX2_begin_10 : decode cX2_begin 10 = .ok (.aload_n 0, 1) := by decide +kernel
theorem dX2_begin_11 : decode cX2_begin 11 = .ok (.getfield 12, 3) := by decide +kernel
theorem dX2_begin_14 : decode cX2_begin 14 = .ok (.invokevirtual 53, 3) := by decide +kernel
theorem dX2_begin_17 : decode cX2_begin 17 = .ok (.iconst 0, 1) := by decide +kernel
theorem dX2_begin_18 : decode cX2_begin 18 = .ok (.istore_n 3, 1) := by decide +kernel
theorem dX2_begin_19 : decode cX2_begin 19 = .ok (.iload_n 3, 1) := by decide +kernel
theorem dX2_begin_20 : decode cX2_begin 20 = .ok (.aload_n 0, 1) := by decide +kernel
theorem dX2_begin_21 : decode cX2_begin 21 = .ok (.getfield 50, 3) := by decide +kernel
theorem dX2_begin_24 : decode cX2_begin 24 = .ok (.if_icmp .ge 53, 3) := by decide +kernel
theorem dX2_begin_27 : decode cX2_begin 27 = .ok (.iload_n 3, 1) := by decide +kernel
theorem dX2_begin_28 : decode cX2_begin 28 = .ok (.bipush 20, 2) := by decide +kernel
theorem dX2_begin_30 : decode cX2_begin 30 = .ok (.if_icmp .ge 47, 3) := by decide +kernel
theorem dX2_begin_33 : decode cX2_begin 33 = .ok (.iconst 0, 1) := by decide +kernel
theorem dX2_begin_34 : decode cX2_begin 34 = .ok (.istore 4, 2) := by decide +kernel
theorem dX2_begin_36 : decode cX2_begin 36 = .ok (.iload 4, 2) := by decide +kernel
theorem dX2_begin_38 : decode cX2_begin 38 = .ok (.aload_n 0, 1) := by decide +kernel
theorem dX2_begin_39 : decode cX2_begin 39 = .ok (.getfield 46, 3) := by decide +kernel
theorem dX2_begin_42 : decode cX2_begin 42 = .ok (.if_icmp .ge 29, 3) := by decide +kernel
theorem dX2_begin_45 : decode cX2_begin 45 = .ok (.iload 4, 2) := by decide +kernel
theorem dX2_begin_47 : decode cX2_begin 47 = .ok (.bipush 20, 2) := by decide +kernel
theorem dX2_begin_49 : decode cX2_begin 49 = .ok (.if_icmp .ge 22, 3) := by decide +kernel
theorem dX2_begin_52 : decode cX2_begin 52 = .ok (.aload_n 0, 1) := by decide +kernel
theorem dX2_begin_53 : decode cX2_begin 53 = .ok (.getfield 12, 3) := by decide +kernel
theorem dX2_begin_56 : decode cX2_begin 56 = .ok (.iload 4, 2) := by decide +kernel
theorem dX2_begin_58 : decode cX2_begin 58 = .ok (.iload_n 3, 1) := by decide +kernel
theorem dX2_begin_59 : decode cX2_begin 59 = .ok (.invokestatic 56, 3) := by decide +kernel
theorem dX2_begin_62 : decode cX2_begin 62 = .ok (.invokevirtual 60, 3) := by decide +kernel
theorem dX2_begin_65 : decode cX2_begin 65 = .ok (.iinc 4 1, 3) := by decide +kernel
theorem dX2_begin_68 : decode cX2_begin 68 = .ok (.goto (-32), 3) := by decide +kernel
theorem dX2_begin_71 : decode cX2_begin 71 = .ok (.iinc 3 1, 3) := by decide +kernel
theorem dX2_begin_74 : decode cX2_begin 74 = .ok (.goto (-55), 3) := by decide +kernel
theorem dX2_begin_77 : decode cX2_begin 77 = .ok (.aload_n 0, 1) := by decide +kernel
theorem dX2_begin_78 : decode cX2_begin 78 = .ok (.getfield 18, 3) := by decide +kernel
theorem dX2_begin_81 : decode cX2_begin 81 = .ok (.invokevirtual 53, 3) := by decide +kernel
theorem dX2_begin_84 : decode cX2_begin 84 = .ok (.aload_n 0, 1) := by decide +kernel
theorem dX2_begin_85 : decode cX2_begin 85 = .ok (.getfield 26, 3) := by decide +kernel
theorem dX2_begin_88 : decode cX2_begin 88 = .ok (.iconst 0, 1) := by decide +kernel
theorem dX2_begin_89 : decode cX2_begin 89 = .ok (.invokevirtual 63, 3) := by decide +kernel
theorem dX2_begin_92 : decode cX2_begin 92 = .ok (.aload_n 0, 1) := by decide +kernel
theorem dX2_begin_93 : decode cX2_begin 93 = .ok (.iconst 0, 1) := by decide +kernel
theorem dX2_begin_94 : decode cX2_begin 94 = .ok (.putfield 66, 3) := by decide +kernel
theorem dX2_begin_97 : decode cX2_begin 97 = .ok (.aload_n 0, 1) := by decide +kernel
theorem dX2_begin_98 : decode cX2_begin 98 = .ok (.getfield 42, 3) := by decide +kernel
theorem dX2_begin_101 : decode cX2_begin 101 = .ok (.invokevirtual 69, 3) := by decide +kernel
theorem dX2_begin_104 : decode cX2_begin 104 = .ok (.aload_n 0, 1) := by decide +kernel
theorem dX2_begin_105 : decode cX2_begin 105 = .ok (.iconst 0, 1) := by decide +kernel
theorem dX2_begin_106 : decode cX2_begin 106 = .ok (.putfield 70, 3) := by decide +kernel
theorem dX2_begin_109 : decode cX2_begin 109 = .ok (.aload_n 0, 1) := by decide +kernel
theorem dX2_begin_110 : decode cX2_begin 110 = .ok (.iconst 0, 1) := by decide +kernel
theorem dX2_begin_111 : decode cX2_begin 111 = .ok (.putfield 73, 3) := by decide +kernel
theorem dX2_begin_114 : decode cX2_begin 114 = .ok (.aload_n 0, 1) := by decide +kernel
theorem dX2_begin_115 : decode cX2_begin 115 = .ok (.iconst 0, 1) := by decide +kernel
theorem dX2_begin_116 : decode cX2_begin 116 = .ok (.putfield 76, 3) := by decide +kernel
theorem dX2_begin_119 : decode cX2_begin 119 = .ok (.aload_n 0, 1) := by decide +kernel
theorem dX2_begin_120 : decode cX2_begin 120 = .ok (.iconst 0, 1) := by decide +kernel
theorem dX2_begin_121 : decode cX2_begin 121 = .ok (.putfield 79, 3) := by decide +kernel
theorem dX2_begin_124 : decode cX2_begin 124 = .ok (.return_, 1) := by decide +kernel
theorem dX2_numberOf_0 : decode cX2_numberOf 0 = .ok (.iload_n 1, 1) := by decide +kernel
theorem dX2_numberOf_1 : decode cX2_numberOf 1 = .ok (.ifCond .ne 7, 3) := by decide +kernel
theorem dX2_numberOf_4 : decode cX2_numberOf 4 = .ok (.iconst (-1), 1) := by decide +kernel
theorem dX2_numberOf_5 : decode cX2_numberOf 5 = .ok (.goto 21, 3) := by decide +kernel
theorem dX2_numberOf_8 : decode cX2_numberOf 8 = .ok (.iload_n 1, 1) := by decide +kernel
theorem dX2_numberOf_9 : decode cX2_numberOf 9 = .ok (.invokestatic 82, 3) := by decide +kernel
theorem dX2_numberOf_12 : decode cX2_numberOf 12 = .ok (.iconst 1, 1) := by decide +kernel
theorem dX2_numberOf_13 : decode cX2_numberOf 13 = .ok (.isub, 1) := by decide +kernel
theorem dX2_numberOf_14 : decode cX2_numberOf 14 = .ok (.aload_n 0, 1) := by decide +kernel
theorem dX2_numberOf_15 : decode cX2_numberOf 15 = .ok (.getfield 46, 3) := by decide +kernel
theorem dX2_numberOf_18 : decode cX2_numberOf 18 = .ok (.imul, 1) := by decide +kernel
theorem dX2_numberOf_19 : decode cX2_numberOf 19 = .ok (.iload_n 1, 1) := by decide +kernel
theorem dX2_numberOf_20 : decode cX2_numberOf 20 = .ok (.invokestatic 86, 3) := by decide +kernel
theorem dX2_numberOf_23 : decode cX2_numberOf 23 = .ok (.iadd, 1) := by decide +kernel
theorem dX2_numberOf_24 : decode cX2_numberOf 24 = .ok (.iconst 1, 1) := by decide +kernel
theorem dX2_numberOf_25 : decode cX2_numberOf 25 = .ok (.isub, 1) := by decide +kernel
theorem dX2_numberOf_26 : decode cX2_numberOf 26 = .ok (.ireturn, 1) := by decide +kernel
theorem dX2_countMarks_0 : decode cX2_countMarks 0 = .ok (.iconst 0, 1) := by decide +kernel
theorem dX2_countMarks_1 : decode cX2_countMarks 1 = .ok (.istore_n 1, 1) := by decide +kernel
theorem dX2_countMarks_2 : decode cX2_countMarks 2 = .ok (.iconst 0, 1) := by decide +kernel
theorem dX2_countMarks_3 : decode cX2_countMarks 3 = .ok (.istore_n 2, 1) := by decide +kernel
theorem dX2_countMarks_4 : decode cX2_countMarks 4 = .ok (.iload_n 2, 1) := by decide +kernel
theorem dX2_countMarks_5 : decode cX2_countMarks 5 = .ok (.bipush 8, 2) := by decide +kernel
theorem dX2_countMarks_7 : decode cX2_countMarks 7 = .ok (.if_icmp .ge 28, 3) := by decide +kernel
theorem dX2_countMarks_10 : decode cX2_countMarks 10 = .ok (.iload_n 1, 1) := by decide +kernel
theorem dX2_countMarks_11 : decode cX2_countMarks 11 = .ok (.aload_n 0, 1) := by decide +kernel
theorem dX2_countMarks_12 : decode cX2_countMarks 12 = .ok (.getfield 26, 3) := by decide +kernel
theorem dX2_countMarks_15 : decode cX2_countMarks 15 = .ok (.iload_n 2, 1) := by decide +kernel
theorem dX2_countMarks_16 : decode cX2_countMarks 16 = .ok (.invokevirtual 89, 3) := by decide +kernel
theorem dX2_countMarks_19 : decode cX2_countMarks 19 = .ok (.ifCond .ne 7, 3) := by decide +kernel
theorem dX2_countMarks_22 : decode cX2_countMarks 22 = .ok (.iconst 0, 1) := by decide +kernel
theorem dX2_countMarks_23 : decode cX2_countMarks 23 = .ok (.goto 4, 3) := by decide +kernel
theorem dX2_countMarks_26 : decode cX2_countMarks 26 = .ok (.iconst 1, 1) := by decide +kernel
theorem dX2_countMarks_27 : decode cX2_countMarks 27 = .ok (.iadd, 1) := by decide +kernel
theorem dX2_countMarks_28 : decode cX2_countMarks 28 = .ok (.istore_n 1, 1) := by decide +kernel
theorem dX2_countMarks_29 : decode cX2_countMarks 29 = .ok (.iinc 2 1, 3) := by decide +kernel
theorem dX2_countMarks_32 : decode cX2_countMarks 32 = .ok (.goto (-28), 3) := by decide +kernel
theorem dX2_countMarks_35 : decode cX2_countMarks 35 = .ok (.iload_n 1, 1) := by decide +kernel
theorem dX2_countMarks_36 : decode cX2_countMarks 36 = .ok (.ireturn, 1) := by decide +kernel
theorem dX2_standsOnMark_0 : decode cX2_standsOnMark 0 = .ok (.iconst 0, 1) := by decide +kernel
theorem dX2_standsOnMark_1 : decode cX2_standsOnMark 1 = .ok (.istore_n 3, 1) := by decide +kernel
theorem dX2_standsOnMark_2 : decode cX2_standsOnMark 2 = .ok (.iload_n 3, 1) := by decide +kernel
theorem dX2_standsOnMark_3 : decode cX2_standsOnMark 3 = .ok (.bipush 8, 2) := by decide +kernel
theorem dX2_standsOnMark_5 : decode cX2_standsOnMark 5 = .ok (.if_icmp .ge 27, 3) := by decide +kernel
theorem dX2_standsOnMark_8 : decode cX2_standsOnMark 8 = .ok (.iload_n 1, 1) := by decide +kernel
theorem dX2_standsOnMark_9 : decode cX2_standsOnMark 9 = .ok (.iload_n 2, 1) := by decide +kernel
theorem dX2_standsOnMark_10 : decode cX2_standsOnMark 10 = .ok (.aload_n 0, 1) := by decide +kernel
theorem dX2_standsOnMark_11 : decode cX2_standsOnMark 11 = .ok (.getfield 26, 3) := by decide +kernel
theorem dX2_standsOnMark_14 : decode cX2_standsOnMark 14 = .ok (.iload_n 3, 1) := by decide +kernel
theorem dX2_standsOnMark_15 : decode cX2_standsOnMark 15 = .ok (.invokevirtual 89, 3) := by decide +kernel
theorem dX2_standsOnMark_18 : decode cX2_standsOnMark 18 = .ok (.invokestatic 92, 3) := by decide +kernel
theorem dX2_standsOnMark_21 : decode cX2_standsOnMark 21 = .ok (.ifCond .eq 5, 3) := by decide +kernel
theorem dX2_standsOnMark_24 : decode cX2_standsOnMark 24 = .ok (.iconst 1, 1) := by decide +kernel
theorem dX2_standsOnMark_25 : decode cX2_standsOnMark 25 = .ok (.ireturn, 1) := by decide +kernel
theorem dX2_standsOnMark_26 : decode cX2_standsOnMark 26 = .ok (.iinc 3 1, 3) := by decide +kernel
theorem dX2_standsOnMark_29 : decode cX2_standsOnMark 29 = .ok (.goto (-27), 3) := by decide +kernel
theorem dX2_standsOnMark_32 : decode cX2_standsOnMark 32 = .ok (.iconst 0, 1) := by decide +kernel
theorem dX2_standsOnMark_33 : decode cX2_standsOnMark 33 = .ok (.ireturn, 1) := by decide +kernel
theorem dX2_flood_0 : decode cX2_flood 0 = .ok (.iload_n 1, 1) := by decide +kernel
theorem dX2_flood_1 : decode cX2_flood 1 = .ok (.istore_n 3, 1) := by decide +kernel
theorem dX2_flood_2 : decode cX2_flood 2 = .ok (.iload_n 3, 1) := by decide +kernel
theorem dX2_flood_3 : decode cX2_flood 3 = .ok (.iload_n 2, 1) := by decide +kernel
theorem dX2_flood_4 : decode cX2_flood 4 = .ok (.if_icmp .gt 33, 3) := by decide +kernel
theorem dX2_flood_7 : decode cX2_flood 7 = .ok (.iload_n 3, 1) := by decide +kernel
theorem dX2_flood_8 : decode cX2_flood 8 = .ok (.sipush 704, 3) := by decide +kernel
theorem dX2_flood_11 : decode cX2_flood 11 = .ok (.if_icmp .ge 26, 3) := by decide +kernel
theorem dX2_flood_14 : decode cX2_flood 14 = .ok (.iload_n 1, 1) := by decide +kernel
theorem dX2_flood_15 : decode cX2_flood 15 = .ok (.iload_n 2, 1) := by decide +kernel
theorem dX2_flood_16 : decode cX2_flood 16 = .ok (.iload_n 3, 1) := by decide +kernel
theorem dX2_flood_17 : decode cX2_flood 17 = .ok (.invokestatic 92, 3) := by decide +kernel
theorem dX2_flood_20 : decode cX2_flood 20 = .ok (.ifCond .eq 11, 3) := by decide +kernel
theorem dX2_flood_23 : decode cX2_flood 23 = .ok (.aload_n 0, 1) := by decide +kernel
theorem dX2_flood_24 : decode cX2_flood 24 = .ok (.getfield 12, 3) := by decide +kernel
theorem dX2_flood_27 : decode cX2_flood 27 = .ok (.iload_n 3, 1) := by decide +kernel
theorem dX2_flood_28 : decode cX2_flood 28 = .ok (.invokevirtual 96, 3) := by decide +kernel
theorem dX2_flood_31 : decode cX2_flood 31 = .ok (.iinc 3 1, 3) := by decide +kernel
theorem dX2_flood_34 : decode cX2_flood 34 = .ok (.goto (-32), 3) := by decide +kernel
theorem dX2_flood_37 : decode cX2_flood 37 = .ok (.return_, 1) := by decide +kernel
theorem dX2_addBend_0 : decode cX2_addBend 0 = .ok (.aload_n 0, 1) := by decide +kernel
theorem dX2_addBend_1 : decode cX2_addBend 1 = .ok (.getfield 30, 3) := by decide +kernel
theorem dX2_addBend_4 : decode cX2_addBend 4 = .ok (.aload_n 0, 1) := by decide +kernel
theorem dX2_addBend_5 : decode cX2_addBend 5 = .ok (.getfield 66, 3) := by decide +kernel
theorem dX2_addBend_8 : decode cX2_addBend 8 = .ok (.iload_n 1, 1) := by decide +kernel
theorem dX2_addBend_9 : decode cX2_addBend 9 = .ok (.invokevirtual 99, 3) := by decide +kernel
theorem dX2_addBend_12 : decode cX2_addBend 12 = .ok (.aload_n 0, 1) := by decide +kernel
theorem dX2_addBend_13 : decode cX2_addBend 13 = .ok (.getfield 33, 3) := by decide +kernel
theorem dX2_addBend_16 : decode cX2_addBend 16 = .ok (.aload_n 0, 1) := by decide +kernel
theorem dX2_addBend_17 : decode cX2_addBend 17 = .ok (.getfield 66, 3) := by decide +kernel
theorem dX2_addBend_20 : decode cX2_addBend 20 = .ok (.iload_n 2, 1) := by decide +kernel
theorem dX2_addBend_21 : decode cX2_addBend 21 = .ok (.invokevirtual 99, 3) := by decide +kernel
theorem dX2_addBend_24 : decode cX2_addBend 24 = .ok (.aload_n 0, 1) := by decide +kernel
theorem dX2_addBend_25 : decode cX2_addBend 25 = .ok (.getfield 36, 3) := by decide +kernel
theorem dX2_addBend_28 : decode cX2_addBend 28 = .ok (.aload_n 0, 1) := by decide +kernel
theorem dX2_addBend_29 : decode cX2_addBend 29 = .ok (.getfield 66, 3) := by decide +kernel
theorem dX2_addBend_32 : decode cX2_addBend 32 = .ok (.iload_n 3, 1) := by decide +kernel
theorem dX2_addBend_33 : decode cX2_addBend 33 = .ok (.invokevirtual 99, 3) := by decide +kernel
theorem dX2_addBend_36 : decode cX2_addBend 36 = .ok (.aload_n 0, 1) := by decide +kernel
theorem dX2_addBend_37 : decode cX2_addBend 37 = .ok (.dup, 1) := by decide +kernel
theorem dX2_addBend_38 : decode cX2_addBend 38 = .ok (.getfield 66, 3) := by decide +kernel
theorem dX2_addBend_41 : decode cX2_addBend 41 = .ok (.iconst 1, 1) := by decide +kernel
theorem dX2_addBend_42 : decode cX2_addBend 42 = .ok (.iadd, 1) := by decide +kernel
theorem dX2_addBend_43 : decode cX2_addBend 43 = .ok (.putfield 66, 3) := by decide +kernel
theorem dX2_addBend_46 : decode cX2_addBend 46 = .ok (.return_, 1) := by decide +kernel
theorem dX2_copyFrom_0 : decode cX2_copyFrom 0 = .ok (.aload_n 0, 1) := by decide +kernel
theorem dX2_copyFrom_1 : decode cX2_copyFrom 1 = .ok (.aload_n 1, 1) := by decide +kernel
theorem dX2_copyFrom_2 : decode cX2_copyFrom 2 = .ok (.getfield 46, 3) := by decide +kernel
theorem dX2_copyFrom_5 : decode cX2_copyFrom 5 = .ok (.putfield 46, 3) := by decide +kernel
theorem dX2_copyFrom_8 : decode cX2_copyFrom 8 = .ok (.aload_n 0, 1) := by decide +kernel
theorem dX2_copyFrom_9 : decode cX2_copyFrom 9 = .ok (.aload_n 1, 1) := by decide +kernel
theorem dX2_copyFrom_10 : decode cX2_copyFrom 10 = .ok (.getfield 50, 3) := by decide +kernel
theorem dX2_copyFrom_13 : decode cX2_copyFrom 13 = .ok (.putfield 50, 3) := by decide +kernel
theorem dX2_copyFrom_16 : decode cX2_copyFrom 16 = .ok (.aload_n 0, 1) := by decide +kernel
theorem dX2_copyFrom_17 : decode cX2_copyFrom 17 = .ok (.getfield 12, 3) := by decide +kernel
theorem dX2_copyFrom_20 : decode cX2_copyFrom 20 = .ok (.aload_n 1, 1) := by decide +kernel
theorem dX2_copyFrom_21 : decode cX2_copyFrom 21 = .ok (.getfield 12, 3) := by decide +kernel
theorem dX2_copyFrom_24 : decode cX2_copyFrom 24 = .ok (.invokevirtual 103, 3) := by decide +kernel
theorem dX2_copyFrom_27 : decode cX2_copyFrom 27 = .ok (.aload_n 0, 1) := by decide +kernel
theorem dX2_copyFrom_28 : decode cX2_copyFrom 28 = .ok (.getfield 18, 3) := by decide +kernel
theorem dX2_copyFrom_31 : decode cX2_copyFrom 31 = .ok (.aload_n 1, 1) := by decide +kernel
theorem dX2_copyFrom_32 : decode cX2_copyFrom 32 = .ok (.getfield 18, 3) := by decide +kernel
theorem dX2_copyFrom_35 : decode cX2_copyFrom 35 = .ok (.invokevirtual 103, 3) := by decide +kernel
theorem dX2_copyFrom_38 : decode cX2_copyFrom 38 = .ok (.aload_n 0, 1) := by decide +kernel
theorem dX2_copyFrom_39 : decode cX2_copyFrom 39 = .ok (.getfield 26, 3) := by decide +kernel
theorem dX2_copyFrom_42 : decode cX2_copyFrom 42 = .ok (.aload_n 1, 1) := by decide +kernel
theorem dX2_copyFrom_43 : decode cX2_copyFrom 43 = .ok (.getfield 26, 3) := by decide +kernel
theorem dX2_copyFrom_46 : decode cX2_copyFrom 46 = .ok (.invokevirtual 107, 3) := by decide +kernel
theorem dX2_copyFrom_49 : decode cX2_copyFrom 49 = .ok (.aload_n 0, 1) := by decide +kernel
theorem dX2_copyFrom_50 : decode cX2_copyFrom 50 = .ok (.aload_n 1, 1) := by decide +kernel
theorem dX2_copyFrom_51 : decode cX2_copyFrom 51 = .ok (.getfield 66, 3) := by decide +kernel
theorem dX2_copyFrom_54 : decode cX2_copyFrom 54 = .ok (.putfield 66, 3) := by decide +kernel
theorem dX2_copyFrom_57 : decode cX2_copyFrom 57 = .ok (.aload_n 0, 1) := by decide +kernel
theorem dX2_copyFrom_58 : decode cX2_copyFrom 58 = .ok (.getfield 30, 3) := by decide +kernel
theorem dX2_copyFrom_61 : decode cX2_copyFrom 61 = .ok (.aload_n 1, 1) := by decide +kernel
theorem dX2_copyFrom_62 : decode cX2_copyFrom 62 = .ok (.getfield 30, 3) := by decide +kernel
theorem dX2_copyFrom_65 : decode cX2_copyFrom 65 = .ok (.invokevirtual 107, 3) := by decide +kernel
theorem dX2_copyFrom_68 : decode cX2_copyFrom 68 = .ok (.aload_n 0, 1) := by decide +kernel
theorem dX2_copyFrom_69 : decode cX2_copyFrom 69 = .ok (.getfield 33, 3) := by decide +kernel
theorem dX2_copyFrom_72 : decode cX2_copyFrom 72 = .ok (.aload_n 1, 1) := by decide +kernel
theorem dX2_copyFrom_73 : decode cX2_copyFrom 73 = .ok (.getfield 33, 3) := by decide +kernel
theorem dX2_copyFrom_76 : decode cX2_copyFrom 76 = .ok (.invokevirtual 107, 3) := by decide +kernel
theorem dX2_copyFrom_79 : decode cX2_copyFrom 79 = .ok (.aload_n 0, 1) := by decide +kernel
theorem dX2_copyFrom_80 : decode cX2_copyFrom 80 = .ok (.getfield 36, 3) := by decide +kernel
theorem dX2_copyFrom_83 : decode cX2_copyFrom 83 = .ok (.aload_n 1, 1) := by decide +kernel
theorem dX2_copyFrom_84 : decode cX2_copyFrom 84 = .ok (.getfield 36, 3) := by decide +kernel
theorem dX2_copyFrom_87 : decode cX2_copyFrom 87 = .ok (.invokevirtual 107, 3) := by decide +kernel
theorem dX2_copyFrom_90 : decode cX2_copyFrom 90 = .ok (.aload_n 0, 1) := by decide +kernel
theorem dX2_copyFrom_91 : decode cX2_copyFrom 91 = .ok (.getfield 42, 3) := by decide +kernel
theorem dX2_copyFrom_94 : decode cX2_copyFrom 94 = .ok (.aload_n 1, 1) := by decide +kernel
theorem dX2_copyFrom_95 : decode cX2_copyFrom 95 = .ok (.getfield 42, 3) := by decide +kernel
theorem dX2_copyFrom_98 : decode cX2_copyFrom 98 = .ok (.invokevirtual 110, 3) := by decide +kernel
theorem dX2_copyFrom_101 : decode cX2_copyFrom 101 = .ok (.aload_n 0, 1) := by decide +kernel
theorem dX2_copyFrom_102 : decode cX2_copyFrom 102 = .ok (.aload_n 1, 1) := by decide +kernel
theorem dX2_copyFrom_103 : decode cX2_copyFrom 103 = .ok (.getfield 70, 3) := by decide +kernel
theorem dX2_copyFrom_106 : decode cX2_copyFrom 106 = .ok (.putfield 70, 3) := by decide +kernel
theorem dX2_copyFrom_109 : decode cX2_copyFrom 109 = .ok (.aload_n 0, 1) := by decide +kernel
theorem dX2_copyFrom_110 : decode cX2_copyFrom 110 = .ok (.aload_n 1, 1) := by decide +kernel
theorem dX2_copyFrom_111 : decode cX2_copyFrom 111 = .ok (.getfield 73, 3) := by decide +kernel
theorem dX2_copyFrom_114 : decode cX2_copyFrom 114 = .ok (.putfield 73, 3) := by decide +kernel
theorem dX2_copyFrom_117 : decode cX2_copyFrom 117 = .ok (.aload_n 0, 1) := by decide +kernel
theorem dX2_copyFrom_118 : decode cX2_copyFrom 118 = .ok (.aload_n 1, 1) := by decide +kernel
theorem dX2_copyFrom_119 : decode cX2_copyFrom 119 = .ok (.getfield 76, 3) := by decide +kernel
theorem dX2_copyFrom_122 : decode cX2_copyFrom 122 = .ok (.putfield 76, 3) := by decide +kernel
theorem dX2_copyFrom_125 : decode cX2_copyFrom 125 = .ok (.aload_n 0, 1) := by decide +kernel
theorem dX2_copyFrom_126 : decode cX2_copyFrom 126 = .ok (.aload_n 1, 1) := by decide +kernel
theorem dX2_copyFrom_127 : decode cX2_copyFrom 127 = .ok (.getfield 79, 3) := by decide +kernel
theorem dX2_copyFrom_130 : decode cX2_copyFrom 130 = .ok (.putfield 79, 3) := by decide +kernel
theorem dX2_copyFrom_133 : decode cX2_copyFrom 133 = .ok (.return_, 1) := by decide +kernel
theorem dX3_init_0 : decode cX3_init 0 = .ok (.aload_n 0, 1) := by decide +kernel
theorem dX3_init_1 : decode cX3_init 1 = .ok (.invokespecial 3, 3) := by decide +kernel
theorem dX3_init_4 : decode cX3_init 4 = .ok (.aload_n 0, 1) := by decide +kernel
theorem dX3_init_5 : decode cX3_init 5 = .ok (.new 9, 3) := by decide +kernel
theorem dX3_init_8 : decode cX3_init 8 = .ok (.dup, 1) := by decide +kernel
theorem dX3_init_9 : decode cX3_init 9 = .ok (.sipush 704, 3) := by decide +kernel
theorem dX3_init_12 : decode cX3_init 12 = .ok (.invokespecial 11, 3) := by decide +kernel
theorem dX3_init_15 : decode cX3_init 15 = .ok (.putfield 14, 3) := by decide +kernel
theorem dX3_init_18 : decode cX3_init 18 = .ok (.aload_n 0, 1) := by decide +kernel
theorem dX3_init_19 : decode cX3_init 19 = .ok (.new 9, 3) := by decide +kernel
theorem dX3_init_22 : decode cX3_init 22 = .ok (.dup, 1) := by decide +kernel
theorem dX3_init_23 : decode cX3_init 23 = .ok (.sipush 400, 3) := by decide +kernel
theorem dX3_init_26 : decode cX3_init 26 = .ok (.invokespecial 11, 3) := by decide +kernel
theorem dX3_init_29 : decode cX3_init 29 = .ok (.putfield 20, 3) := by decide +kernel
theorem dX3_init_32 : decode cX3_init 32 = .ok (.return_, 1) := by decide +kernel
theorem dX3_clear_0 : decode cX3_clear 0 = .ok (.aload_n 0, 1) := by decide +kernel
theorem dX3_clear_1 : decode cX3_clear 1 = .ok (.getfield 14, 3) := by decide +kernel
theorem dX3_clear_4 : decode cX3_clear 4 = .ok (.iconst (-1), 1) := by decide +kernel
theorem dX3_clear_5 : decode cX3_clear 5 = .ok (.invokevirtual 23, 3) := by decide +kernel
theorem dX3_clear_8 : decode cX3_clear 8 = .ok (.return_, 1) := by decide +kernel
theorem dX3_spread_0 : decode cX3_spread 0 = .ok (.aload_n 0, 1) := by decide +kernel
theorem dX3_spread_1 : decode cX3_spread 1 = .ok (.getfield 14, 3) := by decide +kernel
theorem dX3_spread_4 : decode cX3_spread 4 = .ok (.iload_n 2, 1) := by decide +kernel
theorem dX3_spread_5 : decode cX3_spread 5 = .ok (.iconst 0, 1) := by decide +kernel
theorem dX3_spread_6 : decode cX3_spread 6 = .ok (.invokevirtual 26, 3) := by decide +kernel
theorem dX3_spread_9 : decode cX3_spread 9 = .ok (.aload_n 0, 1) := by decide +kernel
theorem dX3_spread_10 : decode cX3_spread 10 = .ok (.getfield 20, 3) := by decide +kernel
theorem dX3_spread_13 : decode cX3_spread 13 = .ok (.iconst 0, 1) := by decide +kernel
theorem dX3_spread_14 : decode cX3_spread 14 = .ok (.iload_n 2, 1) := by decide +kernel
theorem dX3_spread_15 : decode cX3_spread 15 = .ok (.invokevirtual 26, 3) := by decide +kernel
theorem dX3_spread_18 : decode cX3_spread 18 = .ok (.iconst 1, 1) := by decide +kernel
theorem dX3_spread_19 : decode cX3_spread 19 = .ok (.istore_n 3, 1) := by decide +kernel
theorem dX3_spread_20 : decode cX3_spread 20 = .ok (.iconst 0, 1) := by decide +kernel
theorem dX3_spread_21 : decode cX3_spread 21 = .ok (.istore 4, 2) := by decide +kernel
theorem dX3_spread_23 : decode cX3_spread 23 = .ok (.iload 4, 2) := by decide +kernel
theorem dX3_spread_25 : decode cX3_spread 25 = .ok (.iload_n 3, 1) := by decide +kernel
theorem dX3_spread_26 : decode cX3_spread 26 = .ok (.if_icmp .ge 33, 3) := by decide +kernel
theorem dX3_spread_29 : decode cX3_spread 29 = .ok (.iload 4, 2) := by decide +kernel
theorem dX3_spread_31 : decode cX3_spread 31 = .ok (.sipush 400, 3) := by decide +kernel
theorem dX3_spread_34 : decode cX3_spread 34 = .ok (.if_icmp .ge 25, 3) := by decide +kernel
theorem dX3_spread_37 : decode cX3_spread 37 = .ok (.aload_n 0, 1) := by decide +kernel
theorem dX3_spread_38 : decode cX3_spread 38 = .ok (.aload_n 1, 1) := by decide +kernel
theorem dX3_spread_39 : decode cX3_spread 39 = .ok (.aload_n 0, 1) := by decide +kernel
theorem dX3_spread_40 : decode cX3_spread 40 = .ok (.getfield 20, 3) := by decide +kernel
theorem dX3_spread_43 : decode cX3_spread 43 = .ok (.iload 4, 2) := by decide +kernel
theorem dX3_spread_45 : decode cX3_spread 45 = .ok (.invokevirtual 30, 3) := by decide +kernel
theorem dX3_spread_48 : decode cX3_spread 48 = .ok (.iload_n 3, 1) := by decide +kernel
theorem dX3_spread_49 : decode cX3_spread 49 = .ok (.invokevirtual 34, 3) := by decide +kernel
theorem dX3_spread_52 : decode cX3_spread 52 = .ok (.istore_n 3, 1) := by decide +kernel
theorem dX3_spread_53 : decode cX3_spread 53 = .ok (.iinc 4 1, 3) := by decide +kernel
theorem dX3_spread_56 : decode cX3_spread 56 = .ok (.goto (-33), 3) := by decide +kernel
theorem dX3_spread_59 : decode cX3_spread 59 = .ok (.iload_n 3, 1) := by decide +kernel
theorem dX3_spread_60 : decode cX3_spread 60 = .ok (.ireturn, 1) := by decide +kernel
theorem dX3_visitNeighbours_0 : decode cX3_visitNeighbours 0 = .ok (.iload_n 3, 1) := by decide +kernel
theorem dX3_visitNeighbours_1 : decode cX3_visitNeighbours 1 = .ok (.istore 4, 2) := by decide +kernel
theorem dX3_visitNeighbours_3 : decode cX3_visitNeighbours 3 = .ok (.iconst 0, 1) := by decide +kernel
theorem dX3_visitNeighbours_4 : decode cX3_visitNeighbours 4 = .ok (.istore 5, 2) := by decide +kernel
theorem dX3_visitNeighbours_6 : decode cX3_visitNeighbours 6 = .ok (.iload 5, 2) := by decide +kernel
theorem dX3_visitNeighbours_8 : decode cX3_visitNeighbours 8 = .ok (.bipush 8, 2) := by decide +kernel
theorem dX3_visitNeighbours_10 : decode cX3_visitNeighbours 10 = .ok (.if_icmp .ge 71, 3) := by decide +kernel
theorem dX3_visitNeighbours_13 : decode cX3_visitNeighbours 13 = .ok (.iload_n 2, 1) := by decide +kernel
theorem dX3_visitNeighbours_14 : decode cX3_visitNeighbours 14 = .ok (.iload 5, 2) := by decide +kernel
theorem dX3_visitNeighbours_16 : decode cX3_visitNeighbours 16 = .ok (.invokestatic 38, 3) := by decide +kernel
theorem dX3_visitNeighbours_19 : decode cX3_visitNeighbours 19 = .ok (.istore 6, 2) := by decide +kernel
theorem dX3_visitNeighbours_21 : decode cX3_visitNeighbours 21 = .ok (.aload_n 1, 1) := by decide +kernel
theorem dX3_visitNeighbours_22 : decode cX3_visitNeighbours 22 = .ok (.iload 6, 2) := by decide +kernel
theorem dX3_visitNeighbours_24 : decode cX3_visitNeighbours 24 = .ok (.invokevirtual 42, 3) := by decide +kernel
theorem dX3_visitNeighbours_27 : decode cX3_visitNeighbours 27 = .ok (.ifCond .eq 48, 3) := by decide +kernel
theorem dX3_visitNeighbours_30 : decode cX3_visitNeighbours 30 = .ok (.aload_n 0, 1) := by decide +kernel
theorem dX3_visitNeighbours_31 : decode cX3_visitNeighbours 31 = .ok (.getfield 14, 3) := by decide +kernel
theorem dX3_visitNeighbours_34 : decode cX3_visitNeighbours 34 = .ok (.iload 6, 2) := by decide +kernel
theorem dX3_visitNeighbours_36 : decode cX3_visitNeighbours 36 = .ok (.invokevirtual 30, 3) := by decide +kernel
theorem dX3_visitNeighbours_39 : decode cX3_visitNeighbours 39 = .ok (.ifCond .ge 36, 3) := by decide +kernel
theorem dX3_visitNeighbours_42 : decode cX3_visitNeighbours 42 = .ok (.aload_n 0, 1) := by decide +kernel
theorem dX3_visitNeighbours_43 : decode cX3_visitNeighbours 43 = .ok (.getfield 14, 3) := by decide +kernel
theorem dX3_visitNeighbours_46 : decode cX3_visitNeighbours 46 = .ok (.iload 6, 2) := by decide +kernel
theorem dX3_visitNeighbours_48 : decode cX3_visitNeighbours 48 = .ok (.aload_n 0, 1) := by decide +kernel
theorem dX3_visitNeighbours_49 : decode cX3_visitNeighbours 49 = .ok (.getfield 14, 3) := by decide +kernel
theorem dX3_visitNeighbours_52 : decode cX3_visitNeighbours 52 = .ok (.iload_n 2, 1) := by decide +kernel
theorem dX3_visitNeighbours_53 : decode cX3_visitNeighbours 53 = .ok (.invokevirtual 30, 3) := by decide +kernel
theorem dX3_visitNeighbours_56 : decode cX3_visitNeighbours 56 = .ok (.iconst 1, 1) := by decide +kernel
theorem dX3_visitNeighbours_57 : decode cX3_visitNeighbours 57 = .ok (.iadd, 1) := by decide +kernel
theorem dX3_visitNeighbours_58 : decode cX3_visitNeighbours 58 = .ok (.invokevirtual 26, 3) := by decide +kernel
theorem dX3_visitNeighbours_61 : decode cX3_visitNeighbours 61 = .ok (.aload_n 0, 1) := by decide +kernel
theorem dX3_visitNeighbours_62 : decode cX3_visitNeighbours 62 = .ok (.getfield 20, 3) := by decide +kernel
theorem dX3_visitNeighbours_65 : decode cX3_visitNeighbours 65 = .ok (.iload 4, 2) := by decide +kernel
theorem dX3_visitNeighbours_67 : decode cX3_visitNeighbours 67 = .ok (.iload 6, 2) := by decide +kernel
theorem dX3_visitNeighbours_69 : decode cX3_visitNeighbours 69 = .ok (.invokevirtual 26, 3) := by decide +kernel
theorem dX3_visitNeighbours_72 : decode cX3_visitNeighbours 72 = .ok (.iinc 4 1, 3) := by decide +kernel
theorem dX3_visitNeighbours_75 : decode cX3_visitNeighbours 75 = .ok (.iinc 5 1, 3) := by decide +kernel
theorem dX3_visitNeighbours_78 : decode cX3_visitNeighbours 78 = .ok (.goto (-72), 3) := by decide +kernel
theorem dX3_visitNeighbours_81 : decode cX3_visitNeighbours 81 = .ok (.iload 4, 2) := by decide +kernel
theorem dX3_visitNeighbours_83 : decode cX3_visitNeighbours 83 = .ok (.ireturn, 1) := by decide +kernel
theorem dX4_init_0 : decode cX4_init 0 = .ok (.aload_n 0, 1) := by decide +kernel
theorem dX4_init_1 : decode cX4_init 1 = .ok (.invokespecial 3, 3) := by decide +kernel
theorem dX4_init_4 : decode cX4_init 4 = .ok (.aload_n 0, 1) := by decide +kernel
theorem dX4_init_5 : decode cX4_init 5 = .ok (.bipush 8, 2) := by decide +kernel
theorem dX4_init_7 : decode cX4_init 7 = .ok (.anewarray 9, 3) := by decide +kernel
theorem dX4_init_10 : decode cX4_init 10 = .ok (.putfield 11, 3) := by decide +kernel
theorem dX4_init_13 : decode cX4_init 13 = .ok (.iconst 0, 1) := by decide +kernel
theorem dX4_init_14 : decode cX4_init 14 = .ok (.istore_n 1, 1) := by decide +kernel
theorem dX4_init_15 : decode cX4_init 15 = .ok (.iload_n 1, 1) := by decide +kernel
theorem dX4_init_16 : decode cX4_init 16 = .ok (.aload_n 0, 1) := by decide +kernel
theorem dX4_init_17 : decode cX4_init 17 = .ok (.getfield 11, 3) := by decide +kernel
theorem dX4_init_20 : decode cX4_init 20 = .ok (.arraylength, 1) := by decide +kernel
theorem dX4_init_21 : decode cX4_init 21 = .ok (.if_icmp .ge 22, 3) := by decide +kernel
theorem dX4_init_24 : decode cX4_init 24 = .ok (.aload_n 0, 1) := by decide +kernel
theorem dX4_init_25 : decode cX4_init 25 = .ok (.getfield 11, 3) := by decide +kernel
theorem dX4_init_28 : decode cX4_init 28 = .ok (.iload_n 1, 1) := by decide +kernel
theorem dX4_init_29 : decode cX4_init 29 = .ok (.new 9, 3) := by decide +kernel
theorem dX4_init_32 : decode cX4_init 32 = .ok (.dup, 1) := by decide +kernel
theorem dX4_init_33 : decode cX4_init 33 = .ok (.invokespecial 17, 3) := by decide +kernel
theorem dX4_init_36 : decode cX4_init 36 = .ok (.aastore, 1) := by decide +kernel
theorem dX4_init_37 : decode cX4_init 37 = .ok (.iinc 1 1, 3) := by decide +kernel
theorem dX4_init_40 : decode cX4_init 40 = .ok (.goto (-25), 3) := by decide +kernel
theorem dX4_init_43 : decode cX4_init 43 = .ok (.return_, 1) := by decide +kernel
theorem dX4_keep_0 : decode cX4_keep 0 = .ok (.aload_n 0, 1) := by decide +kernel
theorem dX4_keep_1 : decode cX4_keep 1 = .ok (.aload_n 0, 1) := by decide +kernel
theorem dX4_keep_2 : decode cX4_keep 2 = .ok (.getfield 18, 3) := by decide +kernel
theorem dX4_keep_5 : decode cX4_keep 5 = .ok (.invokevirtual 22, 3) := by decide +kernel
theorem dX4_keep_8 : decode cX4_keep 8 = .ok (.astore_n 2, 1) := by decide +kernel
theorem dX4_keep_9 : decode cX4_keep 9 = .ok (.aload_n 2, 1) := by decide +kernel
theorem dX4_keep_10 : decode cX4_keep 10 = .ok (.ifnull 8, 3) := by decide +kernel
theorem dX4_keep_13 : decode cX4_keep 13 = .ok (.aload_n 2, 1) := by decide +kernel
theorem dX4_keep_14 : decode cX4_keep 14 = .ok (.aload_n 1, 1) := by decide +kernel
theorem dX4_keep_15 : decode cX4_keep 15 = .ok (.invokevirtual 26, 3) := by decide +kernel
theorem dX4_keep_18 : decode cX4_keep 18 = .ok (.aload_n 0, 1) := by decide +kernel
theorem dX4_keep_19 : decode cX4_keep 19 = .ok (.aload_n 0, 1) := by decide +kernel
theorem dX4_keep_20 : decode cX4_keep 20 = .ok (.getfield 18, 3) := by decide +kernel
theorem dX4_keep_23 : decode cX4_keep 23 = .ok (.iconst 1, 1) := by decide +kernel
theorem dX4_keep_24 : decode cX4_keep 24 = .ok (.iadd, 1) := by decide +kernel
theorem dX4_keep_25 : decode cX4_keep 25 = .ok (.bipush 8, 2) := by decide +kernel
theorem dX4_keep_27 : decode cX4_keep 27 = .ok (.irem, 1) := by decide +kernel
theorem dX4_keep_28 : decode cX4_keep 28 = .ok (.putfield 18, 3) := by decide +kernel
theorem dX4_keep_31 : decode cX4_keep 31 = .ok (.aload_n 0, 1) := by decide +kernel
theorem dX4_keep_32 : decode cX4_keep 32 = .ok (.aload_n 0, 1) := by decide +kernel
theorem dX4_keep_33 : decode cX4_keep 33 = .ok (.getfield 30, 3) := by decide +kernel
theorem dX4_keep_36 : decode cX4_keep 36 = .ok (.iconst 1, 1) := by decide +kernel
theorem dX4_keep_37 : decode cX4_keep 37 = .ok (.iadd, 1) := by decide +kernel
theorem dX4_keep_38 : decode cX4_keep 38 = .ok (.bipush 8, 2) := by decide +kernel
theorem dX4_keep_40 : decode cX4_keep 40 = .ok (.invokestatic 33, 3) := by decide +kernel
theorem dX4_keep_43 : decode cX4_keep 43 = .ok (.putfield 30, 3) := by decide +kernel
theorem dX4_keep_46 : decode cX4_keep 46 = .ok (.return_, 1) := by decide +kernel
theorem dX4_takeBack_0 : decode cX4_takeBack 0 = .ok (.aload_n 0, 1) := by decide +kernel
theorem dX4_takeBack_1 : decode cX4_takeBack 1 = .ok (.getfield 30, 3) := by decide +kernel
theorem dX4_takeBack_4 : decode cX4_takeBack 4 = .ok (.ifCond .gt 5, 3) := by decide +kernel
theorem dX4_takeBack_7 : decode cX4_takeBack 7 = .ok (.iconst 0, 1) := by decide +kernel
theorem dX4_takeBack_8 : decode cX4_takeBack 8 = .ok (.ireturn, 1) := by decide +kernel
theorem dX4_takeBack_9 : decode cX4_takeBack 9 = .ok (.aload_n 0, 1) := by decide +kernel
theorem dX4_takeBack_10 : decode cX4_takeBack 10 = .ok (.aload_n 0, 1) := by decide +kernel
theorem dX4_takeBack_11 : decode cX4_takeBack 11 = .ok (.getfield 18, 3) := by decide +kernel
theorem dX4_takeBack_14 : decode cX4_takeBack 14 = .ok (.bipush 8, 2) := by decide +kernel
theorem dX4_takeBack_16 : decode cX4_takeBack 16 = .ok (.iadd, 1) := by decide +kernel
theorem dX4_takeBack_17 : decode cX4_takeBack 17 = .ok (.iconst 1, 1) := by decide +kernel
theorem dX4_takeBack_18 : decode cX4_takeBack 18 = .ok (.isub, 1) := by decide +kernel
theorem dX4_takeBack_19 : decode cX4_takeBack 19 = .ok (.bipush 8, 2) := by decide +kernel
theorem dX4_takeBack_21 : decode cX4_takeBack 21 = .ok (.irem, 1) := by decide +kernel
theorem dX4_takeBack_22 : decode cX4_takeBack 22 = .ok (.putfield 18, 3) := by decide +kernel
theorem dX4_takeBack_25 : decode cX4_takeBack 25 = .ok (.aload_n 0, 1) := by decide +kernel
theorem dX4_takeBack_26 : decode cX4_takeBack 26 = .ok (.dup, 1) := by decide +kernel
theorem dX4_takeBack_27 : decode cX4_takeBack 27 = .ok (.getfield 30, 3) := by decide +kernel
theorem dX4_takeBack_30 : decode cX4_takeBack 30 = .ok (.iconst 1, 1) := by decide +kernel
theorem dX4_takeBack_31 : decode cX4_takeBack 31 = .ok (.isub, 1) := by decide +kernel
theorem dX4_takeBack_32 : decode cX4_takeBack 32 = .ok (.putfield 30, 3) := by decide +kernel
theorem dX4_takeBack_35 : decode cX4_takeBack 35 = .ok (.aload_n 0, 1) := by decide +kernel
theorem dX4_takeBack_36 : decode cX4_takeBack 36 = .ok (.aload_n 0, 1) := by decide +kernel
theorem dX4_takeBack_37 : decode cX4_takeBack 37 = .ok (.getfield 18, 3) := by decide +kernel
theorem dX4_takeBack_40 : decode cX4_takeBack 40 = .ok (.invokevirtual 22, 3) := by decide +kernel
theorem dX4_takeBack_43 : decode cX4_takeBack 43 = .ok (.astore_n 2, 1) := by decide +kernel
theorem dX4_takeBack_44 : decode cX4_takeBack 44 = .ok (.aload_n 2, 1) := by decide +kernel
theorem dX4_takeBack_45 : decode cX4_takeBack 45 = .ok (.ifnull 8, 3) := by decide +kernel
theorem dX4_takeBack_48 : decode cX4_takeBack 48 = .ok (.aload_n 1, 1) := by decide +kernel
theorem dX4_takeBack_49 : decode cX4_takeBack 49 = .ok (.aload_n 2, 1) := by decide +kernel
theorem dX4_takeBack_50 : decode cX4_takeBack 50 = .ok (.invokevirtual 26, 3) := by decide +kernel
theorem dX4_takeBack_53 : decode cX4_takeBack 53 = .ok (.iconst 1, 1) := by decide +kernel
theorem dX4_takeBack_54 : decode cX4_takeBack 54 = .ok (.ireturn, 1) := by decide +kernel
theorem dX4_placeAt_0 : decode cX4_placeAt 0 = .ok (.iload_n 1, 1) := by decide +kernel
theorem dX4_placeAt_1 : decode cX4_placeAt 1 = .ok (.ifCond .lt 21, 3) := by decide +kernel
theorem dX4_placeAt_4 : decode cX4_placeAt 4 = .ok (.iload_n 1, 1) := by decide +kernel
theorem dX4_placeAt_5 : decode cX4_placeAt 5 = .ok (.aload_n 0, 1) := by decide +kernel
theorem dX4_placeAt_6 : decode cX4_placeAt 6 = .ok (.getfield 11, 3) := by decide +kernel
theorem dX4_placeAt_9 : decode cX4_placeAt 9 = .ok (.arraylength, 1) := by decide +kernel
theorem dX4_placeAt_10 : decode cX4_placeAt 10 = .ok (.if_icmp .ge 12, 3) := by decide +kernel
theorem dX4_placeAt_13 : decode cX4_placeAt 13 = .ok (.aload_n 0, 1) := by decide +kernel
theorem dX4_placeAt_14 : decode cX4_placeAt 14 = .ok (.getfield 11, 3) := by decide +kernel
theorem dX4_placeAt_17 : decode cX4_placeAt 17 = .ok (.iload_n 1, 1) := by decide +kernel
theorem dX4_placeAt_18 : decode cX4_placeAt 18 = .ok (.aaload, 1) := by decide +kernel
theorem dX4_placeAt_19 : decode cX4_placeAt 19 = .ok (.goto 4, 3) := by decide +kernel
theorem dX4_placeAt_22 : decode cX4_placeAt 22 = .ok (.aconst_null, 1) := by decide +kernel
theorem dX4_placeAt_23 : decode cX4_placeAt 23 = .ok (.areturn, 1) := by decide +kernel
theorem dX5_init_0 : decode cX5_init 0 = .ok (.aload_n 0, 1) := by decide +kernel
theorem dX5_init_1 : decode cX5_init 1 = .ok (.invokespecial 1, 3) := by decide +kernel
theorem dX5_init_4 : decode cX5_init 4 = .ok (.aload_n 0, 1) := by decide +kernel
theorem dX5_init_5 : decode cX5_init 5 = .ok (.new 7, 3) := by decide +kernel
theorem dX5_init_8 : decode cX5_init 8 = .ok (.dup, 1) := by decide +kernel
theorem dX5_init_9 : decode cX5_init 9 = .ok (.invokespecial 9, 3) := by decide +kernel
theorem dX5_init_12 : decode cX5_init 12 = .ok (.putfield 10, 3) := by decide +kernel
theorem dX5_init_15 : decode cX5_init 15 = .ok (.aload_n 0, 1) := by decide +kernel
theorem dX5_init_16 : decode cX5_init 16 = .ok (.iload_n 1, 1) := by decide +kernel
theorem dX5_init_17 : decode cX5_init 17 = .ok (.ifCond .le 7, 3) := by decide +kernel
theorem dX5_init_20 : decode cX5_init 20 = .ok (.iload_n 1, 1) := by decide +kernel
theorem dX5_init_21 : decode cX5_init 21 = .ok (.goto 4, 3) := by decide +kernel
theorem dX5_init_24 : decode cX5_init 24 = .ok (.iconst 0, 1) := by decide +kernel
theorem dX5_init_25 : decode cX5_init 25 = .ok (.anewarray 7, 3) := by decide +kernel
theorem dX5_init_28 : decode cX5_init 28 = .ok (.putfield 16, 3) := by decide +kernel
theorem dX5_init_31 : decode cX5_init 31 = .ok (.iconst 0, 1) := by decide +kernel
theorem dX5_init_32 : decode cX5_init 32 = .ok (.istore_n 2, 1) := by decide +kernel
theorem dX5_init_33 : decode cX5_init 33 = .ok (.iload_n 2, 1) := by decide +kernel
theorem dX5_init_34 : decode cX5_init 34 = .ok (.aload_n 0, 1) := by decide +kernel
theorem dX5_init_35 : decode cX5_init 35 = .ok (.getfield 16, 3) := by decide +kernel
theorem dX5_init_38 : decode cX5_init 38 = .ok (.arraylength, 1) := by decide +kernel
theorem dX5_init_39 : decode cX5_init 39 = .ok (.if_icmp .ge 22, 3) := by decide +kernel
theorem dX5_init_42 : decode cX5_init 42 = .ok (.aload_n 0, 1) := by decide +kernel
theorem dX5_init_43 : decode cX5_init 43 = .ok (.getfield 16, 3) := by decide +kernel
theorem dX5_init_46 : decode cX5_init 46 = .ok (.iload_n 2, 1) := by decide +kernel
theorem dX5_init_47 : decode cX5_init 47 = .ok (.new 7, 3) := by decide +kernel
theorem dX5_init_50 : decode cX5_init 50 = .ok (.dup, 1) := by decide +kernel
theorem dX5_init_51 : decode cX5_init 51 = .ok (.invokespecial 9, 3) := by decide +kernel
theorem dX5_init_54 : decode cX5_init 54 = .ok (.aastore, 1) := by decide +kernel
theorem dX5_init_55 : decode cX5_init 55 = .ok (.iinc 2 1, 3) := by decide +kernel
theorem dX5_init_58 : decode cX5_init 58 = .ok (.goto (-25), 3) := by decide +kernel
theorem dX5_init_61 : decode cX5_init 61 = .ok (.return_, 1) := by decide +kernel
theorem dX5_at_0 : decode cX5_at 0 = .ok (.iload_n 1, 1) := by decide +kernel
theorem dX5_at_1 : decode cX5_at 1 = .ok (.ifCond .lt 21, 3) := by decide +kernel
theorem dX5_at_4 : decode cX5_at 4 = .ok (.iload_n 1, 1) := by decide +kernel
theorem dX5_at_5 : decode cX5_at 5 = .ok (.aload_n 0, 1) := by decide +kernel
theorem dX5_at_6 : decode cX5_at 6 = .ok (.getfield 16, 3) := by decide +kernel
theorem dX5_at_9 : decode cX5_at 9 = .ok (.arraylength, 1) := by decide +kernel
theorem dX5_at_10 : decode cX5_at 10 = .ok (.if_icmp .ge 12, 3) := by decide +kernel
theorem dX5_at_13 : decode cX5_at 13 = .ok (.aload_n 0, 1) := by decide +kernel
theorem dX5_at_14 : decode cX5_at 14 = .ok (.getfield 16, 3) := by decide +kernel
theorem dX5_at_17 : decode cX5_at 17 = .ok (.iload_n 1, 1) := by decide +kernel
theorem dX5_at_18 : decode cX5_at 18 = .ok (.aaload, 1) := by decide +kernel
theorem dX5_at_19 : decode cX5_at 19 = .ok (.goto 4, 3) := by decide +kernel
theorem dX5_at_22 : decode cX5_at 22 = .ok (.aconst_null, 1) := by decide +kernel
theorem dX5_at_23 : decode cX5_at 23 = .ok (.astore_n 2, 1) := by decide +kernel
theorem dX5_at_24 : decode cX5_at 24 = .ok (.aload_n 2, 1) := by decide +kernel
theorem dX5_at_25 : decode cX5_at 25 = .ok (.ifnonnull 10, 3) := by decide +kernel
theorem dX5_at_28 : decode cX5_at 28 = .ok (.aload_n 0, 1) := by decide +kernel
theorem dX5_at_29 : decode cX5_at 29 = .ok (.getfield 10, 3) := by decide +kernel
theorem dX5_at_32 : decode cX5_at 32 = .ok (.goto 4, 3) := by decide +kernel
theorem dX5_at_35 : decode cX5_at 35 = .ok (.aload_n 2, 1) := by decide +kernel
theorem dX5_at_36 : decode cX5_at 36 = .ok (.areturn, 1) := by decide +kernel
theorem dX5_clear_0 : decode cX5_clear 0 = .ok (.iconst 0, 1) := by decide +kernel
theorem dX5_clear_1 : decode cX5_clear 1 = .ok (.istore_n 1, 1) := by decide +kernel
theorem dX5_clear_2 : decode cX5_clear 2 = .ok (.iload_n 1, 1) := by decide +kernel
theorem dX5_clear_3 : decode cX5_clear 3 = .ok (.aload_n 0, 1) := by decide +kernel
theorem dX5_clear_4 : decode cX5_clear 4 = .ok (.getfield 16, 3) := by decide +kernel
theorem dX5_clear_7 : decode cX5_clear 7 = .ok (.arraylength, 1) := by decide +kernel
theorem dX5_clear_8 : decode cX5_clear 8 = .ok (.if_icmp .ge 17, 3) := by decide +kernel
theorem dX5_clear_11 : decode cX5_clear 11 = .ok (.aload_n 0, 1) := by decide +kernel
theorem dX5_clear_12 : decode cX5_clear 12 = .ok (.iload_n 1, 1) := by decide +kernel
theorem dX5_clear_13 : decode cX5_clear 13 = .ok (.invokevirtual 20, 3) := by decide +kernel
theorem dX5_clear_16 : decode cX5_clear 16 = .ok (.invokevirtual 24, 3) := by decide +kernel
theorem dX5_clear_19 : decode cX5_clear 19 = .ok (.iinc 1 1, 3) := by decide +kernel
theorem dX5_clear_22 : decode cX5_clear 22 = .ok (.goto (-20), 3) := by decide +kernel
theorem dX5_clear_25 : decode cX5_clear 25 = .ok (.return_, 1) := by decide +kernel
theorem dX6_init_0 : decode cX6_init 0 = .ok (.aload_n 0, 1) := by decide +kernel
theorem dX6_init_1 : decode cX6_init 1 = .ok (.invokespecial 3, 3) := by decide +kernel
theorem dX6_init_4 : decode cX6_init 4 = .ok (.aload_n 0, 1) := by decide +kernel
theorem dX6_init_5 : decode cX6_init 5 = .ok (.new 9, 3) := by decide +kernel
theorem dX6_init_8 : decode cX6_init 8 = .ok (.dup, 1) := by decide +kernel
theorem dX6_init_9 : decode cX6_init 9 = .ok (.sipush 600, 3) := by decide +kernel
theorem dX6_init_12 : decode cX6_init 12 = .ok (.invokespecial 11, 3) := by decide +kernel
theorem dX6_init_15 : decode cX6_init 15 = .ok (.putfield 14, 3) := by decide +kernel
theorem dX6_init_18 : decode cX6_init 18 = .ok (.aload_n 0, 1) := by decide +kernel
theorem dX6_init_19 : decode cX6_init 19 = .ok (.new 20, 3) := by decide +kernel
theorem dX6_init_22 : decode cX6_init 22 = .ok (.dup, 1) := by decide +kernel
theorem dX6_init_23 : decode cX6_init 23 = .ok (.invokespecial 22, 3) := by decide +kernel
theorem dX6_init_26 : decode cX6_init 26 = .ok (.putfield 23, 3) := by decide +kernel
theorem dX6_init_29 : decode cX6_init 29 = .ok (.return_, 1) := by decide +kernel
theorem dX6_addBytes_0 : decode cX6_addBytes 0 = .ok (.bipush 24, 2) := by decide +kernel
theorem dX6_addBytes_2 : decode cX6_addBytes 2 = .ok (.istore_n 2, 1) := by decide +kernel
theorem dX6_addBytes_3 : decode cX6_addBytes 3 = .ok (.iload_n 2, 1) := by decide +kernel
theorem dX6_addBytes_4 : decode cX6_addBytes 4 = .ok (.ifCond .lt 37, 3) := by decide +kernel
theorem dX6_addBytes_7 : decode cX6_addBytes 7 = .ok (.aload_n 0, 1) := by decide +kernel
theorem dX6_addBytes_8 : decode cX6_addBytes 8 = .ok (.getfield 14, 3) := by decide +kernel
theorem dX6_addBytes_11 : decode cX6_addBytes 11 = .ok (.aload_n 0, 1) := by decide +kernel
theorem dX6_addBytes_12 : decode cX6_addBytes 12 = .ok (.getfield 27, 3) := by decide +kernel
theorem dX6_addBytes_15 : decode cX6_addBytes 15 = .ok (.iload_n 1, 1) := by decide +kernel
theorem dX6_addBytes_16 : decode cX6_addBytes 16 = .ok (.iload_n 2, 1) := by decide +kernel
theorem dX6_addBytes_17 : decode cX6_addBytes 17 = .ok (.iushr, 1) := by decide +kernel
theorem dX6_addBytes_18 : decode cX6_addBytes 18 = .ok (.sipush 255, 3) := by decide +kernel
theorem dX6_addBytes_21 : decode cX6_addBytes 21 = .ok (.iand, 1) := by decide +kernel
theorem dX6_addBytes_22 : decode cX6_addBytes 22 = .ok (.invokevirtual 31, 3) := by decide +kernel
theorem dX6_addBytes_25 : decode cX6_addBytes 25 = .ok (.aload_n 0, 1) := by decide +kernel
theorem dX6_addBytes_26 : decode cX6_addBytes 26 = .ok (.dup, 1) := by decide +kernel
theorem dX6_addBytes_27 : decode cX6_addBytes 27 = .ok (.getfield 27, 3) := by decide +kernel
theorem dX6_addBytes_30 : decode cX6_addBytes 30 = .ok (.iconst 1, 1) := by decide +kernel
theorem dX6_addBytes_31 : decode cX6_addBytes 31 = .ok (.iadd, 1) := by decide +kernel
theorem dX6_addBytes_32 : decode cX6_addBytes 32 = .ok (.putfield 27, 3) := by decide +kernel
theorem dX6_addBytes_35 : decode cX6_addBytes 35 = .ok (.iinc 2 (-8), 3) := by decide +kernel
theorem dX6_addBytes_38 : decode cX6_addBytes 38 = .ok (.goto (-35), 3) := by decide +kernel
theorem dX6_addBytes_41 : decode cX6_addBytes 41 = .ok (.return_, 1) := by decide +kernel
theorem dX6_read_0 : decode cX6_read 0 = .ok (.aload_n 0, 1) := by decide +kernel
theorem dX6_read_1 : decode cX6_read 1 = .ok (.iload_n 1, 1) := by decide +kernel
theorem dX6_read_2 : decode cX6_read 2 = .ok (.putfield 35, 3) := by decide +kernel
theorem dX6_read_5 : decode cX6_read 5 = .ok (.aload_n 0, 1) := by decide +kernel
theorem dX6_read_6 : decode cX6_read 6 = .ok (.iconst 0, 1) := by decide +kernel
theorem dX6_read_7 : decode cX6_read 7 = .ok (.putfield 27, 3) := by decide +kernel
theorem dX6_read_10 : decode cX6_read 10 = .ok (.aload_n 0, 1) := by decide +kernel
theorem dX6_read_11 : decode cX6_read 11 = .ok (.iconst 0, 1) := by decide +kernel
theorem dX6_read_12 : decode cX6_read 12 = .ok (.putfield 38, 3) := by decide +kernel
theorem dX6_read_15 : decode cX6_read 15 = .ok (.aload_n 0, 1) := by decide +kernel
theorem dX6_read_16 : decode cX6_read 16 = .ok (.iconst 0, 1) := by decide +kernel
theorem dX6_read_17 : decode cX6_read 17 = .ok (.putfield 41, 3) := by decide +kernel
theorem dX6_read_20 : decode cX6_read 20 = .ok (.aload_n 0, 1) := by decide +kernel
theorem dX6_read_21 : decode cX6_read 21 = .ok (.iconst (-1), 1) := by decide +kernel
theorem dX6_read_22 : decode cX6_read 22 = .ok (.putfield 44, 3) := by decide +kernel
theorem dX6_read_25 : decode cX6_read 25 = .ok (.aload_n 0, 1) := by decide +kernel
theorem dX6_read_26 : decode cX6_read 26 = .ok (.invokevirtual 47, 3) := by decide +kernel
theorem dX6_read_29 : decode cX6_read 29 = .ok (.aload_n 0, 1) := by decide +kernel
theorem dX6_read_30 : decode cX6_read 30 = .ok (.invokevirtual 50, 3) := by decide +kernel
theorem dX6_read_33 : decode cX6_read 33 = .ok (.iconst 0, 1) := by decide +kernel
theorem dX6_read_34 : decode cX6_read 34 = .ok (.istore_n 2, 1) := by decide +kernel
theorem dX6_read_35 : decode cX6_read 35 = .ok (.iload_n 2, 1) := by decide +kernel
theorem dX6_read_36 : decode cX6_read 36 = .ok (.sipush 600, 3) := by decide +kernel
theorem dX6_read_39 : decode cX6_read 39 = .ok (.if_icmp .ge 113, 3) := by decide +kernel
theorem dX6_read_42 : decode cX6_read 42 = .ok (.aload_n 0, 1) := by decide +kernel
theorem dX6_read_43 : decode cX6_read 43 = .ok (.getfield 41, 3) := by decide +kernel
theorem dX6_read_46 : decode cX6_read 46 = .ok (.ifCond .ne 106, 3) := by decide +kernel
theorem dX6_read_49 : decode cX6_read 49 = .ok (.aload_n 0, 1) := by decide +kernel
theorem dX6_read_50 : decode cX6_read 50 = .ok (.getfield 53, 3) := by decide +kernel
theorem dX6_read_53 : decode cX6_read 53 = .ok (.ifCond .eq 99, 3) := by decide +kernel
theorem dX6_read_56 : decode cX6_read 56 = .ok (.aload_n 0, 1) := by decide +kernel
theorem dX6_read_57 : decode cX6_read 57 = .ok (.ldc 56, 2) := by decide +kernel
theorem dX6_read_59 : decode cX6_read 59 = .ok (.invokevirtual 58, 3) := by decide +kernel
theorem dX6_read_62 : decode cX6_read 62 = .ok (.ifCond .eq 10, 3) := by decide +kernel
theorem dX6_read_65 : decode cX6_read 65 = .ok (.aload_n 0, 1) := by decide +kernel
theorem dX6_read_66 : decode cX6_read 66 = .ok (.invokevirtual 62, 3) := by decide +kernel
theorem dX6_read_69 : decode cX6_read 69 = .ok (.goto 77, 3) := by decide +kernel
theorem dX6_read_72 : decode cX6_read 72 = .ok (.aload_n 0, 1) := by decide +kernel
theorem dX6_read_73 : decode cX6_read 73 = .ok (.ldc 65, 2) := by decide +kernel
theorem dX6_read_75 : decode cX6_read 75 = .ok (.invokevirtual 58, 3) := by decide +kernel
theorem dX6_read_78 : decode cX6_read 78 = .ok (.ifCond .eq 10, 3) := by decide +kernel
theorem dX6_read_81 : decode cX6_read 81 = .ok (.aload_n 0, 1) := by decide +kernel
theorem dX6_read_82 : decode cX6_read 82 = .ok (.invokevirtual 67, 3) := by decide +kernel
theorem dX6_read_85 : decode cX6_read 85 = .ok (.goto 61, 3) := by decide +kernel
theorem dX6_read_88 : decode cX6_read 88 = .ok (.aload_n 0, 1) := by decide +kernel
theorem dX6_read_89 : decode cX6_read 89 = .ok (.ldc 70, 2) := by decide +kernel
theorem dX6_read_91 : decode cX6_read 91 = .ok (.invokevirtual 58, 3) := by decide +kernel
theorem dX6_read_94 : decode cX6_read 94 = .ok (.ifCond .eq 10, 3) := by decide +kernel
theorem dX6_read_97 : decode cX6_read 97 = .ok (.aload_n 0, 1) := by decide +kernel
theorem dX6_read_98 : decode cX6_read 98 = .ok (.invokevirtual 72, 3) := by decide +kernel
theorem dX6_read_101 : decode cX6_read 101 = .ok (.goto 45, 3) := by decide +kernel
theorem dX6_read_104 : decode cX6_read 104 = .ok (.aload_n 0, 1) := by decide +kernel
theorem dX6_read_105 : decode cX6_read 105 = .ok (.ldc 75, 2) := by decide +kernel
theorem dX6_read_107 : decode cX6_read 107 = .ok (.invokevirtual 58, 3) := by decide +kernel
theorem dX6_read_110 : decode cX6_read 110 = .ok (.ifCond .eq 10, 3) := by decide +kernel
theorem dX6_read_113 : decode cX6_read 113 = .ok (.aload_n 0, 1) := by decide +kernel
theorem dX6_read_114 : decode cX6_read 114 = .ok (.invokevirtual 77, 3) := by decide +kernel
theorem dX6_read_117 : decode cX6_read 117 = .ok (.goto 29, 3) := by decide +kernel
theorem dX6_read_120 : decode cX6_read 120 = .ok (.aload_n 0, 1) := by decide +kernel
theorem dX6_read_121 : decode cX6_read 121 = .ok (.ldc 80, 2) := by decide +kernel
theorem dX6_read_123 : decode cX6_read 123 = .ok (.invokevirtual 58, 3) := by decide +kernel
theorem dX6_read_126 : decode cX6_read 126 = .ok (.ifCond .eq 10, 3) := by decide +kernel
theorem dX6_read_129 : decode cX6_read 129 = .ok (.aload_n 0, 1) := by decide +kernel
theorem dX6_read_130 : decode cX6_read 130 = .ok (.invokevirtual 82, 3) := by decide +kernel
theorem dX6_read_133 : decode cX6_read 133 = .ok (.goto 13, 3) := by decide +kernel
theorem dX6_read_136 : decode cX6_read 136 = .ok (.aload_n 0, 1) := by decide +kernel
theorem dX6_read_137 : decode cX6_read 137 = .ok (.bipush (-2), 2) := by decide +kernel
theorem dX6_read_139 : decode cX6_read 139 = .ok (.aload_n 0, 1) := by decide +kernel
theorem dX6_read_140 : decode cX6_read 140 = .ok (.getfield 85, 3) := by decide +kernel
theorem dX6_read_143 : decode cX6_read 143 = .ok (.invokevirtual 88, 3) := by decide +kernel
theorem dX6_read_146 : decode cX6_read 146 = .ok (.iinc 2 1, 3) := by decide +kernel
theorem dX6_read_149 : decode cX6_read 149 = .ok (.goto (-114), 3) := by decide +kernel
theorem dX6_read_152 : decode cX6_read 152 = .ok (.aload_n 0, 1) := by decide +kernel
theorem dX6_read_153 : decode cX6_read 153 = .ok (.getfield 23, 3) := by decide +kernel
theorem dX6_read_156 : decode cX6_read 156 = .ok (.getfield 91, 3) := by decide +kernel
theorem dX6_read_159 : decode cX6_read 159 = .ok (.ifCond .ne 21, 3) := by decide +kernel
theorem dX6_read_162 : decode cX6_read 162 = .ok (.aload_n 0, 1) := by decide +kernel
theorem dX6_read_163 : decode cX6_read 163 = .ok (.getfield 23, 3) := by decide +kernel
theorem dX6_read_166 : decode cX6_read 166 = .ok (.aload_n 0, 1) := by decide +kernel
theorem dX6_read_167 : decode cX6_read 167 = .ok (.getfield 23, 3) := by decide +kernel
theorem dX6_read_170 : decode cX6_read 170 = .ok (.getfield 93, 3) := by decide +kernel
theorem dX6_read_173 : decode cX6_read 173 = .ok (.iconst 0, 1) := by decide +kernel
theorem dX6_read_174 : decode cX6_read 174 = .ok (.invokevirtual 97, 3) := by decide +kernel
theorem dX6_read_177 : decode cX6_read 177 = .ok (.putfield 91, 3) := by decide +kernel
theorem dX6_read_180 : decode cX6_read 180 = .ok (.aload_n 0, 1) := by decide +kernel
theorem dX6_read_181 : decode cX6_read 181 = .ok (.getfield 41, 3) := by decide +kernel
theorem dX6_read_184 : decode cX6_read 184 = .ok (.ireturn, 1) := by decide +kernel
theorem dX6_readMap_0 : decode cX6_readMap 0 = .ok (.aload_n 0, 1) := by decide +kernel
theorem dX6_readMap_1 : decode cX6_readMap 1 = .ok (.ldc 103, 2) := by decide +kernel
theorem dX6_readMap_3 : decode cX6_readMap 3 = .ok (.invokevirtual 105, 3) := by decide +kernel
theorem dX6_readMap_6 : decode cX6_readMap 6 = .ok (.aload_n 0, 1) := by decide +kernel
theorem dX6_readMap_7 : decode cX6_readMap 7 = .ok (.iconst 1, 1) := by decide +kernel
theorem dX6_readMap_8 : decode cX6_readMap 8 = .ok (.bipush 20, 2) := by decide +kernel
theorem dX6_readMap_10 : decode cX6_readMap 10 = .ok (.invokevirtual 109, 3) := by decide +kernel
theorem dX6_readMap_13 : decode cX6_readMap 13 = .ok (.istore_n 1, 1) := by decide +kernel
theorem dX6_readMap_14 : decode cX6_readMap 14 = .ok (.aload_n 0, 1) := by decide +kernel
theorem dX6_readMap_15 : decode cX6_readMap 15 = .ok (.iconst 1, 1) := by decide +kernel
theorem dX6_readMap_16 : decode cX6_readMap 16 = .ok (.bipush 20, 2) := by decide +kernel
theorem dX6_readMap_18 : decode cX6_readMap 18 = .ok (.invokevirtual 109, 3) := by decide +kernel
theorem dX6_readMap_21 : decode cX6_readMap 21 = .ok (.istore_n 2, 1) := by decide +kernel
theorem dX6_readMap_22 : decode cX6_readMap 22 = .ok (.aload_n 0, 1) := by decide +kernel
theorem dX6_readMap_23 : decode cX6_readMap 23 = .ok (.invokevirtual 113, 3) := by decide +kernel
theorem dX6_readMap_26 : decode cX6_readMap 26 = .ok (.aload_n 0, 1) := by decide +kernel
theorem dX6_readMap_27 : decode cX6_readMap 27 = .ok (.getfield 23, 3) := by decide +kernel
theorem dX6_readMap_30 : decode cX6_readMap 30 = .ok (.iload_n 1, 1) := by decide +kernel
theorem dX6_readMap_31 : decode cX6_readMap 31 = .ok (.iload_n 2, 1) := by decide +kernel
theorem dX6_readMap_32 : decode cX6_readMap 32 = .ok (.invokevirtual 116, 3) := by decide +kernel
theorem dX6_readMap_35 : decode cX6_readMap 35 = .ok (.return_, 1) := by decide +kernel
theorem dX6_readWater_0 : decode cX6_readWater 0 = .ok (.aload_n 0, 1) := by decide +kernel
theorem dX6_readWater_1 : decode cX6_readWater 1 = .ok (.invokevirtual 47, 3) := by decide +kernel
theorem dX6_readWater_4 : decode cX6_readWater 4 = .ok (.aload_n 0, 1) := by decide +kernel
theorem dX6_readWater_5 : decode cX6_readWater 5 = .ok (.getfield 85, 3) := by decide +kernel
theorem dX6_readWater_8 : decode cX6_readWater 8 = .ok (.istore_n 1, 1) := by decide +kernel
theorem dX6_readWater_9 : decode cX6_readWater 9 = .ok (.aload_n 0, 1) := by decide +kernel
theorem dX6_readWater_10 : decode cX6_readWater 10 = .ok (.invokevirtual 119, 3) := by decide +kernel
theorem dX6_readWater_13 : decode cX6_readWater 13 = .ok (.aload_n 0, 1) := by decide +kernel
theorem dX6_readWater_14 : decode cX6_readWater 14 = .ok (.getfield 23, 3) := by decide +kernel
theorem dX6_readWater_17 : decode cX6_readWater 17 = .ok (.aload_n 0, 1) := by decide +kernel
theorem dX6_readWater_18 : decode cX6_readWater 18 = .ok (.getfield 122, 3) := by decide +kernel
theorem dX6_readWater_21 : decode cX6_readWater 21 = .ok (.aload_n 0, 1) := by decide +kernel
theorem dX6_readWater_22 : decode cX6_readWater 22 = .ok (.getfield 125, 3) := by decide +kernel
theorem dX6_readWater_25 : decode cX6_readWater 25 = .ok (.invokevirtual 128, 3) := by decide +kernel
theorem dX6_readWater_28 : decode cX6_readWater 28 = .ok (.ifCond .ne 24, 3) := by decide +kernel
theorem dX6_readWater_31 : decode cX6_readWater 31 = .ok (.aload_n 0, 1) := by decide +kernel
theorem dX6_readWater_32 : decode cX6_readWater 32 = .ok (.getfield 122, 3) := by decide +kernel
theorem dX6_readWater_35 : decode cX6_readWater 35 = .ok (.aload_n 0, 1) := by decide +kernel
theorem dX6_readWater_36 : decode cX6_readWater 36 = .ok (.getfield 125, 3) := by decide +kernel
theorem dX6_readWater_39 : decode cX6_readWater 39 = .ok (.aload_n 0, 1) := by decide +kernel
theorem dX6_readWater_40 : decode cX6_readWater 40 = .ok (.getfield 23, 3) := by decide +kernel
theorem dX6_readWater_43 : decode cX6_readWater 43 = .ok (.getfield 91, 3) := by decide +kernel
theorem dX6_readWater_46 : decode cX6_readWater 46 = .ok (.invokestatic 132, 3) := by decide +kernel
theorem dX6_readWater_49 : decode cX6_readWater 49 = .ok (.ifCond .eq 10, 3) := by decide +kernel
theorem dX6_readWater_52 : decode cX6_readWater 52 = .ok (.aload_n 0, 1) := by decide +kernel
theorem dX6_readWater_53 : decode cX6_readWater 53 = .ok (.bipush (-7), 2) := by decide +kernel
theorem dX6_readWater_55 : decode cX6_readWater 55 = .ok (.iload_n 1, 1) := by decide +kernel
theorem dX6_readWater_56 : decode cX6_readWater 56 = .ok (.invokevirtual 88, 3) := by decide +kernel
theorem dX6_readWater_59 : decode cX6_readWater 59 = .ok (.aload_n 0, 1) := by decide +kernel
theorem dX6_readWater_60 : decode cX6_readWater 60 = .ok (.getfield 23, 3) := by decide +kernel
theorem dX6_readWater_63 : decode cX6_readWater 63 = .ok (.aload_n 0, 1) := by decide +kernel
theorem dX6_readWater_64 : decode cX6_readWater 64 = .ok (.getfield 122, 3) := by decide +kernel
theorem dX6_readWater_67 : decode cX6_readWater 67 = .ok (.aload_n 0, 1) := by decide +kernel
theorem dX6_readWater_68 : decode cX6_readWater 68 = .ok (.getfield 125, 3) := by decide +kernel
theorem dX6_readWater_71 : decode cX6_readWater 71 = .ok (.invokevirtual 136, 3) := by decide +kernel
theorem dX6_readWater_74 : decode cX6_readWater 74 = .ok (.aload_n 0, 1) := by decide +kernel
theorem dX6_readWater_75 : decode cX6_readWater 75 = .ok (.getfield 85, 3) := by decide +kernel
theorem dX6_readWater_78 : decode cX6_readWater 78 = .ok (.istore_n 1, 1) := by decide +kernel
theorem dX6_readWater_79 : decode cX6_readWater 79 = .ok (.aload_n 0, 1) := by decide +kernel
theorem dX6_readWater_80 : decode cX6_readWater 80 = .ok (.invokevirtual 113, 3) := by decide +kernel
theorem dX6_readWater_83 : decode cX6_readWater 83 = .ok (.aload_n 0, 1) := by decide +kernel
theorem dX6_readWater_84 : decode cX6_readWater 84 = .ok (.getfield 23, 3) := by decide +kernel
theorem dX6_readWater_87 : decode cX6_readWater 87 = .ok (.getfield 93, 3) := by decide +kernel
theorem dX6_readWater_90 : decode cX6_readWater 90 = .ok (.invokevirtual 139, 3) := by decide +kernel
theorem dX6_readWater_93 : decode cX6_readWater 93 = .ok (.ifCond .ne 10, 3) := by decide +kernel
theorem dX6_readWater_96 : decode cX6_readWater 96 = .ok (.aload_n 0, 1) := by decide +kernel
theorem dX6_readWater_97 : decode cX6_readWater 97 = .ok (.bipush (-7), 2) := by decide +kernel
theorem dX6_readWater_99 : decode cX6_readWater 99 = .ok (.iload_n 1, 1) := by decide +kernel
theorem dX6_readWater_100 : decode cX6_readWater 100 = .ok (.invokevirtual 88, 3) := by decide +kernel
theorem dX6_readWater_103 : decode cX6_readWater 103 = .ok (.return_, 1) := by decide +kernel
theorem dX6_readBend_0 : decode cX6_readBend 0 = .ok (.aload_n 0, 1) := by decide +kernel
theorem dX6_readBend_1 : decode cX6_readBend 1 = .ok (.getfield 23, 3) := by decide +kernel
theorem dX6_readBend_4 : decode cX6_readBend 4 = .ok (.getfield 143, 3) := by decide +kernel
theorem dX6_readBend_7 : decode cX6_readBend 7 = .ok (.bipush 8, 2) := by decide +kernel
theorem dX6_readBend_9 : decode cX6_readBend 9 = .ok (.if_icmp .lt 13, 3) := by decide +kernel
theorem dX6_readBend_12 : decode cX6_readBend 12 = .ok (.aload_n 0, 1) := by decide +kernel
theorem dX6_readBend_13 : decode cX6_readBend 13 = .ok (.bipush (-6), 2) := by decide +kernel
theorem dX6_readBend_15 : decode cX6_readBend 15 = .ok (.aload_n 0, 1) := by decide +kernel
theorem dX6_readBend_16 : decode cX6_readBend 16 = .ok (.getfield 85, 3) := by decide +kernel
theorem dX6_readBend_19 : decode cX6_readBend 19 = .ok (.invokevirtual 88, 3) := by decide +kernel
theorem dX6_readBend_22 : decode cX6_readBend 22 = .ok (.aload_n 0, 1) := by decide +kernel
theorem dX6_readBend_23 : decode cX6_readBend 23 = .ok (.invokevirtual 47, 3) := by decide +kernel
theorem dX6_readBend_26 : decode cX6_readBend 26 = .ok (.aload_n 0, 1) := by decide +kernel
theorem dX6_readBend_27 : decode cX6_readBend 27 = .ok (.invokevirtual 119, 3) := by decide +kernel
theorem dX6_readBend_30 : decode cX6_readBend 30 = .ok (.aload_n 0, 1) := by decide +kernel
theorem dX6_readBend_31 : decode cX6_readBend 31 = .ok (.ldc 146, 2) := by decide +kernel
theorem dX6_readBend_33 : decode cX6_readBend 33 = .ok (.invokevirtual 58, 3) := by decide +kernel
theorem dX6_readBend_36 : decode cX6_readBend 36 = .ok (.istore_n 1, 1) := by decide +kernel
theorem dX6_readBend_37 : decode cX6_readBend 37 = .ok (.iload_n 1, 1) := by decide +kernel
theorem dX6_readBend_38 : decode cX6_readBend 38 = .ok (.ifCond .eq 10, 3) := by decide +kernel
theorem dX6_readBend_41 : decode cX6_readBend 41 = .ok (.aload_n 0, 1) := by decide +kernel
theorem dX6_readBend_42 : decode cX6_readBend 42 = .ok (.invokevirtual 47, 3) := by decide +kernel
theorem dX6_readBend_45 : decode cX6_readBend 45 = .ok (.goto 9, 3) := by decide +kernel
theorem dX6_readBend_48 : decode cX6_readBend 48 = .ok (.aload_n 0, 1) := by decide +kernel
theorem dX6_readBend_49 : decode cX6_readBend 49 = .ok (.ldc 148, 2) := by decide +kernel
theorem dX6_readBend_51 : decode cX6_readBend 51 = .ok (.invokevirtual 105, 3) := by decide +kernel
theorem dX6_readBend_54 : decode cX6_readBend 54 = .ok (.aload_n 0, 1) := by decide +kernel
theorem dX6_readBend_55 : decode cX6_readBend 55 = .ok (.iconst 1, 1) := by decide +kernel
theorem dX6_readBend_56 : decode cX6_readBend 56 = .ok (.iconst 3, 1) := by decide +kernel
theorem dX6_readBend_57 : decode cX6_readBend 57 = .ok (.invokevirtual 109, 3) := by decide +kernel
theorem dX6_readBend_60 : decode cX6_readBend 60 = .ok (.istore_n 2, 1) := by decide +kernel
theorem dX6_readBend_61 : decode cX6_readBend 61 = .ok (.aload_n 0, 1) := by decide +kernel
theorem dX6_readBend_62 : decode cX6_readBend 62 = .ok (.invokevirtual 113, 3) := by decide +kernel
theorem dX6_readBend_65 : decode cX6_readBend 65 = .ok (.aload_n 0, 1) := by decide +kernel
theorem dX6_readBend_66 : decode cX6_readBend 66 = .ok (.getfield 23, 3) := by decide +kernel
theorem dX6_readBend_69 : decode cX6_readBend 69 = .ok (.aload_n 0, 1) := by decide +kernel
theorem dX6_readBend_70 : decode cX6_readBend 70 = .ok (.getfield 122, 3) := by decide +kernel
theorem dX6_readBend_73 : decode cX6_readBend 73 = .ok (.aload_n 0, 1) := by decide +kernel
theorem dX6_readBend_74 : decode cX6_readBend 74 = .ok (.getfield 125, 3) := by decide +kernel
theorem dX6_readBend_77 : decode cX6_readBend 77 = .ok (.iload_n 1, 1) := by decide +kernel
theorem dX6_readBend_78 : decode cX6_readBend 78 = .ok (.ifCond .eq 8, 3) := by decide +kernel
theorem dX6_readBend_81 : decode cX6_readBend 81 = .ok (.iload_n 2, 1) := by decide +kernel
theorem dX6_readBend_82 : decode cX6_readBend 82 = .ok (.ineg, 1) := by decide +kernel
theorem dX6_readBend_83 : decode cX6_readBend 83 = .ok (.goto 4, 3) := by decide +kernel
theorem dX6_readBend_86 : decode cX6_readBend 86 = .ok (.iload_n 2, 1) := by decide +kernel
theorem dX6_readBend_87 : decode cX6_readBend 87 = .ok (.invokevirtual 150, 3) := by decide +kernel
theorem dX6_readBend_90 : decode cX6_readBend 90 = .ok (.return_, 1) := by decide +kernel
theorem dX6_readMark_0 : decode cX6_readMark 0 = .ok (.aload_n 0, 1) := by decide +kernel
theorem dX6_readMark_1 : decode cX6_readMark 1 = .ok (.invokevirtual 47, 3) := by decide +kernel
theorem dX6_readMark_4 : decode cX6_readMark 4 = .ok (.aload_n 0, 1) := by decide +kernel
theorem dX6_readMark_5 : decode cX6_readMark 5 = .ok (.invokevirtual 154, 3) := by decide +kernel
theorem dX6_readMark_8 : decode cX6_readMark 8 = .ok (.istore_n 1, 1) := by decide +kernel
theorem dX6_readMark_9 : decode cX6_readMark 9 = .ok (.aload_n 0, 1) := by decide +kernel
theorem dX6_readMark_10 : decode cX6_readMark 10 = .ok (.getfield 23, 3) := by decide +kernel
theorem dX6_readMark_13 : decode cX6_readMark 13 = .ok (.getfield 157, 3) := by decide +kernel
theorem dX6_readMark_16 : decode cX6_readMark 16 = .ok (.iload_n 1, 1) := by decide +kernel
theorem dX6_readMark_17 : decode cX6_readMark 17 = .ok (.invokevirtual 160, 3) := by decide +kernel
theorem dX6_readMark_20 : decode cX6_readMark 20 = .ok (.ifCond .eq 13, 3) := by decide +kernel
theorem dX6_readMark_23 : decode cX6_readMark 23 = .ok (.aload_n 0, 1) := by decide +kernel
theorem dX6_readMark_24 : decode cX6_readMark 24 = .ok (.bipush (-4), 2) := by decide +kernel
theorem dX6_readMark_26 : decode cX6_readMark 26 = .ok (.aload_n 0, 1) := by decide +kernel
theorem dX6_readMark_27 : decode cX6_readMark 27 = .ok (.getfield 85, 3) := by decide +kernel
theorem dX6_readMark_30 : decode cX6_readMark 30 = .ok (.invokevirtual 88, 3) := by decide +kernel
theorem dX6_readMark_33 : decode cX6_readMark 33 = .ok (.aload_n 0, 1) := by decide +kernel
theorem dX6_readMark_34 : decode cX6_readMark 34 = .ok (.invokevirtual 47, 3) := by decide +kernel
theorem dX6_readMark_37 : decode cX6_readMark 37 = .ok (.aload_n 0, 1) := by decide +kernel
theorem dX6_readMark_38 : decode cX6_readMark 38 = .ok (.getfield 23, 3) := by decide +kernel
theorem dX6_readMark_41 : decode cX6_readMark 41 = .ok (.getfield 157, 3) := by decide +kernel
theorem dX6_readMark_44 : decode cX6_readMark 44 = .ok (.iload_n 1, 1) := by decide +kernel
theorem dX6_readMark_45 : decode cX6_readMark 45 = .ok (.aload_n 0, 1) := by decide +kernel
theorem dX6_readMark_46 : decode cX6_readMark 46 = .ok (.invokevirtual 163, 3) := by decide +kernel
theorem dX6_readMark_49 : decode cX6_readMark 49 = .ok (.invokevirtual 31, 3) := by decide +kernel
theorem dX6_readMark_52 : decode cX6_readMark 52 = .ok (.aload_n 0, 1) := by decide +kernel
theorem dX6_readMark_53 : decode cX6_readMark 53 = .ok (.invokevirtual 113, 3) := by decide +kernel
theorem dX6_readMark_56 : decode cX6_readMark 56 = .ok (.return_, 1) := by decide +kernel
theorem dX6_readTeam_0 : decode cX6_readTeam 0 = .ok (.aload_n 0, 1) := by decide +kernel
theorem dX6_readTeam_1 : decode cX6_readTeam 1 = .ok (.getfield 23, 3) := by decide +kernel
theorem dX6_readTeam_4 : decode cX6_readTeam 4 = .ok (.getfield 91, 3) := by decide +kernel
theorem dX6_readTeam_7 : decode cX6_readTeam 7 = .ok (.ifCond .eq 13, 3) := by decide +kernel
theorem dX6_readTeam_10 : decode cX6_readTeam 10 = .ok (.aload_n 0, 1) := by decide +kernel
theorem dX6_readTeam_11 : decode cX6_readTeam 11 = .ok (.bipush (-2), 2) := by decide +kernel
theorem dX6_readTeam_13 : decode cX6_readTeam 13 = .ok (.aload_n 0, 1) := by decide +kernel
theorem dX6_readTeam_14 : decode cX6_readTeam 14 = .ok (.getfield 85, 3) := by decide +kernel
theorem dX6_readTeam_17 : decode cX6_readTeam 17 = .ok (.invokevirtual 88, 3) := by decide +kernel
theorem dX6_readTeam_20 : decode cX6_readTeam 20 = .ok (.aload_n 0, 1) := by decide +kernel
theorem dX6_readTeam_21 : decode cX6_readTeam 21 = .ok (.invokevirtual 47, 3) := by decide +kernel
theorem dX6_readTeam_24 : decode cX6_readTeam 24 = .ok (.aload_n 0, 1) := by decide +kernel
theorem dX6_readTeam_25 : decode cX6_readTeam 25 = .ok (.getfield 23, 3) := by decide +kernel
theorem dX6_readTeam_28 : decode cX6_readTeam 28 = .ok (.aload_n 0, 1) := by decide +kernel
theorem dX6_readTeam_29 : decode cX6_readTeam 29 = .ok (.invokevirtual 163, 3) := by decide +kernel
theorem dX6_readTeam_32 : decode cX6_readTeam 32 = .ok (.putfield 91, 3) := by decide +kernel
theorem dX6_readTeam_35 : decode cX6_readTeam 35 = .ok (.aload_n 0, 1) := by decide +kernel
theorem dX6_readTeam_36 : decode cX6_readTeam 36 = .ok (.invokevirtual 113, 3) := by decide +kernel
theorem dX6_readTeam_39 : decode cX6_readTeam 39 = .ok (.return_, 1) := by decide +kernel
theorem dX6_readClue_0 : decode cX6_readClue 0 = .ok (.aload_n 0, 1) := by decide +kernel
theorem dX6_readClue_1 : decode cX6_readClue 1 = .ok (.getfield 23, 3) := by decide +kernel
theorem dX6_readClue_4 : decode cX6_readClue 4 = .ok (.getfield 166, 3) := by decide +kernel
theorem dX6_readClue_7 : decode cX6_readClue 7 = .ok (.astore_n 1, 1) := by decide +kernel
theorem dX6_readClue_8 : decode cX6_readClue 8 = .ok (.aload_n 1, 1) := by decide +kernel
theorem dX6_readClue_9 : decode cX6_readClue 9 = .ok (.getfield 170, 3) := by decide +kernel
theorem dX6_readClue_12 : decode cX6_readClue 12 = .ok (.iconst 4, 1) := by decide +kernel
theorem dX6_readClue_13 : decode cX6_readClue 13 = .ok (.if_icmp .lt 13, 3) := by decide +kernel
theorem dX6_readClue_16 : decode cX6_readClue 16 = .ok (.aload_n 0, 1) := by decide +kernel
theorem dX6_readClue_17 : decode cX6_readClue 17 = .ok (.bipush (-6), 2) := by decide +kernel
theorem dX6_readClue_19 : decode cX6_readClue 19 = .ok (.aload_n 0, 1) := by decide +kernel
theorem dX6_readClue_20 : decode cX6_readClue 20 = .ok (.getfield 85, 3) := by decide +kernel
theorem dX6_readClue_23 : decode cX6_readClue 23 = .ok (.invokevirtual 88, 3) := by decide +kernel
theorem dX6_readClue_26 : decode cX6_readClue 26 = .ok (.aload_n 0, 1) := by decide +kernel
theorem dX6_readClue_27 : decode cX6_readClue 27 = .ok (.invokevirtual 47, 3) := by decide +kernel
theorem dX6_readClue_30 : decode cX6_readClue 30 = .ok (.aload_n 0, 1) := by decide +kernel
theorem dX6_readClue_31 : decode cX6_readClue 31 = .ok (.invokevirtual 174, 3) := by decide +kernel
theorem dX6_readClue_34 : decode cX6_readClue 34 = .ok (.iconst 0, 1) := by decide +kernel
theorem dX6_readClue_35 : decode cX6_readClue 35 = .ok (.istore_n 2, 1) := by decide +kernel
theorem dX6_readClue_36 : decode cX6_readClue 36 = .ok (.iload_n 2, 1) := by decide +kernel
theorem dX6_readClue_37 : decode cX6_readClue 37 = .ok (.bipush 8, 2) := by decide +kernel
theorem dX6_readClue_39 : decode cX6_readClue 39 = .ok (.if_icmp .ge 26, 3) := by decide +kernel
theorem dX6_readClue_42 : decode cX6_readClue 42 = .ok (.aload_n 0, 1) := by decide +kernel
theorem dX6_readClue_43 : decode cX6_readClue 43 = .ok (.ldc 177, 2) := by decide +kernel
theorem dX6_readClue_45 : decode cX6_readClue 45 = .ok (.invokevirtual 58, 3) := by decide +kernel
theorem dX6_readClue_48 : decode cX6_readClue 48 = .ok (.ifCond .eq 17, 3) := by decide +kernel
theorem dX6_readClue_51 : decode cX6_readClue 51 = .ok (.aload_n 0, 1) := by decide +kernel
theorem dX6_readClue_52 : decode cX6_readClue 52 = .ok (.invokevirtual 47, 3) := by decide +kernel
theorem dX6_readClue_55 : decode cX6_readClue 55 = .ok (.aload_n 0, 1) := by decide +kernel
theorem dX6_readClue_56 : decode cX6_readClue 56 = .ok (.invokevirtual 174, 3) := by decide +kernel
theorem dX6_readClue_59 : decode cX6_readClue 59 = .ok (.iinc 2 1, 3) := by decide +kernel
theorem dX6_readClue_62 : decode cX6_readClue 62 = .ok (.goto (-26), 3) := by decide +kernel
theorem dX6_readClue_65 : decode cX6_readClue 65 = .ok (.iconst 0, 1) := by decide +kernel
theorem dX6_readClue_66 : decode cX6_readClue 66 = .ok (.istore_n 2, 1) := by decide +kernel
theorem dX6_readClue_67 : decode cX6_readClue 67 = .ok (.iload_n 2, 1) := by decide +kernel
theorem dX6_readClue_68 : decode cX6_readClue 68 = .ok (.bipush 8, 2) := by decide +kernel
theorem dX6_readClue_70 : decode cX6_readClue 70 = .ok (.if_icmp .gt 20, 3) := by decide +kernel
theorem dX6_readClue_73 : decode cX6_readClue 73 = .ok (.aload_n 0, 1) := by decide +kernel
theorem dX6_readClue_74 : decode cX6_readClue 74 = .ok (.invokevirtual 179, 3) := by decide +kernel
theorem dX6_readClue_77 : decode cX6_readClue 77 = .ok (.ifCond .eq 13, 3) := by decide +kernel
theorem dX6_readClue_80 : decode cX6_readClue 80 = .ok (.aload_n 0, 1) := by decide +kernel
theorem dX6_readClue_81 : decode cX6_readClue 81 = .ok (.invokevirtual 183, 3) := by decide +kernel
theorem dX6_readClue_84 : decode cX6_readClue 84 = .ok (.iinc 2 1, 3) := by decide +kernel
theorem dX6_readClue_87 : decode cX6_readClue 87 = .ok (.goto (-20), 3) := by decide +kernel
theorem dX6_readClue_90 : decode cX6_readClue 90 = .ok (.aload_n 0, 1) := by decide +kernel
theorem dX6_readClue_91 : decode cX6_readClue 91 = .ok (.invokevirtual 113, 3) := by decide +kernel
theorem dX6_readClue_94 : decode cX6_readClue 94 = .ok (.aload_n 1, 1) := by decide +kernel
theorem dX6_readClue_95 : decode cX6_readClue 95 = .ok (.getfield 186, 3) := by decide +kernel
theorem dX6_readClue_98 : decode cX6_readClue 98 = .ok (.aload_n 1, 1) := by decide +kernel
theorem dX6_readClue_99 : decode cX6_readClue 99 = .ok (.getfield 170, 3) := by decide +kernel
theorem dX6_readClue_102 : decode cX6_readClue 102 = .ok (.iconst 1, 1) := by decide +kernel
theorem dX6_readClue_103 : decode cX6_readClue 103 = .ok (.invokevirtual 31, 3) := by decide +kernel
theorem dX6_readClue_106 : decode cX6_readClue 106 = .ok (.aload_n 1, 1) := by decide +kernel
theorem dX6_readClue_107 : decode cX6_readClue 107 = .ok (.dup, 1) := by decide +kernel
theorem dX6_readClue_108 : decode cX6_readClue 108 = .ok (.getfield 170, 3) := by decide +kernel
theorem dX6_readClue_111 : decode cX6_readClue 111 = .ok (.iconst 1, 1) := by decide +kernel
theorem dX6_readClue_112 : decode cX6_readClue 112 = .ok (.iadd, 1) := by decide +kernel
theorem dX6_readClue_113 : decode cX6_readClue 113 = .ok (.putfield 170, 3) := by decide +kernel
theorem dX6_readClue_116 : decode cX6_readClue 116 = .ok (.return_, 1) := by decide +kernel
theorem dX6_takeStart_0 : decode cX6_takeStart 0 = .ok (.aload_n 0, 1) := by decide +kernel
theorem dX6_takeStart_1 : decode cX6_takeStart 1 = .ok (.getfield 85, 3) := by decide +kernel
theorem dX6_takeStart_4 : decode cX6_takeStart 4 = .ok (.istore_n 1, 1) := by decide +kernel
theorem dX6_takeStart_5 : decode cX6_takeStart 5 = .ok (.aload_n 0, 1) := by decide +kernel
theorem dX6_takeStart_6 : decode cX6_takeStart 6 = .ok (.invokevirtual 189, 3) := by decide +kernel
theorem dX6_takeStart_9 : decode cX6_takeStart 9 = .ok (.istore_n 2, 1) := by decide +kernel
theorem dX6_takeStart_10 : decode cX6_takeStart 10 = .ok (.aload_n 0, 1) := by decide +kernel
theorem dX6_takeStart_11 : decode cX6_takeStart 11 = .ok (.getfield 23, 3) := by decide +kernel
theorem dX6_takeStart_14 : decode cX6_takeStart 14 = .ok (.getfield 166, 3) := by decide +kernel
theorem dX6_takeStart_17 : decode cX6_takeStart 17 = .ok (.aload_n 0, 1) := by decide +kernel
theorem dX6_takeStart_18 : decode cX6_takeStart 18 = .ok (.getfield 23, 3) := by decide +kernel
theorem dX6_takeStart_21 : decode cX6_takeStart 21 = .ok (.getfield 166, 3) := by decide +kernel
theorem dX6_takeStart_24 : decode cX6_takeStart 24 = .ok (.getfield 170, 3) := by decide +kernel
theorem dX6_takeStart_27 : decode cX6_takeStart 27 = .ok (.iload_n 2, 1) := by decide +kernel
theorem dX6_takeStart_28 : decode cX6_takeStart 28 = .ok (.invokevirtual 192, 3) := by decide +kernel
theorem dX6_takeStart_31 : decode cX6_takeStart 31 = .ok (.ifCond .eq 10, 3) := by decide +kernel
theorem dX6_takeStart_34 : decode cX6_takeStart 34 = .ok (.aload_n 0, 1) := by decide +kernel
theorem dX6_takeStart_35 : decode cX6_takeStart 35 = .ok (.bipush (-4), 2) := by decide +kernel
theorem dX6_takeStart_37 : decode cX6_takeStart 37 = .ok (.iload_n 1, 1) := by decide +kernel
theorem dX6_takeStart_38 : decode cX6_takeStart 38 = .ok (.invokevirtual 88, 3) := by decide +kernel
theorem dX6_takeStart_41 : decode cX6_takeStart 41 = .ok (.aload_n 0, 1) := by decide +kernel
theorem dX6_takeStart_42 : decode cX6_takeStart 42 = .ok (.getfield 23, 3) := by decide +kernel
theorem dX6_takeStart_45 : decode cX6_takeStart 45 = .ok (.getfield 166, 3) := by decide +kernel
theorem dX6_takeStart_48 : decode cX6_takeStart 48 = .ok (.aload_n 0, 1) := by decide +kernel
theorem dX6_takeStart_49 : decode cX6_takeStart 49 = .ok (.getfield 23, 3) := by decide +kernel
theorem dX6_takeStart_52 : decode cX6_takeStart 52 = .ok (.getfield 166, 3) := by decide +kernel
theorem dX6_takeStart_55 : decode cX6_takeStart 55 = .ok (.getfield 170, 3) := by decide +kernel
theorem dX6_takeStart_58 : decode cX6_takeStart 58 = .ok (.iload_n 2, 1) := by decide +kernel
theorem dX6_takeStart_59 : decode cX6_takeStart 59 = .ok (.invokevirtual 195, 3) := by decide +kernel
theorem dX6_takeStart_62 : decode cX6_takeStart 62 = .ok (.return_, 1) := by decide +kernel
theorem dX6_isLegAhead_0 : decode cX6_isLegAhead 0 = .ok (.aload_n 0, 1) := by decide +kernel
theorem dX6_isLegAhead_1 : decode cX6_isLegAhead 1 = .ok (.ldc 198, 2) := by decide +kernel
theorem dX6_isLegAhead_3 : decode cX6_isLegAhead 3 = .ok (.invokevirtual 58, 3) := by decide +kernel
theorem dX6_isLegAhead_6 : decode cX6_isLegAhead 6 = .ok (.ifCond .ne 21, 3) := by decide +kernel
theorem dX6_isLegAhead_9 : decode cX6_isLegAhead 9 = .ok (.aload_n 0, 1) := by decide +kernel
theorem dX6_isLegAhead_10 : decode cX6_isLegAhead 10 = .ok (.ldc 200, 2) := by decide +kernel
theorem dX6_isLegAhead_12 : decode cX6_isLegAhead 12 = .ok (.invokevirtual 58, 3) := by decide +kernel
theorem dX6_isLegAhead_15 : decode cX6_isLegAhead 15 = .ok (.ifCond .ne 12, 3) := by decide +kernel
theorem dX6_isLegAhead_18 : decode cX6_isLegAhead 18 = .ok (.aload_n 0, 1) := by decide +kernel
theorem dX6_isLegAhead_19 : decode cX6_isLegAhead 19 = .ok (.ldc 202, 2) := by decide +kernel
theorem dX6_isLegAhead_21 : decode cX6_isLegAhead 21 = .ok (.invokevirtual 58, 3) := by decide +kernel
theorem dX6_isLegAhead_24 : decode cX6_isLegAhead 24 = .ok (.ifCond .eq 7, 3) := by decide +kernel
theorem dX6_isLegAhead_27 : decode cX6_isLegAhead 27 = .ok (.iconst 1, 1) := by decide +kernel
theorem dX6_isLegAhead_28 : decode cX6_isLegAhead 28 = .ok (.goto 4, 3) := by decide +kernel
theorem dX6_isLegAhead_31 : decode cX6_isLegAhead 31 = .ok (.iconst 0, 1) := by decide +kernel
theorem dX6_isLegAhead_32 : decode cX6_isLegAhead 32 = .ok (.ireturn, 1) := by decide +kernel
theorem dX6_readLeg_0 : decode cX6_readLeg 0 = .ok (.aload_n 0, 1) := by decide +kernel
theorem dX6_readLeg_1 : decode cX6_readLeg 1 = .ok (.getfield 23, 3) := by decide +kernel
theorem dX6_readLeg_4 : decode cX6_readLeg 4 = .ok (.getfield 166, 3) := by decide +kernel
theorem dX6_readLeg_7 : decode cX6_readLeg 7 = .ok (.astore_n 1, 1) := by decide +kernel
theorem dX6_readLeg_8 : decode cX6_readLeg 8 = .ok (.aload_n 1, 1) := by decide +kernel
theorem dX6_readLeg_9 : decode cX6_readLeg 9 = .ok (.getfield 203, 3) := by decide +kernel
theorem dX6_readLeg_12 : decode cX6_readLeg 12 = .ok (.aload_n 1, 1) := by decide +kernel
theorem dX6_readLeg_13 : decode cX6_readLeg 13 = .ok (.getfield 170, 3) := by decide +kernel
theorem dX6_readLeg_16 : decode cX6_readLeg 16 = .ok (.invokevirtual 160, 3) := by decide +kernel
theorem dX6_readLeg_19 : decode cX6_readLeg 19 = .ok (.istore_n 2, 1) := by decide +kernel
theorem dX6_readLeg_20 : decode cX6_readLeg 20 = .ok (.iload_n 2, 1) := by decide +kernel
theorem dX6_readLeg_21 : decode cX6_readLeg 21 = .ok (.bipush 8, 2) := by decide +kernel
theorem dX6_readLeg_23 : decode cX6_readLeg 23 = .ok (.if_icmp .lt 13, 3) := by decide +kernel
theorem dX6_readLeg_26 : decode cX6_readLeg 26 = .ok (.aload_n 0, 1) := by decide +kernel
theorem dX6_readLeg_27 : decode cX6_readLeg 27 = .ok (.bipush (-6), 2) := by decide +kernel
theorem dX6_readLeg_29 : decode cX6_readLeg 29 = .ok (.aload_n 0, 1) := by decide +kernel
theorem dX6_readLeg_30 : decode cX6_readLeg 30 = .ok (.getfield 85, 3) := by decide +kernel
theorem dX6_readLeg_33 : decode cX6_readLeg 33 = .ok (.invokevirtual 88, 3) := by decide +kernel
theorem dX6_readLeg_36 : decode cX6_readLeg 36 = .ok (.aload_n 1, 1) := by decide +kernel
theorem dX6_readLeg_37 : decode cX6_readLeg 37 = .ok (.getfield 170, 3) := by decide +kernel
theorem dX6_readLeg_40 : decode cX6_readLeg 40 = .ok (.bipush 8, 2) := by decide +kernel
theorem dX6_readLeg_42 : decode cX6_readLeg 42 = .ok (.imul, 1) := by decide +kernel
theorem dX6_readLeg_43 : decode cX6_readLeg 43 = .ok (.iload_n 2, 1) := by decide +kernel
theorem dX6_readLeg_44 : decode cX6_readLeg 44 = .ok (.iadd, 1) := by decide +kernel
theorem dX6_readLeg_45 : decode cX6_readLeg 45 = .ok (.istore_n 3, 1) := by decide +kernel
theorem dX6_readLeg_46 : decode cX6_readLeg 46 = .ok (.aload_n 0, 1) := by decide +kernel
theorem dX6_readLeg_47 : decode cX6_readLeg 47 = .ok (.ldc 198, 2) := by decide +kernel
theorem dX6_readLeg_49 : decode cX6_readLeg 49 = .ok (.invokevirtual 58, 3) := by decide +kernel
theorem dX6_readLeg_52 : decode cX6_readLeg 52 = .ok (.ifCond .eq 7, 3) := by decide +kernel
theorem dX6_readLeg_55 : decode cX6_readLeg 55 = .ok (.iconst 0, 1) := by decide +kernel
theorem dX6_readLeg_56 : decode cX6_readLeg 56 = .ok (.goto 17, 3) := by decide +kernel
theorem dX6_readLeg_59 : decode cX6_readLeg 59 = .ok (.aload_n 0, 1) := by decide +kernel
theorem dX6_readLeg_60 : decode cX6_readLeg 60 = .ok (.ldc 200, 2) := by decide +kernel
theorem dX6_readLeg_62 : decode cX6_readLeg 62 = .ok (.invokevirtual 58, 3) := by decide +kernel
theorem dX6_readLeg_65 : decode cX6_readLeg 65 = .ok (.ifCond .eq 7, 3) := by decide +kernel
theorem dX6_readLeg_68 : decode cX6_readLeg 68 = .ok (.iconst 1, 1) := by decide +kernel
theorem dX6_readLeg_69 : decode cX6_readLeg 69 = .ok (.goto 4, 3) := by decide +kernel
theorem dX6_readLeg_72 : decode cX6_readLeg 72 = .ok (.iconst 2, 1) := by decide +kernel
theorem dX6_readLeg_73 : decode cX6_readLeg 73 = .ok (.istore 4, 2) := by decide +kernel
theorem dX6_readLeg_75 : decode cX6_readLeg 75 = .ok (.aload_n 0, 1) := by decide +kernel
theorem dX6_readLeg_76 : decode cX6_readLeg 76 = .ok (.invokevirtual 47, 3) := by decide +kernel
theorem dX6_readLeg_79 : decode cX6_readLeg 79 = .ok (.iload 4, 2) := by decide +kernel
theorem dX6_readLeg_81 : decode cX6_readLeg 81 = .ok (.ifCond .ne 13, 3) := by decide +kernel
theorem dX6_readLeg_84 : decode cX6_readLeg 84 = .ok (.aload_n 0, 1) := by decide +kernel
theorem dX6_readLeg_85 : decode cX6_readLeg 85 = .ok (.iconst 0, 1) := by decide +kernel
theorem dX6_readLeg_86 : decode cX6_readLeg 86 = .ok (.bipush 30, 2) := by decide +kernel
theorem dX6_readLeg_88 : decode cX6_readLeg 88 = .ok (.invokevirtual 109, 3) := by decide +kernel
theorem dX6_readLeg_91 : decode cX6_readLeg 91 = .ok (.goto 4, 3) := by decide +kernel
theorem dX6_readLeg_94 : decode cX6_readLeg 94 = .ok (.iconst 0, 1) := by decide +kernel
theorem dX6_readLeg_95 : decode cX6_readLeg 95 = .ok (.istore 5, 2) := by decide +kernel
theorem dX6_readLeg_97 : decode cX6_readLeg 97 = .ok (.iload 4, 2) := by decide +kernel
theorem dX6_readLeg_99 : decode cX6_readLeg 99 = .ok (.iconst 1, 1) := by decide +kernel
theorem dX6_readLeg_100 : decode cX6_readLeg 100 = .ok (.if_icmp .ne 20, 3) := by decide +kernel
theorem dX6_readLeg_103 : decode cX6_readLeg 103 = .ok (.aload_n 0, 1) := by decide +kernel
theorem dX6_readLeg_104 : decode cX6_readLeg 104 = .ok (.getfield 23, 3) := by decide +kernel
theorem dX6_readLeg_107 : decode cX6_readLeg 107 = .ok (.getfield 157, 3) := by decide +kernel
theorem dX6_readLeg_110 : decode cX6_readLeg 110 = .ok (.aload_n 0, 1) := by decide +kernel
theorem dX6_readLeg_111 : decode cX6_readLeg 111 = .ok (.invokevirtual 189, 3) := by decide +kernel
theorem dX6_readLeg_114 : decode cX6_readLeg 114 = .ok (.invokevirtual 160, 3) := by decide +kernel
theorem dX6_readLeg_117 : decode cX6_readLeg 117 = .ok (.goto 4, 3) := by decide +kernel
theorem dX6_readLeg_120 : decode cX6_readLeg 120 = .ok (.iconst 0, 1) := by decide +kernel
theorem dX6_readLeg_121 : decode cX6_readLeg 121 = .ok (.istore 6, 2) := by decide +kernel
theorem dX6_readLeg_123 : decode cX6_readLeg 123 = .ok (.aload_n 0, 1) := by decide +kernel
theorem dX6_readLeg_124 : decode cX6_readLeg 124 = .ok (.invokevirtual 206, 3) := by decide +kernel
theorem dX6_readLeg_127 : decode cX6_readLeg 127 = .ok (.istore 7, 2) := by decide +kernel
theorem dX6_readLeg_129 : decode cX6_readLeg 129 = .ok (.iconst 0, 1) := by decide +kernel
theorem dX6_readLeg_130 : decode cX6_readLeg 130 = .ok (.istore 8, 2) := by decide +kernel
theorem dX6_readLeg_132 : decode cX6_readLeg 132 = .ok (.iload 4, 2) := by decide +kernel
theorem dX6_readLeg_134 : decode cX6_readLeg 134 = .ok (.ifCond .ne 24, 3) := by decide +kernel
theorem dX6_readLeg_137 : decode cX6_readLeg 137 = .ok (.aload_n 0, 1) := by decide +kernel
theorem dX6_readLeg_138 : decode cX6_readLeg 138 = .ok (.ldc 209, 2) := by decide +kernel
theorem dX6_readLeg_140 : decode cX6_readLeg 140 = .ok (.invokevirtual 58, 3) := by decide +kernel
theorem dX6_readLeg_143 : decode cX6_readLeg 143 = .ok (.ifCond .eq 15, 3) := by decide +kernel
theorem dX6_readLeg_146 : decode cX6_readLeg 146 = .ok (.aload_n 0, 1) := by decide +kernel
theorem dX6_readLeg_147 : decode cX6_readLeg 147 = .ok (.invokevirtual 47, 3) := by decide +kernel
theorem dX6_readLeg_150 : decode cX6_readLeg 150 = .ok (.aload_n 0, 1) := by decide +kernel
theorem dX6_readLeg_151 : decode cX6_readLeg 151 = .ok (.iconst 0, 1) := by decide +kernel
theorem dX6_readLeg_152 : decode cX6_readLeg 152 = .ok (.iconst 5, 1) := by decide +kernel
theorem dX6_readLeg_153 : decode cX6_readLeg 153 = .ok (.invokevirtual 109, 3) := by decide +kernel
theorem dX6_readLeg_156 : decode cX6_readLeg 156 = .ok (.istore 8, 2) := by decide +kernel
theorem dX6_readLeg_158 : decode cX6_readLeg 158 = .ok (.aload_n 1, 1) := by decide +kernel
theorem dX6_readLeg_159 : decode cX6_readLeg 159 = .ok (.getfield 211, 3) := by decide +kernel
theorem dX6_readLeg_162 : decode cX6_readLeg 162 = .ok (.iload_n 3, 1) := by decide +kernel
theorem dX6_readLeg_163 : decode cX6_readLeg 163 = .ok (.iload 4, 2) := by decide +kernel
theorem dX6_readLeg_165 : decode cX6_readLeg 165 = .ok (.invokevirtual 31, 3) := by decide +kernel
theorem dX6_readLeg_168 : decode cX6_readLeg 168 = .ok (.aload_n 1, 1) := by decide +kernel
theorem dX6_readLeg_169 : decode cX6_readLeg 169 = .ok (.getfield 214, 3) := by decide +kernel
theorem dX6_readLeg_172 : decode cX6_readLeg 172 = .ok (.iload_n 3, 1) := by decide +kernel
theorem dX6_readLeg_173 : decode cX6_readLeg 173 = .ok (.iload 7, 2) := by decide +kernel
theorem dX6_readLeg_175 : decode cX6_readLeg 175 = .ok (.invokevirtual 31, 3) := by decide +kernel
theorem dX6_readLeg_178 : decode cX6_readLeg 178 = .ok (.aload_n 1, 1) := by decide +kernel
theorem dX6_readLeg_179 : decode cX6_readLeg 179 = .ok (.getfield 217, 3) := by decide +kernel
theorem dX6_readLeg_182 : decode cX6_readLeg 182 = .ok (.iload_n 3, 1) := by decide +kernel
theorem dX6_readLeg_183 : decode cX6_readLeg 183 = .ok (.iload 6, 2) := by decide +kernel
theorem dX6_readLeg_185 : decode cX6_readLeg 185 = .ok (.invokevirtual 31, 3) := by decide +kernel
theorem dX6_readLeg_188 : decode cX6_readLeg 188 = .ok (.aload_n 1, 1) := by decide +kernel
theorem dX6_readLeg_189 : decode cX6_readLeg 189 = .ok (.getfield 220, 3) := by decide +kernel
theorem dX6_readLeg_192 : decode cX6_readLeg 192 = .ok (.iload_n 3, 1) := by decide +kernel
theorem dX6_readLeg_193 : decode cX6_readLeg 193 = .ok (.iconst 0, 1) := by decide +kernel
theorem dX6_readLeg_194 : decode cX6_readLeg 194 = .ok (.iload 5, 2) := by decide +kernel
theorem dX6_readLeg_196 : decode cX6_readLeg 196 = .ok (.iload 8, 2) := by decide +kernel
theorem dX6_readLeg_198 : decode cX6_readLeg 198 = .ok (.isub, 1) := by decide +kernel
theorem dX6_readLeg_199 : decode cX6_readLeg 199 = .ok (.invokestatic 223, 3) := by decide +kernel
theorem dX6_readLeg_202 : decode cX6_readLeg 202 = .ok (.invokevirtual 31, 3) := by decide +kernel
theorem dX6_readLeg_205 : decode cX6_readLeg 205 = .ok (.aload_n 1, 1) := by decide +kernel
theorem dX6_readLeg_206 : decode cX6_readLeg 206 = .ok (.getfield 228, 3) := by decide +kernel
theorem dX6_readLeg_209 : decode cX6_readLeg 209 = .ok (.iload_n 3, 1) := by decide +kernel
theorem dX6_readLeg_210 : decode cX6_readLeg 210 = .ok (.iload 4, 2) := by decide +kernel
theorem dX6_readLeg_212 : decode cX6_readLeg 212 = .ok (.ifCond .ne 11, 3) := by decide +kernel
theorem dX6_readLeg_215 : decode cX6_readLeg 215 = .ok (.iload 5, 2) := by decide +kernel
theorem dX6_readLeg_217 : decode cX6_readLeg 217 = .ok (.iload 8, 2) := by decide +kernel
theorem dX6_readLeg_219 : decode cX6_readLeg 219 = .ok (.iadd, 1) := by decide +kernel
theorem dX6_readLeg_220 : decode cX6_readLeg 220 = .ok (.goto 16, 3) := by decide +kernel
theorem dX6_readLeg_223 : decode cX6_readLeg 223 = .ok (.iload 4, 2) := by decide +kernel
theorem dX6_readLeg_225 : decode cX6_readLeg 225 = .ok (.iconst 1, 1) := by decide +kernel
theorem dX6_readLeg_226 : decode cX6_readLeg 226 = .ok (.if_icmp .ne 8, 3) := by decide +kernel
theorem dX6_readLeg_229 : decode cX6_readLeg 229 = .ok (.bipush 60, 2) := by decide +kernel
theorem dX6_readLeg_231 : decode cX6_readLeg 231 = .ok (.goto 5, 3) := by decide +kernel
theorem dX6_readLeg_234 : decode cX6_readLeg 234 = .ok (.bipush 59, 2) := by decide +kernel
theorem dX6_readLeg_236 : decode cX6_readLeg 236 = .ok (.invokevirtual 31, 3) := by decide +kernel
theorem dX6_readLeg_239 : decode cX6_readLeg 239 = .ok (.aload_n 1, 1) := by decide +kernel
theorem dX6_readLeg_240 : decode cX6_readLeg 240 = .ok (.getfield 203, 3) := by decide +kernel
theorem dX6_readLeg_243 : decode cX6_readLeg 243 = .ok (.aload_n 1, 1) := by decide +kernel
theorem dX6_readLeg_244 : decode cX6_readLeg 244 = .ok (.getfield 170, 3) := by decide +kernel
theorem dX6_readLeg_247 : decode cX6_readLeg 247 = .ok (.iload_n 2, 1) := by decide +kernel
theorem dX6_readLeg_248 : decode cX6_readLeg 248 = .ok (.iconst 1, 1) := by decide +kernel
theorem dX6_readLeg_249 : decode cX6_readLeg 249 = .ok (.iadd, 1) := by decide +kernel
theorem dX6_readLeg_250 : decode cX6_readLeg 250 = .ok (.invokevirtual 31, 3) := by decide +kernel
theorem dX6_readLeg_253 : decode cX6_readLeg 253 = .ok (.return_, 1) := by decide +kernel
theorem dX6_readArea_0 : decode cX6_readArea 0 = .ok (.aload_n 0, 1) := by decide +kernel
theorem dX6_readArea_1 : decode cX6_readArea 1 = .ok (.iconst 0, 1) := by decide +kernel
theorem dX6_readArea_2 : decode cX6_readArea 2 = .ok (.aload_n 0, 1) := by decide +kernel
theorem dX6_readArea_3 : decode cX6_readArea 3 = .ok (.getfield 23, 3) := by decide +kernel
theorem dX6_readArea_6 : decode cX6_readArea 6 = .ok (.getfield 231, 3) := by decide +kernel
theorem dX6_readArea_9 : decode cX6_readArea 9 = .ok (.iconst 1, 1) := by decide +kernel
theorem dX6_readArea_10 : decode cX6_readArea 10 = .ok (.isub, 1) := by decide +kernel
theorem dX6_readArea_11 : decode cX6_readArea 11 = .ok (.invokevirtual 109, 3) := by decide +kernel
theorem dX6_readArea_14 : decode cX6_readArea 14 = .ok (.istore_n 1, 1) := by decide +kernel
theorem dX6_readArea_15 : decode cX6_readArea 15 = .ok (.aload_n 0, 1) := by decide +kernel
theorem dX6_readArea_16 : decode cX6_readArea 16 = .ok (.iconst 0, 1) := by decide +kernel
theorem dX6_readArea_17 : decode cX6_readArea 17 = .ok (.aload_n 0, 1) := by decide +kernel
theorem dX6_readArea_18 : decode cX6_readArea 18 = .ok (.getfield 23, 3) := by decide +kernel
theorem dX6_readArea_21 : decode cX6_readArea 21 = .ok (.getfield 234, 3) := by decide +kernel
theorem dX6_readArea_24 : decode cX6_readArea 24 = .ok (.iconst 1, 1) := by decide +kernel
theorem dX6_readArea_25 : decode cX6_readArea 25 = .ok (.isub, 1) := by decide +kernel
theorem dX6_readArea_26 : decode cX6_readArea 26 = .ok (.invokevirtual 109, 3) := by decide +kernel
theorem dX6_readArea_29 : decode cX6_readArea 29 = .ok (.istore_n 2, 1) := by decide +kernel
theorem dX6_readArea_30 : decode cX6_readArea 30 = .ok (.aload_n 0, 1) := by decide +kernel
theorem dX6_readArea_31 : decode cX6_readArea 31 = .ok (.iload_n 1, 1) := by decide +kernel
theorem dX6_readArea_32 : decode cX6_readArea 32 = .ok (.aload_n 0, 1) := by decide +kernel
theorem dX6_readArea_33 : decode cX6_readArea 33 = .ok (.getfield 23, 3) := by decide +kernel
theorem dX6_readArea_36 : decode cX6_readArea 36 = .ok (.getfield 231, 3) := by decide +kernel
theorem dX6_readArea_39 : decode cX6_readArea 39 = .ok (.iconst 1, 1) := by decide +kernel
theorem dX6_readArea_40 : decode cX6_readArea 40 = .ok (.isub, 1) := by decide +kernel
theorem dX6_readArea_41 : decode cX6_readArea 41 = .ok (.invokevirtual 109, 3) := by decide +kernel
theorem dX6_readArea_44 : decode cX6_readArea 44 = .ok (.istore_n 3, 1) := by decide +kernel
theorem dX6_readArea_45 : decode cX6_readArea 45 = .ok (.aload_n 0, 1) := by decide +kernel
theorem dX6_readArea_46 : decode cX6_readArea 46 = .ok (.iload_n 2, 1) := by decide +kernel
theorem dX6_readArea_47 : decode cX6_readArea 47 = .ok (.aload_n 0, 1) := by decide +kernel
theorem dX6_readArea_48 : decode cX6_readArea 48 = .ok (.getfield 23, 3) := by decide +kernel
theorem dX6_readArea_51 : decode cX6_readArea 51 = .ok (.getfield 234, 3) := by decide +kernel
theorem dX6_readArea_54 : decode cX6_readArea 54 = .ok (.iconst 1, 1) := by decide +kernel
theorem dX6_readArea_55 : decode cX6_readArea 55 = .ok (.isub, 1) := by decide +kernel
theorem dX6_readArea_56 : decode cX6_readArea 56 = .ok (.invokevirtual 109, 3) := by decide +kernel
theorem dX6_readArea_59 : decode cX6_readArea 59 = .ok (.istore 4, 2) := by decide +kernel
theorem dX6_readArea_61 : decode cX6_readArea 61 = .ok (.aload_n 0, 1) := by decide +kernel
theorem dX6_readArea_62 : decode cX6_readArea 62 = .ok (.iload_n 1, 1) := by decide +kernel
theorem dX6_readArea_63 : decode cX6_readArea 63 = .ok (.iload_n 2, 1) := by decide +kernel
theorem dX6_readArea_64 : decode cX6_readArea 64 = .ok (.invokestatic 237, 3) := by decide +kernel
theorem dX6_readArea_67 : decode cX6_readArea 67 = .ok (.putfield 122, 3) := by decide +kernel
theorem dX6_readArea_70 : decode cX6_readArea 70 = .ok (.aload_n 0, 1) := by decide +kernel
theorem dX6_readArea_71 : decode cX6_readArea 71 = .ok (.iload_n 3, 1) := by decide +kernel
theorem dX6_readArea_72 : decode cX6_readArea 72 = .ok (.iload 4, 2) := by decide +kernel
theorem dX6_readArea_74 : decode cX6_readArea 74 = .ok (.invokestatic 237, 3) := by decide +kernel
theorem dX6_readArea_77 : decode cX6_readArea 77 = .ok (.putfield 125, 3) := by decide +kernel
theorem dX6_readArea_80 : decode cX6_readArea 80 = .ok (.return_, 1) := by decide +kernel
theorem dX6_takeLandSpot_0 : decode cX6_takeLandSpot 0 = .ok (.aload_n 0, 1) := by decide +kernel
theorem dX6_takeLandSpot_1 : decode cX6_takeLandSpot 1 = .ok (.getfield 85, 3) := by decide +kernel
theorem dX6_takeLandSpot_4 : decode cX6_takeLandSpot 4 = .ok (.istore_n 1, 1) := by decide +kernel
theorem dX6_takeLandSpot_5 : decode cX6_takeLandSpot 5 = .ok (.aload_n 0, 1) := by decide +kernel
theorem dX6_takeLandSpot_6 : decode cX6_takeLandSpot 6 = .ok (.iconst 0, 1) := by decide +kernel
theorem dX6_takeLandSpot_7 : decode cX6_takeLandSpot 7 = .ok (.aload_n 0, 1) := by decide +kernel
theorem dX6_takeLandSpot_8 : decode cX6_takeLandSpot 8 = .ok (.getfield 23, 3) := by decide +kernel
theorem dX6_takeLandSpot_11 : decode cX6_takeLandSpot 11 = .ok (.getfield 231, 3) := by decide +kernel
theorem dX6_takeLandSpot_14 : decode cX6_takeLandSpot 14 = .ok (.iconst 1, 1) := by decide +kernel
theorem dX6_takeLandSpot_15 : decode cX6_takeLandSpot 15 = .ok (.isub, 1) := by decide +kernel
theorem dX6_takeLandSpot_16 : decode cX6_takeLandSpot 16 = .ok (.invokevirtual 109, 3) := by decide +kernel
theorem dX6_takeLandSpot_19 : decode cX6_takeLandSpot 19 = .ok (.istore_n 2, 1) := by decide +kernel
theorem dX6_takeLandSpot_20 : decode cX6_takeLandSpot 20 = .ok (.aload_n 0, 1) := by decide +kernel
theorem dX6_takeLandSpot_21 : decode cX6_takeLandSpot 21 = .ok (.iconst 0, 1) := by decide +kernel
theorem dX6_takeLandSpot_22 : decode cX6_takeLandSpot 22 = .ok (.aload_n 0, 1) := by decide +kernel
theorem dX6_takeLandSpot_23 : decode cX6_takeLandSpot 23 = .ok (.getfield 23, 3) := by decide +kernel
theorem dX6_takeLandSpot_26 : decode cX6_takeLandSpot 26 = .ok (.getfield 234, 3) := by decide +kernel
theorem dX6_takeLandSpot_29 : decode cX6_takeLandSpot 29 = .ok (.iconst 1, 1) := by decide +kernel
theorem dX6_takeLandSpot_30 : decode cX6_takeLandSpot 30 = .ok (.isub, 1) := by decide +kernel
theorem dX6_takeLandSpot_31 : decode cX6_takeLandSpot 31 = .ok (.invokevirtual 109, 3) := by decide +kernel
theorem dX6_takeLandSpot_34 : decode cX6_takeLandSpot 34 = .ok (.istore_n 3, 1) := by decide +kernel
theorem dX6_takeLandSpot_35 : decode cX6_takeLandSpot 35 = .ok (.iload_n 2, 1) := by decide +kernel
theorem dX6_takeLandSpot_36 : decode cX6_takeLandSpot 36 = .ok (.iload_n 3, 1) := by decide +kernel
theorem dX6_takeLandSpot_37 : decode cX6_takeLandSpot 37 = .ok (.invokestatic 237, 3) := by decide +kernel
theorem dX6_takeLandSpot_40 : decode cX6_takeLandSpot 40 = .ok (.istore 4, 2) := by decide +kernel
theorem dX6_takeLandSpot_42 : decode cX6_takeLandSpot 42 = .ok (.aload_n 0, 1) := by decide +kernel
theorem dX6_takeLandSpot_43 : decode cX6_takeLandSpot 43 = .ok (.getfield 23, 3) := by decide +kernel
theorem dX6_takeLandSpot_46 : decode cX6_takeLandSpot 46 = .ok (.getfield 93, 3) := by decide +kernel
theorem dX6_takeLandSpot_49 : decode cX6_takeLandSpot 49 = .ok (.iload 4, 2) := by decide +kernel
theorem dX6_takeLandSpot_51 : decode cX6_takeLandSpot 51 = .ok (.invokevirtual 240, 3) := by decide +kernel
theorem dX6_takeLandSpot_54 : decode cX6_takeLandSpot 54 = .ok (.ifCond .ne 10, 3) := by decide +kernel
theorem dX6_takeLandSpot_57 : decode cX6_takeLandSpot 57 = .ok (.aload_n 0, 1) := by decide +kernel
theorem dX6_takeLandSpot_58 : decode cX6_takeLandSpot 58 = .ok (.bipush (-7), 2) := by decide +kernel
theorem dX6_takeLandSpot_60 : decode cX6_takeLandSpot 60 = .ok (.iload_n 1, 1) := by decide +kernel
theorem dX6_takeLandSpot_61 : decode cX6_takeLandSpot 61 = .ok (.invokevirtual 88, 3) := by decide +kernel
theorem dX6_takeLandSpot_64 : decode cX6_takeLandSpot 64 = .ok (.iload 4, 2) := by decide +kernel
theorem dX6_takeLandSpot_66 : decode cX6_takeLandSpot 66 = .ok (.ireturn, 1) := by decide +kernel
theorem dX6_takeKnownMark_0 : decode cX6_takeKnownMark 0 = .ok (.aload_n 0, 1) := by decide +kernel
theorem dX6_takeKnownMark_1 : decode cX6_takeKnownMark 1 = .ok (.invokevirtual 154, 3) := by decide +kernel
theorem dX6_takeKnownMark_4 : decode cX6_takeKnownMark 4 = .ok (.istore_n 1, 1) := by decide +kernel
theorem dX6_takeKnownMark_5 : decode cX6_takeKnownMark 5 = .ok (.aload_n 0, 1) := by decide +kernel
theorem dX6_takeKnownMark_6 : decode cX6_takeKnownMark 6 = .ok (.getfield 23, 3) := by decide +kernel
theorem dX6_takeKnownMark_9 : decode cX6_takeKnownMark 9 = .ok (.getfield 157, 3) := by decide +kernel
theorem dX6_takeKnownMark_12 : decode cX6_takeKnownMark 12 = .ok (.iload_n 1, 1) := by decide +kernel
theorem dX6_takeKnownMark_13 : decode cX6_takeKnownMark 13 = .ok (.invokevirtual 160, 3) := by decide +kernel
theorem dX6_takeKnownMark_16 : decode cX6_takeKnownMark 16 = .ok (.ifCond .ne 13, 3) := by decide +kernel
theorem dX6_takeKnownMark_19 : decode cX6_takeKnownMark 19 = .ok (.aload_n 0, 1) := by decide +kernel
theorem dX6_takeKnownMark_20 : decode cX6_takeKnownMark 20 = .ok (.bipush (-5), 2) := by decide +kernel
theorem dX6_takeKnownMark_22 : decode cX6_takeKnownMark 22 = .ok (.aload_n 0, 1) := by decide +kernel
theorem dX6_takeKnownMark_23 : decode cX6_takeKnownMark 23 = .ok (.getfield 85, 3) := by decide +kernel
theorem dX6_takeKnownMark_26 : decode cX6_takeKnownMark 26 = .ok (.invokevirtual 88, 3) := by decide +kernel
theorem dX6_takeKnownMark_29 : decode cX6_takeKnownMark 29 = .ok (.aload_n 0, 1) := by decide +kernel
theorem dX6_takeKnownMark_30 : decode cX6_takeKnownMark 30 = .ok (.invokevirtual 47, 3) := by decide +kernel
theorem dX6_takeKnownMark_33 : decode cX6_takeKnownMark 33 = .ok (.iload_n 1, 1) := by decide +kernel
theorem dX6_takeKnownMark_34 : decode cX6_takeKnownMark 34 = .ok (.ireturn, 1) := by decide +kernel
theorem dX6_markAhead_0 : decode cX6_markAhead 0 = .ok (.aload_n 0, 1) := by decide +kernel
theorem dX6_markAhead_1 : decode cX6_markAhead 1 = .ok (.getfield 14, 3) := by decide +kernel
theorem dX6_markAhead_4 : decode cX6_markAhead 4 = .ok (.aload_n 0, 1) := by decide +kernel
theorem dX6_markAhead_5 : decode cX6_markAhead 5 = .ok (.getfield 85, 3) := by decide +kernel
theorem dX6_markAhead_8 : decode cX6_markAhead 8 = .ok (.invokevirtual 160, 3) := by decide +kernel
theorem dX6_markAhead_11 : decode cX6_markAhead 11 = .ok (.bipush 97, 2) := by decide +kernel
theorem dX6_markAhead_13 : decode cX6_markAhead 13 = .ok (.isub, 1) := by decide +kernel
theorem dX6_markAhead_14 : decode cX6_markAhead 14 = .ok (.istore_n 1, 1) := by decide +kernel
theorem dX6_markAhead_15 : decode cX6_markAhead 15 = .ok (.aload_n 0, 1) := by decide +kernel
theorem dX6_markAhead_16 : decode cX6_markAhead 16 = .ok (.getfield 53, 3) := by decide +kernel
theorem dX6_markAhead_19 : decode cX6_markAhead 19 = .ok (.iconst 1, 1) := by decide +kernel
theorem dX6_markAhead_20 : decode cX6_markAhead 20 = .ok (.if_icmp .ne 24, 3) := by decide +kernel
theorem dX6_markAhead_23 : decode cX6_markAhead 23 = .ok (.aload_n 0, 1) := by decide +kernel
theorem dX6_markAhead_24 : decode cX6_markAhead 24 = .ok (.getfield 38, 3) := by decide +kernel
theorem dX6_markAhead_27 : decode cX6_markAhead 27 = .ok (.aload_n 0, 1) := by decide +kernel
theorem dX6_markAhead_28 : decode cX6_markAhead 28 = .ok (.getfield 85, 3) := by decide +kernel
theorem dX6_markAhead_31 : decode cX6_markAhead 31 = .ok (.isub, 1) := by decide +kernel
theorem dX6_markAhead_32 : decode cX6_markAhead 32 = .ok (.iconst 1, 1) := by decide +kernel
theorem dX6_markAhead_33 : decode cX6_markAhead 33 = .ok (.if_icmp .ne 11, 3) := by decide +kernel
theorem dX6_markAhead_36 : decode cX6_markAhead 36 = .ok (.iload_n 1, 1) := by decide +kernel
theorem dX6_markAhead_37 : decode cX6_markAhead 37 = .ok (.bipush 8, 2) := by decide +kernel
theorem dX6_markAhead_39 : decode cX6_markAhead 39 = .ok (.if_icmp .ge 5, 3) := by decide +kernel
theorem dX6_markAhead_42 : decode cX6_markAhead 42 = .ok (.iload_n 1, 1) := by decide +kernel
theorem dX6_markAhead_43 : decode cX6_markAhead 43 = .ok (.ireturn, 1) := by decide +kernel
theorem dX6_markAhead_44 : decode cX6_markAhead 44 = .ok (.aload_n 0, 1) := by decide +kernel
theorem dX6_markAhead_45 : decode cX6_markAhead 45 = .ok (.bipush (-2), 2) := by decide +kernel
theorem dX6_markAhead_47 : decode cX6_markAhead 47 = .ok (.aload_n 0, 1) := by decide +kernel
theorem dX6_markAhead_48 : decode cX6_markAhead 48 = .ok (.getfield 85, 3) := by decide +kernel
theorem dX6_markAhead_51 : decode cX6_markAhead 51 = .ok (.invokevirtual 88, 3) := by decide +kernel
theorem dX6_markAhead_54 : decode cX6_markAhead 54 = .ok (.iconst (-1), 1) := by decide +kernel
theorem dX6_markAhead_55 : decode cX6_markAhead 55 = .ok (.ireturn, 1) := by decide +kernel
theorem dX6_takeBearing_0 : decode cX6_takeBearing 0 = .ok (.aload_n 0, 1) := by decide +kernel
theorem dX6_takeBearing_1 : decode cX6_takeBearing 1 = .ok (.ldc 244, 2) := by decide +kernel
theorem dX6_takeBearing_3 : decode cX6_takeBearing 3 = .ok (.invokevirtual 58, 3) := by decide +kernel
theorem dX6_takeBearing_6 : decode cX6_takeBearing 6 = .ok (.ifCond .eq 7, 3) := by decide +kernel
theorem dX6_takeBearing_9 : decode cX6_takeBearing 9 = .ok (.iconst 0, 1) := by decide +kernel
theorem dX6_takeBearing_10 : decode cX6_takeBearing 10 = .ok (.goto 99, 3) := by decide +kernel
theorem dX6_takeBearing_13 : decode cX6_takeBearing 13 = .ok (.aload_n 0, 1) := by decide +kernel
theorem dX6_takeBearing_14 : decode cX6_takeBearing 14 = .ok (.ldc 246, 2) := by decide +kernel
theorem dX6_takeBearing_16 : decode cX6_takeBearing 16 = .ok (.invokevirtual 58, 3) := by decide +kernel
theorem dX6_takeBearing_19 : decode cX6_takeBearing 19 = .ok (.ifCond .eq 7, 3) := by decide +kernel
theorem dX6_takeBearing_22 : decode cX6_takeBearing 22 = .ok (.iconst 1, 1) := by decide +kernel
theorem dX6_takeBearing_23 : decode cX6_takeBearing 23 = .ok (.goto 86, 3) := by decide +kernel
theorem dX6_takeBearing_26 : decode cX6_takeBearing 26 = .ok (.aload_n 0, 1) := by decide +kernel
theorem dX6_takeBearing_27 : decode cX6_takeBearing 27 = .ok (.ldc 248, 2) := by decide +kernel
theorem dX6_takeBearing_29 : decode cX6_takeBearing 29 = .ok (.invokevirtual 58, 3) := by decide +kernel
theorem dX6_takeBearing_32 : decode cX6_takeBearing 32 = .ok (.ifCond .eq 7, 3) := by decide +kernel
theorem dX6_takeBearing_35 : decode cX6_takeBearing 35 = .ok (.iconst 2, 1) := by decide +kernel
theorem dX6_takeBearing_36 : decode cX6_takeBearing 36 = .ok (.goto 73, 3) := by decide +kernel
theorem dX6_takeBearing_39 : decode cX6_takeBearing 39 = .ok (.aload_n 0, 1) := by decide +kernel
theorem dX6_takeBearing_40 : decode cX6_takeBearing 40 = .ok (.ldc 250, 2) := by decide +kernel
theorem dX6_takeBearing_42 : decode cX6_takeBearing 42 = .ok (.invokevirtual 58, 3) := by decide +kernel
theorem dX6_takeBearing_45 : decode cX6_takeBearing 45 = .ok (.ifCond .eq 7, 3) := by decide +kernel
theorem dX6_takeBearing_48 : decode cX6_takeBearing 48 = .ok (.iconst 3, 1) := by decide +kernel
theorem dX6_takeBearing_49 : decode cX6_takeBearing 49 = .ok (.goto 60, 3) := by decide +kernel
theorem dX6_takeBearing_52 : decode cX6_takeBearing 52 = .ok (.aload_n 0, 1) := by decide +kernel
theorem dX6_takeBearing_53 : decode cX6_takeBearing 53 = .ok (.ldc 252, 2) := by decide +kernel
theorem dX6_takeBearing_55 : decode cX6_takeBearing 55 = .ok (.invokevirtual 58, 3) := by decide +kernel
theorem dX6_takeBearing_58 : decode cX6_takeBearing 58 = .ok (.ifCond .eq 7, 3) := by decide +kernel
theorem dX6_takeBearing_61 : decode cX6_takeBearing 61 = .ok (.iconst 4, 1) := by decide +kernel
theorem dX6_takeBearing_62 : decode cX6_takeBearing 62 = .ok (.goto 47, 3) := by decide +kernel
theorem dX6_takeBearing_65 : decode cX6_takeBearing 65 = .ok (.aload_n 0, 1) := by decide +kernel
theorem dX6_takeBearing_66 : decode cX6_takeBearing 66 = .ok (.ldc 254, 2) := by decide +kernel
theorem dX6_takeBearing_68 : decode cX6_takeBearing 68 = .ok (.invokevirtual 58, 3) := by decide +kernel
theorem dX6_takeBearing_71 : decode cX6_takeBearing 71 = .ok (.ifCond .eq 7, 3) := by decide +kernel
theorem dX6_takeBearing_74 : decode cX6_takeBearing 74 = .ok (.iconst 5, 1) := by decide +kernel
theorem dX6_takeBearing_75 : decode cX6_takeBearing 75 = .ok (.goto 34, 3) := by decide +kernel
theorem dX6_takeBearing_78 : decode cX6_takeBearing 78 = .ok (.aload_n 0, 1) := by decide +kernel
theorem dX6_takeBearing_79 : decode cX6_takeBearing 79 = .ok (.ldc_w 256, 3) := by decide +kernel
theorem dX6_takeBearing_82 : decode cX6_takeBearing 82 = .ok (.invokevirtual 58, 3) := by decide +kernel
theorem dX6_takeBearing_85 : decode cX6_takeBearing 85 = .ok (.ifCond .eq 8, 3) := by decide +kernel
theorem dX6_takeBearing_88 : decode cX6_takeBearing 88 = .ok (.bipush 6, 2) := by decide +kernel
theorem dX6_takeBearing_90 : decode cX6_takeBearing 90 = .ok (.goto 19, 3) := by decide +kernel
theorem dX6_takeBearing_93 : decode cX6_takeBearing 93 = .ok (.aload_n 0, 1) := by decide +kernel
theorem dX6_takeBearing_94 : decode cX6_takeBearing 94 = .ok (.ldc_w 258, 3) := by decide +kernel
theorem dX6_takeBearing_97 : decode cX6_takeBearing 97 = .ok (.invokevirtual 58, 3) := by decide +kernel
theorem dX6_takeBearing_100 : decode cX6_takeBearing 100 = .ok (.ifCond .eq 8, 3) := by decide +kernel
theorem dX6_takeBearing_103 : decode cX6_takeBearing 103 = .ok (.bipush 7, 2) := by decide +kernel
theorem dX6_takeBearing_105 : decode cX6_takeBearing 105 = .ok (.goto 4, 3) := by decide +kernel
theorem dX6_takeBearing_108 : decode cX6_takeBearing 108 = .ok (.iconst (-1), 1) := by decide +kernel
theorem dX6_takeBearing_109 : decode cX6_takeBearing 109 = .ok (.istore_n 1, 1) := by decide +kernel
theorem dX6_takeBearing_110 : decode cX6_takeBearing 110 = .ok (.iload_n 1, 1) := by decide +kernel
theorem dX6_takeBearing_111 : decode cX6_takeBearing 111 = .ok (.ifCond .ge 13, 3) := by decide +kernel
theorem dX6_takeBearing_114 : decode cX6_takeBearing 114 = .ok (.aload_n 0, 1) := by decide +kernel
theorem dX6_takeBearing_115 : decode cX6_takeBearing 115 = .ok (.bipush (-2), 2) := by decide +kernel
theorem dX6_takeBearing_117 : decode cX6_takeBearing 117 = .ok (.aload_n 0, 1) := by decide +kernel
theorem dX6_takeBearing_118 : decode cX6_takeBearing 118 = .ok (.getfield 85, 3) := by decide +kernel
theorem dX6_takeBearing_121 : decode cX6_takeBearing 121 = .ok (.invokevirtual 88, 3) := by decide +kernel
theorem dX6_takeBearing_124 : decode cX6_takeBearing 124 = .ok (.aload_n 0, 1) := by decide +kernel
theorem dX6_takeBearing_125 : decode cX6_takeBearing 125 = .ok (.invokevirtual 47, 3) := by decide +kernel
theorem dX6_takeBearing_128 : decode cX6_takeBearing 128 = .ok (.iload_n 1, 1) := by decide +kernel
theorem dX6_takeBearing_129 : decode cX6_takeBearing 129 = .ok (.ireturn, 1) := by decide +kernel
theorem dX6_takeNumber_0 : decode cX6_takeNumber 0 = .ok (.aload_n 0, 1) := by decide +kernel
theorem dX6_takeNumber_1 : decode cX6_takeNumber 1 = .ok (.getfield 53, 3) := by decide +kernel
theorem dX6_takeNumber_4 : decode cX6_takeNumber 4 = .ok (.iconst 2, 1) := by decide +kernel
theorem dX6_takeNumber_5 : decode cX6_takeNumber 5 = .ok (.if_icmp .eq 15, 3) := by decide +kernel
theorem dX6_takeNumber_8 : decode cX6_takeNumber 8 = .ok (.aload_n 0, 1) := by decide +kernel
theorem dX6_takeNumber_9 : decode cX6_takeNumber 9 = .ok (.bipush (-2), 2) := by decide +kernel
theorem dX6_takeNumber_11 : decode cX6_takeNumber 11 = .ok (.aload_n 0, 1) := by decide +kernel
theorem dX6_takeNumber_12 : decode cX6_takeNumber 12 = .ok (.getfield 85, 3) := by decide +kernel
theorem dX6_takeNumber_15 : decode cX6_takeNumber 15 = .ok (.invokevirtual 88, 3) := by decide +kernel
theorem dX6_takeNumber_18 : decode cX6_takeNumber 18 = .ok (.iload_n 1, 1) := by decide +kernel
theorem dX6_takeNumber_19 : decode cX6_takeNumber 19 = .ok (.ireturn, 1) := by decide +kernel
theorem dX6_takeNumber_20 : decode cX6_takeNumber 20 = .ok (.iconst 0, 1) := by decide +kernel
theorem dX6_takeNumber_21 : decode cX6_takeNumber 21 = .ok (.istore_n 3, 1) := by decide +kernel
theorem dX6_takeNumber_22 : decode cX6_takeNumber 22 = .ok (.aload_n 0, 1) := by decide +kernel
theorem dX6_takeNumber_23 : decode cX6_takeNumber 23 = .ok (.getfield 85, 3) := by decide +kernel
theorem dX6_takeNumber_26 : decode cX6_takeNumber 26 = .ok (.istore 4, 2) := by decide +kernel
theorem dX6_takeNumber_28 : decode cX6_takeNumber 28 = .ok (.iload 4, 2) := by decide +kernel
theorem dX6_takeNumber_30 : decode cX6_takeNumber 30 = .ok (.aload_n 0, 1) := by decide +kernel
theorem dX6_takeNumber_31 : decode cX6_takeNumber 31 = .ok (.getfield 38, 3) := by decide +kernel
theorem dX6_takeNumber_34 : decode cX6_takeNumber 34 = .ok (.if_icmp .ge 33, 3) := by decide +kernel
theorem dX6_takeNumber_37 : decode cX6_takeNumber 37 = .ok (.sipush 1000, 3) := by decide +kernel
theorem dX6_takeNumber_40 : decode cX6_takeNumber 40 = .ok (.bipush 10, 2) := by decide +kernel
theorem dX6_takeNumber_42 : decode cX6_takeNumber 42 = .ok (.iload_n 3, 1) := by decide +kernel
theorem dX6_takeNumber_43 : decode cX6_takeNumber 43 = .ok (.imul, 1) := by decide +kernel
theorem dX6_takeNumber_44 : decode cX6_takeNumber 44 = .ok (.aload_n 0, 1) := by decide +kernel
theorem dX6_takeNumber_45 : decode cX6_takeNumber 45 = .ok (.getfield 14, 3) := by decide +kernel
theorem dX6_takeNumber_48 : decode cX6_takeNumber 48 = .ok (.iload 4, 2) := by decide +kernel
theorem dX6_takeNumber_50 : decode cX6_takeNumber 50 = .ok (.invokevirtual 160, 3) := by decide +kernel
theorem dX6_takeNumber_53 : decode cX6_takeNumber 53 = .ok (.iadd, 1) := by decide +kernel
theorem dX6_takeNumber_54 : decode cX6_takeNumber 54 = .ok (.bipush 48, 2) := by decide +kernel
theorem dX6_takeNumber_56 : decode cX6_takeNumber 56 = .ok (.isub, 1) := by decide +kernel
theorem dX6_takeNumber_57 : decode cX6_takeNumber 57 = .ok (.invokestatic 260, 3) := by decide +kernel
theorem dX6_takeNumber_60 : decode cX6_takeNumber 60 = .ok (.istore_n 3, 1) := by decide +kernel
theorem dX6_takeNumber_61 : decode cX6_takeNumber 61 = .ok (.iinc 4 1, 3) := by decide +kernel
theorem dX6_takeNumber_64 : decode cX6_takeNumber 64 = .ok (.goto (-36), 3) := by decide +kernel
theorem dX6_takeNumber_67 : decode cX6_takeNumber 67 = .ok (.iload_n 3, 1) := by decide +kernel
theorem dX6_takeNumber_68 : decode cX6_takeNumber 68 = .ok (.iload_n 1, 1) := by decide +kernel
theorem dX6_takeNumber_69 : decode cX6_takeNumber 69 = .ok (.if_icmp .lt 8, 3) := by decide +kernel
theorem dX6_takeNumber_72 : decode cX6_takeNumber 72 = .ok (.iload_n 3, 1) := by decide +kernel
theorem dX6_takeNumber_73 : decode cX6_takeNumber 73 = .ok (.iload_n 2, 1) := by decide +kernel
theorem dX6_takeNumber_74 : decode cX6_takeNumber 74 = .ok (.if_icmp .le 15, 3) := by decide +kernel
theorem dX6_takeNumber_77 : decode cX6_takeNumber 77 = .ok (.aload_n 0, 1) := by decide +kernel
theorem dX6_takeNumber_78 : decode cX6_takeNumber 78 = .ok (.bipush (-3), 2) := by decide +kernel
theorem dX6_takeNumber_80 : decode cX6_takeNumber 80 = .ok (.aload_n 0, 1) := by decide +kernel
theorem dX6_takeNumber_81 : decode cX6_takeNumber 81 = .ok (.getfield 85, 3) := by decide +kernel
theorem dX6_takeNumber_84 : decode cX6_takeNumber 84 = .ok (.invokevirtual 88, 3) := by decide +kernel
theorem dX6_takeNumber_87 : decode cX6_takeNumber 87 = .ok (.iload_n 1, 1) := by decide +kernel
theorem dX6_takeNumber_88 : decode cX6_takeNumber 88 = .ok (.ireturn, 1) := by decide +kernel
theorem dX6_takeNumber_89 : decode cX6_takeNumber 89 = .ok (.aload_n 0, 1) := by decide +kernel
theorem dX6_takeNumber_90 : decode cX6_takeNumber 90 = .ok (.invokevirtual 47, 3) := by decide +kernel
theorem dX6_takeNumber_93 : decode cX6_takeNumber 93 = .ok (.iload_n 3, 1) := by decide +kernel
theorem dX6_takeNumber_94 : decode cX6_takeNumber 94 = .ok (.ireturn, 1) := by decide +kernel
theorem dX6_takeWord_0 : decode cX6_takeWord 0 = .ok (.aload_n 0, 1) := by decide +kernel
theorem dX6_takeWord_1 : decode cX6_takeWord 1 = .ok (.aload_n 1, 1) := by decide +kernel
theorem dX6_takeWord_2 : decode cX6_takeWord 2 = .ok (.invokevirtual 58, 3) := by decide +kernel
theorem dX6_takeWord_5 : decode cX6_takeWord 5 = .ok (.ifCond .ne 13, 3) := by decide +kernel
theorem dX6_takeWord_8 : decode cX6_takeWord 8 = .ok (.aload_n 0, 1) := by decide +kernel
theorem dX6_takeWord_9 : decode cX6_takeWord 9 = .ok (.bipush (-2), 2) := by decide +kernel
theorem dX6_takeWord_11 : decode cX6_takeWord 11 = .ok (.aload_n 0, 1) := by decide +kernel
theorem dX6_takeWord_12 : decode cX6_takeWord 12 = .ok (.getfield 85, 3) := by decide +kernel
theorem dX6_takeWord_15 : decode cX6_takeWord 15 = .ok (.invokevirtual 88, 3) := by decide +kernel
theorem dX6_takeWord_18 : decode cX6_takeWord 18 = .ok (.aload_n 0, 1) := by decide +kernel
theorem dX6_takeWord_19 : decode cX6_takeWord 19 = .ok (.invokevirtual 47, 3) := by decide +kernel
theorem dX6_takeWord_22 : decode cX6_takeWord 22 = .ok (.return_, 1) := by decide +kernel
theorem dX6_takeSemicolon_0 : decode cX6_takeSemicolon 0 = .ok (.aload_n 0, 1) := by decide +kernel
theorem dX6_takeSemicolon_1 : decode cX6_takeSemicolon 1 = .ok (.getfield 53, 3) := by decide +kernel
theorem dX6_takeSemicolon_4 : decode cX6_takeSemicolon 4 = .ok (.iconst 3, 1) := by decide +kernel
theorem dX6_takeSemicolon_5 : decode cX6_takeSemicolon 5 = .ok (.if_icmp .ne 19, 3) := by decide +kernel
theorem dX6_takeSemicolon_8 : decode cX6_takeSemicolon 8 = .ok (.aload_n 0, 1) := by decide +kernel
theorem dX6_takeSemicolon_9 : decode cX6_takeSemicolon 9 = .ok (.getfield 14, 3) := by decide +kernel
theorem dX6_takeSemicolon_12 : decode cX6_takeSemicolon 12 = .ok (.aload_n 0, 1) := by decide +kernel
theorem dX6_takeSemicolon_13 : decode cX6_takeSemicolon 13 = .ok (.getfield 85, 3) := by decide +kernel
theorem dX6_takeSemicolon_16 : decode cX6_takeSemicolon 16 = .ok (.invokevirtual 160, 3) := by decide +kernel
theorem dX6_takeSemicolon_19 : decode cX6_takeSemicolon 19 = .ok (.bipush 59, 2) := by decide +kernel
theorem dX6_takeSemicolon_21 : decode cX6_takeSemicolon 21 = .ok (.if_icmp .eq 13, 3) := by decide +kernel
theorem dX6_takeSemicolon_24 : decode cX6_takeSemicolon 24 = .ok (.aload_n 0, 1) := by decide +kernel
theorem dX6_takeSemicolon_25 : decode cX6_takeSemicolon 25 = .ok (.bipush (-2), 2) := by decide +kernel
theorem dX6_takeSemicolon_27 : decode cX6_takeSemicolon 27 = .ok (.aload_n 0, 1) := by decide +kernel
theorem dX6_takeSemicolon_28 : decode cX6_takeSemicolon 28 = .ok (.getfield 85, 3) := by decide +kernel
theorem dX6_takeSemicolon_31 : decode cX6_takeSemicolon 31 = .ok (.invokevirtual 88, 3) := by decide +kernel
theorem dX6_takeSemicolon_34 : decode cX6_takeSemicolon 34 = .ok (.aload_n 0, 1) := by decide +kernel
theorem dX6_takeSemicolon_35 : decode cX6_takeSemicolon 35 = .ok (.invokevirtual 47, 3) := by decide +kernel
theorem dX6_takeSemicolon_38 : decode cX6_takeSemicolon 38 = .ok (.return_, 1) := by decide +kernel
theorem dX6_isWord_0 : decode cX6_isWord 0 = .ok (.aload_n 0, 1) := by decide +kernel
theorem dX6_isWord_1 : decode cX6_isWord 1 = .ok (.getfield 53, 3) := by decide +kernel
theorem dX6_isWord_4 : decode cX6_isWord 4 = .ok (.iconst 1, 1) := by decide +kernel
theorem dX6_isWord_5 : decode cX6_isWord 5 = .ok (.if_icmp .ne 19, 3) := by decide +kernel
theorem dX6_isWord_8 : decode cX6_isWord 8 = .ok (.aload_n 0, 1) := by decide +kernel
theorem dX6_isWord_9 : decode cX6_isWord 9 = .ok (.getfield 38, 3) := by decide +kernel
theorem dX6_isWord_12 : decode cX6_isWord 12 = .ok (.aload_n 0, 1) := by decide +kernel
theorem dX6_isWord_13 : decode cX6_isWord 13 = .ok (.getfield 85, 3) := by decide +kernel
theorem dX6_isWord_16 : decode cX6_isWord 16 = .ok (.isub, 1) := by decide +kernel
theorem dX6_isWord_17 : decode cX6_isWord 17 = .ok (.aload_n 1, 1) := by decide +kernel
theorem dX6_isWord_18 : decode cX6_isWord 18 = .ok (.invokevirtual 263, 3) := by decide +kernel
theorem dX6_isWord_21 : decode cX6_isWord 21 = .ok (.if_icmp .eq 5, 3) := by decide +kernel
theorem dX6_isWord_24 : decode cX6_isWord 24 = .ok (.iconst 0, 1) := by decide +kernel
theorem dX6_isWord_25 : decode cX6_isWord 25 = .ok (.ireturn, 1) := by decide +kernel
theorem dX6_isWord_26 : decode cX6_isWord 26 = .ok (.iconst 0, 1) := by decide +kernel
theorem dX6_isWord_27 : decode cX6_isWord 27 = .ok (.istore_n 2, 1) := by decide +kernel
theorem dX6_isWord_28 : decode cX6_isWord 28 = .ok (.iload_n 2, 1) := by decide +kernel
theorem dX6_isWord_29 : decode cX6_isWord 29 = .ok (.aload_n 1, 1) := by decide +kernel
theorem dX6_isWord_30 : decode cX6_isWord 30 = .ok (.invokevirtual 263, 3) := by decide +kernel
theorem dX6_isWord_33 : decode cX6_isWord 33 = .ok (.if_icmp .ge 32, 3) := by decide +kernel
theorem dX6_isWord_36 : decode cX6_isWord 36 = .ok (.aload_n 0, 1) := by decide +kernel
theorem dX6_isWord_37 : decode cX6_isWord 37 = .ok (.getfield 14, 3) := by decide +kernel
theorem dX6_isWord_40 : decode cX6_isWord 40 = .ok (.aload_n 0, 1) := by decide +kernel
theorem dX6_isWord_41 : decode cX6_isWord 41 = .ok (.getfield 85, 3) := by decide +kernel
theorem dX6_isWord_44 : decode cX6_isWord 44 = .ok (.iload_n 2, 1) := by decide +kernel
theorem dX6_isWord_45 : decode cX6_isWord 45 = .ok (.iadd, 1) := by decide +kernel
theorem dX6_isWord_46 : decode cX6_isWord 46 = .ok (.invokevirtual 160, 3) := by decide +kernel
theorem dX6_isWord_49 : decode cX6_isWord 49 = .ok (.aload_n 1, 1) := by decide +kernel
theorem dX6_isWord_50 : decode cX6_isWord 50 = .ok (.iload_n 2, 1) := by decide +kernel
theorem dX6_isWord_51 : decode cX6_isWord 51 = .ok (.invokevirtual 267, 3) := by decide +kernel
theorem dX6_isWord_54 : decode cX6_isWord 54 = .ok (.if_icmp .eq 5, 3) := by decide +kernel
theorem dX6_isWord_57 : decode cX6_isWord 57 = .ok (.iconst 0, 1) := by decide +kernel
theorem dX6_isWord_58 : decode cX6_isWord 58 = .ok (.ireturn, 1) := by decide +kernel
theorem dX6_isWord_59 : decode cX6_isWord 59 = .ok (.iinc 2 1, 3) := by decide +kernel
theorem dX6_isWord_62 : decode cX6_isWord 62 = .ok (.goto (-34), 3) := by decide +kernel
theorem dX6_isWord_65 : decode cX6_isWord 65 = .ok (.iconst 1, 1) := by decide +kernel
theorem dX6_isWord_66 : decode cX6_isWord 66 = .ok (.ireturn, 1) := by decide +kernel
theorem dX6_advance_0 : decode cX6_advance 0 = .ok (.aload_n 0, 1) := by decide +kernel
theorem dX6_advance_1 : decode cX6_advance 1 = .ok (.aload_n 0, 1) := by decide +kernel
theorem dX6_advance_2 : decode cX6_advance 2 = .ok (.getfield 38, 3) := by decide +kernel
theorem dX6_advance_5 : decode cX6_advance 5 = .ok (.putfield 85, 3) := by decide +kernel
theorem dX6_advance_8 : decode cX6_advance 8 = .ok (.aload_n 0, 1) := by decide +kernel
theorem dX6_advance_9 : decode cX6_advance 9 = .ok (.getfield 85, 3) := by decide +kernel
theorem dX6_advance_12 : decode cX6_advance 12 = .ok (.aload_n 0, 1) := by decide +kernel
theorem dX6_advance_13 : decode cX6_advance 13 = .ok (.getfield 35, 3) := by decide +kernel
theorem dX6_advance_16 : decode cX6_advance 16 = .ok (.if_icmp .ge 32, 3) := by decide +kernel
theorem dX6_advance_19 : decode cX6_advance 19 = .ok (.aload_n 0, 1) := by decide +kernel
theorem dX6_advance_20 : decode cX6_advance 20 = .ok (.getfield 14, 3) := by decide +kernel
theorem dX6_advance_23 : decode cX6_advance 23 = .ok (.aload_n 0, 1) := by decide +kernel
theorem dX6_advance_24 : decode cX6_advance 24 = .ok (.getfield 85, 3) := by decide +kernel
theorem dX6_advance_27 : decode cX6_advance 27 = .ok (.invokevirtual 160, 3) := by decide +kernel
theorem dX6_advance_30 : decode cX6_advance 30 = .ok (.bipush 32, 2) := by decide +kernel
theorem dX6_advance_32 : decode cX6_advance 32 = .ok (.if_icmp .ne 16, 3) := by decide +kernel
theorem dX6_advance_35 : decode cX6_advance 35 = .ok (.aload_n 0, 1) := by decide +kernel
theorem dX6_advance_36 : decode cX6_advance 36 = .ok (.dup, 1) := by decide +kernel
theorem dX6_advance_37 : decode cX6_advance 37 = .ok (.getfield 85, 3) := by decide +kernel
theorem dX6_advance_40 : decode cX6_advance 40 = .ok (.iconst 1, 1) := by decide +kernel
theorem dX6_advance_41 : decode cX6_advance 41 = .ok (.iadd, 1) := by decide +kernel
theorem dX6_advance_42 : decode cX6_advance 42 = .ok (.putfield 85, 3) := by decide +kernel
theorem dX6_advance_45 : decode cX6_advance 45 = .ok (.goto (-37), 3) := by decide +kernel
theorem dX6_advance_48 : decode cX6_advance 48 = .ok (.aload_n 0, 1) := by decide +kernel
theorem dX6_advance_49 : decode cX6_advance 49 = .ok (.aload_n 0, 1) := by decide +kernel
theorem dX6_advance_50 : decode cX6_advance 50 = .ok (.getfield 85, 3) := by decide +kernel
theorem dX6_advance_53 : decode cX6_advance 53 = .ok (.aload_n 0, 1) := by decide +kernel

theorem dX4_init_18 : decode cX4_init 18 = .ok (.aload_n 0, 1) := by decide +kernel
theorem dX4_init_19 : decode cX4_init 19 = .ok (.iload_n 3, 1) := by decide +kernel
theorem dX4_init_20 : decode cX4_init 20 = .ok (.ifCond .ge 7, 3) := by decide +kernel
theorem dX4_init_23 : decode cX4_init 23 = .ok (.iconst 0, 1) := by decide +kernel
theorem dX4_init_24 : decode cX4_init 24 = .ok (.goto 4, 3) := by decide +kernel
theorem dX4_init_27 : decode cX4_init 27 = .ok (.iload_n 3, 1) := by decide +kernel
theorem dX4_init_28 : decode cX4_init 28 = .ok (.newarray .int, 2) := by decide +kernel
theorem dX4_init_30 : decode cX4_init 30 = .ok (.putfield 18, 3) := by decide +kernel
theorem dX4_init_33 : decode cX4_init 33 = .ok (.return_, 1) := by decide +kernel
theorem dX4_get_0 : decode cX4_get 0 = .ok (.iload_n 1, 1) := by decide +kernel
theorem dX4_get_1 : decode cX4_get 1 = .ok (.ifCond .lt 23, 3) := by decide +kernel
theorem dX4_get_4 : decode cX4_get 4 = .ok (.iload_n 1, 1) := by decide +kernel
theorem dX4_get_5 : decode cX4_get 5 = .ok (.aload_n 0, 1) := by decide +kernel
theorem dX4_get_6 : decode cX4_get 6 = .ok (.getfield 9, 3) := by decide +kernel
theorem dX4_get_9 : decode cX4_get 9 = .ok (.if_icmp .ge 15, 3) := by decide +kernel
theorem dX4_get_12 : decode cX4_get 12 = .ok (.iload_n 2, 1) := by decide +kernel
theorem dX4_get_13 : decode cX4_get 13 = .ok (.ifCond .lt 11, 3) := by decide +kernel
theorem dX4_get_16 : decode cX4_get 16 = .ok (.iload_n 2, 1) := by decide +kernel
theorem dX4_get_17 : decode cX4_get 17 = .ok (.aload_n 0, 1) := by decide +kernel
theorem dX4_get_18 : decode cX4_get 18 = .ok (.getfield 15, 3) := by decide +kernel
theorem dX4_get_21 : decode cX4_get 21 = .ok (.if_icmp .lt 5, 3) := by decide +kernel
theorem dX4_get_24 : decode cX4_get 24 = .ok (.iconst (-1), 1) := by decide +kernel
theorem dX4_get_25 : decode cX4_get 25 = .ok (.ireturn, 1) := by decide +kernel
theorem dX4_get_26 : decode cX4_get 26 = .ok (.iload_n 1, 1) := by decide +kernel
theorem dX4_get_27 : decode cX4_get 27 = .ok (.aload_n 0, 1) := by decide +kernel
theorem dX4_get_28 : decode cX4_get 28 = .ok (.getfield 15, 3) := by decide +kernel
theorem dX4_get_31 : decode cX4_get 31 = .ok (.imul, 1) := by decide +kernel
theorem dX4_get_32 : decode cX4_get 32 = .ok (.iload_n 2, 1) := by decide +kernel
theorem dX4_get_33 : decode cX4_get 33 = .ok (.iadd, 1) := by decide +kernel
theorem dX4_get_34 : decode cX4_get 34 = .ok (.istore_n 3, 1) := by decide +kernel
theorem dX4_get_35 : decode cX4_get 35 = .ok (.iload_n 3, 1) := by decide +kernel
theorem dX4_get_36 : decode cX4_get 36 = .ok (.ifCond .lt 21, 3) := by decide +kernel
theorem dX4_get_39 : decode cX4_get 39 = .ok (.iload_n 3, 1) := by decide +kernel
theorem dX4_get_40 : decode cX4_get 40 = .ok (.aload_n 0, 1) := by decide +kernel
theorem dX4_get_41 : decode cX4_get 41 = .ok (.getfield 18, 3) := by decide +kernel
theorem dX4_get_44 : decode cX4_get 44 = .ok (.arraylength, 1) := by decide +kernel
theorem dX4_get_45 : decode cX4_get 45 = .ok (.if_icmp .ge 12, 3) := by decide +kernel
theorem dX4_get_48 : decode cX4_get 48 = .ok (.aload_n 0, 1) := by decide +kernel
theorem dX4_get_49 : decode cX4_get 49 = .ok (.getfield 18, 3) := by decide +kernel
theorem dX4_get_52 : decode cX4_get 52 = .ok (.iload_n 3, 1) := by decide +kernel
theorem dX4_get_53 : decode cX4_get 53 = .ok (.iaload, 1) := by decide +kernel
theorem dX4_get_54 : decode cX4_get 54 = .ok (.goto 4, 3) := by decide +kernel
theorem dX4_get_57 : decode cX4_get 57 = .ok (.iconst (-1), 1) := by decide +kernel
theorem dX4_get_58 : decode cX4_get 58 = .ok (.ireturn, 1) := by decide +kernel
theorem dX4_set_0 : decode cX4_set 0 = .ok (.iload_n 1, 1) := by decide +kernel
theorem dX4_set_1 : decode cX4_set 1 = .ok (.ifCond .lt 23, 3) := by decide +kernel
theorem dX4_set_4 : decode cX4_set 4 = .ok (.iload_n 1, 1) := by decide +kernel
theorem dX4_set_5 : decode cX4_set 5 = .ok (.aload_n 0, 1) := by decide +kernel
theorem dX4_set_6 : decode cX4_set 6 = .ok (.getfield 9, 3) := by decide +kernel
theorem dX4_set_9 : decode cX4_set 9 = .ok (.if_icmp .ge 15, 3) := by decide +kernel
theorem dX4_set_12 : decode cX4_set 12 = .ok (.iload_n 2, 1) := by decide +kernel
theorem dX4_set_13 : decode cX4_set 13 = .ok (.ifCond .lt 11, 3) := by decide +kernel
theorem dX4_set_16 : decode cX4_set 16 = .ok (.iload_n 2, 1) := by decide +kernel
theorem dX4_set_17 : decode cX4_set 17 = .ok (.aload_n 0, 1) := by decide +kernel
theorem dX4_set_18 : decode cX4_set 18 = .ok (.getfield 15, 3) := by decide +kernel
theorem dX4_set_21 : decode cX4_set 21 = .ok (.if_icmp .lt 4, 3) := by decide +kernel
theorem dX4_set_24 : decode cX4_set 24 = .ok (.return_, 1) := by decide +kernel
theorem dX4_set_25 : decode cX4_set 25 = .ok (.iload_n 1, 1) := by decide +kernel
theorem dX4_set_26 : decode cX4_set 26 = .ok (.aload_n 0, 1) := by decide +kernel
theorem dX4_set_27 : decode cX4_set 27 = .ok (.getfield 15, 3) := by decide +kernel
theorem dX4_set_30 : decode cX4_set 30 = .ok (.imul, 1) := by decide +kernel
theorem dX4_set_31 : decode cX4_set 31 = .ok (.iload_n 2, 1) := by decide +kernel
theorem dX4_set_32 : decode cX4_set 32 = .ok (.iadd, 1) := by decide +kernel
theorem dX4_set_33 : decode cX4_set 33 = .ok (.istore 4, 2) := by decide +kernel
theorem dX4_set_35 : decode cX4_set 35 = .ok (.iload 4, 2) := by decide +kernel
theorem dX4_set_37 : decode cX4_set 37 = .ok (.ifCond .lt 21, 3) := by decide +kernel
theorem dX4_set_40 : decode cX4_set 40 = .ok (.iload 4, 2) := by decide +kernel
theorem dX4_set_42 : decode cX4_set 42 = .ok (.aload_n 0, 1) := by decide +kernel
theorem dX4_set_43 : decode cX4_set 43 = .ok (.getfield 18, 3) := by decide +kernel
theorem dX4_set_46 : decode cX4_set 46 = .ok (.arraylength, 1) := by decide +kernel
theorem dX4_set_47 : decode cX4_set 47 = .ok (.if_icmp .ge 11, 3) := by decide +kernel
theorem dX4_set_50 : decode cX4_set 50 = .ok (.aload_n 0, 1) := by decide +kernel
theorem dX4_set_51 : decode cX4_set 51 = .ok (.getfield 18, 3) := by decide +kernel
theorem dX4_set_54 : decode cX4_set 54 = .ok (.iload 4, 2) := by decide +kernel
theorem dX4_set_56 : decode cX4_set 56 = .ok (.iload_n 3, 1) := by decide +kernel
theorem dX4_set_57 : decode cX4_set 57 = .ok (.iastore, 1) := by decide +kernel
theorem dX4_set_58 : decode cX4_set 58 = .ok (.return_, 1) := by decide +kernel
theorem dX4_add_0 : decode cX4_add 0 = .ok (.aload_n 0, 1) := by decide +kernel
theorem dX4_add_1 : decode cX4_add 1 = .ok (.iload_n 1, 1) := by decide +kernel
theorem dX4_add_2 : decode cX4_add 2 = .ok (.iload_n 2, 1) := by decide +kernel
theorem dX4_add_3 : decode cX4_add 3 = .ok (.aload_n 0, 1) := by decide +kernel
theorem dX4_add_4 : decode cX4_add 4 = .ok (.iload_n 1, 1) := by decide +kernel
theorem dX4_add_5 : decode cX4_add 5 = .ok (.iload_n 2, 1) := by decide +kernel
theorem dX4_add_6 : decode cX4_add 6 = .ok (.invokevirtual 22, 3) := by decide +kernel
theorem dX4_add_9 : decode cX4_add 9 = .ok (.iload_n 3, 1) := by decide +kernel
theorem dX4_add_10 : decode cX4_add 10 = .ok (.iadd, 1) := by decide +kernel
theorem dX4_add_11 : decode cX4_add 11 = .ok (.invokevirtual 26, 3) := by decide +kernel
theorem dX4_add_14 : decode cX4_add 14 = .ok (.return_, 1) := by decide +kernel
theorem dX4_sum_0 : decode cX4_sum 0 = .ok (.iconst 0, 1) := by decide +kernel
theorem dX4_sum_1 : decode cX4_sum 1 = .ok (.istore_n 2, 1) := by decide +kernel
theorem dX4_sum_2 : decode cX4_sum 2 = .ok (.iconst 0, 1) := by decide +kernel
theorem dX4_sum_3 : decode cX4_sum 3 = .ok (.istore_n 3, 1) := by decide +kernel
theorem dX4_sum_4 : decode cX4_sum 4 = .ok (.iload_n 3, 1) := by decide +kernel
theorem dX4_sum_5 : decode cX4_sum 5 = .ok (.aload_n 0, 1) := by decide +kernel
theorem dX4_sum_6 : decode cX4_sum 6 = .ok (.getfield 9, 3) := by decide +kernel
theorem dX4_sum_9 : decode cX4_sum 9 = .ok (.if_icmp .ge 18, 3) := by decide +kernel
theorem dX4_sum_12 : decode cX4_sum 12 = .ok (.iload_n 2, 1) := by decide +kernel
theorem dX4_sum_13 : decode cX4_sum 13 = .ok (.aload_n 0, 1) := by decide +kernel
theorem dX4_sum_14 : decode cX4_sum 14 = .ok (.iload_n 3, 1) := by decide +kernel
theorem dX4_sum_15 : decode cX4_sum 15 = .ok (.iload_n 1, 1) := by decide +kernel
theorem dX4_sum_16 : decode cX4_sum 16 = .ok (.invokevirtual 22, 3) := by decide +kernel
theorem dX4_sum_19 : decode cX4_sum 19 = .ok (.iadd, 1) := by decide +kernel
theorem dX4_sum_20 : decode cX4_sum 20 = .ok (.istore_n 2, 1) := by decide +kernel
theorem dX4_sum_21 : decode cX4_sum 21 = .ok (.iinc 3 1, 3) := by decide +kernel
theorem dX4_sum_24 : decode cX4_sum 24 = .ok (.goto (-20), 3) := by decide +kernel
theorem dX4_sum_27 : decode cX4_sum 27 = .ok (.iload_n 2, 1) := by decide +kernel
theorem dX4_sum_28 : decode cX4_sum 28 = .ok (.ireturn, 1) := by decide +kernel
theorem dX4_takeFrom_0 : decode cX4_takeFrom 0 = .ok (.aload_n 1, 1) := by decide +kernel
theorem dX4_takeFrom_1 : decode cX4_takeFrom 1 = .ok (.getfield 18, 3) := by decide +kernel
theorem dX4_takeFrom_4 : decode cX4_takeFrom 4 = .ok (.iconst 0, 1) := by decide +kernel
theorem dX4_takeFrom_5 : decode cX4_takeFrom 5 = .ok (.aload_n 0, 1) := by decide +kernel
theorem dX4_takeFrom_6 : decode cX4_takeFrom 6 = .ok (.getfield 18, 3) := by decide +kernel
theorem dX4_takeFrom_9 : decode cX4_takeFrom 9 = .ok (.iconst 0, 1) := by decide +kernel
theorem dX4_takeFrom_10 : decode cX4_takeFrom 10 = .ok (.aload_n 1, 1) := by decide +kernel
theorem dX4_takeFrom_11 : decode cX4_takeFrom 11 = .ok (.getfield 18, 3) := by decide +kernel
theorem dX4_takeFrom_14 : decode cX4_takeFrom 14 = .ok (.arraylength, 1) := by decide +kernel
theorem dX4_takeFrom_15 : decode cX4_takeFrom 15 = .ok (.aload_n 0, 1) := by decide +kernel
theorem dX4_takeFrom_16 : decode cX4_takeFrom 16 = .ok (.getfield 18, 3) := by decide +kernel
theorem dX4_takeFrom_19 : decode cX4_takeFrom 19 = .ok (.arraylength, 1) := by decide +kernel
theorem dX4_takeFrom_20 : decode cX4_takeFrom 20 = .ok (.invokestatic 30, 3) := by decide +kernel
theorem dX4_takeFrom_23 : decode cX4_takeFrom 23 = .ok (.invokestatic 35, 3) := by decide +kernel
theorem dX4_takeFrom_26 : decode cX4_takeFrom 26 = .ok (.return_, 1) := by decide +kernel
theorem dX5_init_0 : decode cX5_init 0 = .ok (.aload_n 0, 1) := by decide +kernel
theorem dX5_init_1 : decode cX5_init 1 = .ok (.invokespecial 3, 3) := by decide +kernel
theorem dX5_init_4 : decode cX5_init 4 = .ok (.aload_n 0, 1) := by decide +kernel
theorem dX5_init_5 : decode cX5_init 5 = .ok (.bipush 24, 2) := by decide +kernel
theorem dX5_init_7 : decode cX5_init 7 = .ok (.newarray .long, 2) := by decide +kernel
theorem dX5_init_9 : decode cX5_init 9 = .ok (.putfield 9, 3) := by decide +kernel
theorem dX5_init_12 : decode cX5_init 12 = .ok (.aload_n 0, 1) := by decide +kernel
theorem dX5_init_13 : decode cX5_init 13 = .ok (.iconst (-1), 1) := by decide +kernel
theorem dX5_init_14 : decode cX5_init 14 = .ok (.putfield 15, 3) := by decide +kernel
theorem dX5_init_17 : decode cX5_init 17 = .ok (.aload_n 0, 1) := by decide +kernel
theorem dX5_init_18 : decode cX5_init 18 = .ok (.iconst (-1), 1) := by decide +kernel
theorem dX5_init_19 : decode cX5_init 19 = .ok (.putfield 19, 3) := by decide +kernel
theorem dX5_init_22 : decode cX5_init 22 = .ok (.aload_n 0, 1) := by decide +kernel
theorem dX5_init_23 : decode cX5_init 23 = .ok (.iconst (-1), 1) := by decide +kernel
theorem dX5_init_24 : decode cX5_init 24 = .ok (.putfield 22, 3) := by decide +kernel
theorem dX5_init_27 : decode cX5_init 27 = .ok (.return_, 1) := by decide +kernel
theorem dX5_clear_0 : decode cX5_clear 0 = .ok (.iconst 0, 1) := by decide +kernel
theorem dX5_clear_1 : decode cX5_clear 1 = .ok (.istore_n 1, 1) := by decide +kernel
theorem dX5_clear_2 : decode cX5_clear 2 = .ok (.iload_n 1, 1) := by decide +kernel
theorem dX5_clear_3 : decode cX5_clear 3 = .ok (.aload_n 0, 1) := by decide +kernel
theorem dX5_clear_4 : decode cX5_clear 4 = .ok (.getfield 9, 3) := by decide +kernel
theorem dX5_clear_7 : decode cX5_clear 7 = .ok (.arraylength, 1) := by decide +kernel
theorem dX5_clear_8 : decode cX5_clear 8 = .ok (.if_icmp .ge 16, 3) := by decide +kernel
theorem dX5_clear_11 : decode cX5_clear 11 = .ok (.aload_n 0, 1) := by decide +kernel
theorem dX5_clear_12 : decode cX5_clear 12 = .ok (.getfield 9, 3) := by decide +kernel
theorem dX5_clear_15 : decode cX5_clear 15 = .ok (.iload_n 1, 1) := by decide +kernel
theorem dX5_clear_16 : decode cX5_clear 16 = .ok (.lconst 0, 1) := by decide +kernel
theorem dX5_clear_17 : decode cX5_clear 17 = .ok (.lastore, 1) := by decide +kernel
theorem dX5_clear_18 : decode cX5_clear 18 = .ok (.iinc 1 1, 3) := by decide +kernel
theorem dX5_clear_21 : decode cX5_clear 21 = .ok (.goto (-19), 3) := by decide +kernel
theorem dX5_clear_24 : decode cX5_clear 24 = .ok (.return_, 1) := by decide +kernel
theorem dX5_takeFrom_0 : decode cX5_takeFrom 0 = .ok (.aload_n 1, 1) := by decide +kernel
theorem dX5_takeFrom_1 : decode cX5_takeFrom 1 = .ok (.getfield 9, 3) := by decide +kernel
theorem dX5_takeFrom_4 : decode cX5_takeFrom 4 = .ok (.iconst 0, 1) := by decide +kernel
theorem dX5_takeFrom_5 : decode cX5_takeFrom 5 = .ok (.aload_n 0, 1) := by decide +kernel
theorem dX5_takeFrom_6 : decode cX5_takeFrom 6 = .ok (.getfield 9, 3) := by decide +kernel
theorem dX5_takeFrom_9 : decode cX5_takeFrom 9 = .ok (.iconst 0, 1) := by decide +kernel
theorem dX5_takeFrom_10 : decode cX5_takeFrom 10 = .ok (.aload_n 1, 1) := by decide +kernel
theorem dX5_takeFrom_11 : decode cX5_takeFrom 11 = .ok (.getfield 9, 3) := by decide +kernel
theorem dX5_takeFrom_14 : decode cX5_takeFrom 14 = .ok (.arraylength, 1) := by decide +kernel
theorem dX5_takeFrom_15 : decode cX5_takeFrom 15 = .ok (.aload_n 0, 1) := by decide +kernel
theorem dX5_takeFrom_16 : decode cX5_takeFrom 16 = .ok (.getfield 9, 3) := by decide +kernel
theorem dX5_takeFrom_19 : decode cX5_takeFrom 19 = .ok (.arraylength, 1) := by decide +kernel
theorem dX5_takeFrom_20 : decode cX5_takeFrom 20 = .ok (.invokestatic 25, 3) := by decide +kernel
theorem dX5_takeFrom_23 : decode cX5_takeFrom 23 = .ok (.invokestatic 31, 3) := by decide +kernel
theorem dX5_takeFrom_26 : decode cX5_takeFrom 26 = .ok (.return_, 1) := by decide +kernel
theorem dX5_connect_0 : decode cX5_connect 0 = .ok (.iload_n 1, 1) := by decide +kernel
theorem dX5_connect_1 : decode cX5_connect 1 = .ok (.ifCond .lt 38, 3) := by decide +kernel
theorem dX5_connect_4 : decode cX5_connect 4 = .ok (.iload_n 1, 1) := by decide +kernel
theorem dX5_connect_5 : decode cX5_connect 5 = .ok (.aload_n 0, 1) := by decide +kernel
theorem dX5_connect_6 : decode cX5_connect 6 = .ok (.getfield 9, 3) := by decide +kernel
theorem dX5_connect_9 : decode cX5_connect 9 = .ok (.arraylength, 1) := by decide +kernel
theorem dX5_connect_10 : decode cX5_connect 10 = .ok (.if_icmp .ge 29, 3) := by decide +kernel
theorem dX5_connect_13 : decode cX5_connect 13 = .ok (.aload_n 0, 1) := by decide +kernel
theorem dX5_connect_14 : decode cX5_connect 14 = .ok (.getfield 9, 3) := by decide +kernel
theorem dX5_connect_17 : decode cX5_connect 17 = .ok (.iload_n 1, 1) := by decide +kernel
theorem dX5_connect_18 : decode cX5_connect 18 = .ok (.dup2, 1) := by decide +kernel
theorem dX5_connect_19 : decode cX5_connect 19 = .ok (.laload, 1) := by decide +kernel
theorem dX5_connect_20 : decode cX5_connect 20 = .ok (.lconst 1, 1) := by decide +kernel
theorem dX5_connect_21 : decode cX5_connect 21 = .ok (.iload_n 2, 1) := by decide +kernel
theorem dX5_connect_22 : decode cX5_connect 22 = .ok (.bipush 8, 2) := by decide +kernel
theorem dX5_connect_24 : decode cX5_connect 24 = .ok (.imul, 1) := by decide +kernel
theorem dX5_connect_25 : decode cX5_connect 25 = .ok (.iload_n 3, 1) := by decide +kernel
theorem dX5_connect_26 : decode cX5_connect 26 = .ok (.iadd, 1) := by decide +kernel
theorem dX5_connect_27 : decode cX5_connect 27 = .ok (.lshl, 1) := by decide +kernel
theorem dX5_connect_28 : decode cX5_connect 28 = .ok (.lconst 1, 1) := by decide +kernel
theorem dX5_connect_29 : decode cX5_connect 29 = .ok (.iload_n 3, 1) := by decide +kernel
theorem dX5_connect_30 : decode cX5_connect 30 = .ok (.bipush 8, 2) := by decide +kernel
theorem dX5_connect_32 : decode cX5_connect 32 = .ok (.imul, 1) := by decide +kernel
theorem dX5_connect_33 : decode cX5_connect 33 = .ok (.iload_n 2, 1) := by decide +kernel
theorem dX5_connect_34 : decode cX5_connect 34 = .ok (.iadd, 1) := by decide +kernel
theorem dX5_connect_35 : decode cX5_connect 35 = .ok (.lshl, 1) := by decide +kernel
theorem dX5_connect_36 : decode cX5_connect 36 = .ok (.lor, 1) := by decide +kernel
theorem dX5_connect_37 : decode cX5_connect 37 = .ok (.lor, 1) := by decide +kernel
theorem dX5_connect_38 : decode cX5_connect 38 = .ok (.lastore, 1) := by decide +kernel
theorem dX5_connect_39 : decode cX5_connect 39 = .ok (.return_, 1) := by decide +kernel
theorem dX5_goesFrom_0 : decode cX5_goesFrom 0 = .ok (.aload_n 0, 1) := by decide +kernel
theorem dX5_goesFrom_1 : decode cX5_goesFrom 1 = .ok (.iload_n 2, 1) := by decide +kernel
theorem dX5_goesFrom_2 : decode cX5_goesFrom 2 = .ok (.invokevirtual 37, 3) := by decide +kernel
theorem dX5_goesFrom_5 : decode cX5_goesFrom 5 = .ok (.iload_n 1, 1) := by decide +kernel
theorem dX5_goesFrom_6 : decode cX5_goesFrom 6 = .ok (.invokestatic 41, 3) := by decide +kernel
theorem dX5_goesFrom_9 : decode cX5_goesFrom 9 = .ok (.iload_n 3, 1) := by decide +kernel
theorem dX5_goesFrom_10 : decode cX5_goesFrom 10 = .ok (.iconst (-1), 1) := by decide +kernel
theorem dX5_goesFrom_11 : decode cX5_goesFrom 11 = .ok (.ixor, 1) := by decide +kernel
theorem dX5_goesFrom_12 : decode cX5_goesFrom 12 = .ok (.iand, 1) := by decide +kernel
theorem dX5_goesFrom_13 : decode cX5_goesFrom 13 = .ok (.ifCond .eq 7, 3) := by decide +kernel
theorem dX5_goesFrom_16 : decode cX5_goesFrom 16 = .ok (.iconst 1, 1) := by decide +kernel
theorem dX5_goesFrom_17 : decode cX5_goesFrom 17 = .ok (.goto 4, 3) := by decide +kernel
theorem dX5_goesFrom_20 : decode cX5_goesFrom 20 = .ok (.iconst 0, 1) := by decide +kernel
theorem dX5_goesFrom_21 : decode cX5_goesFrom 21 = .ok (.ireturn, 1) := by decide +kernel
theorem dX5_find_0 : decode cX5_find 0 = .ok (.aload_n 0, 1) := by decide +kernel
theorem dX5_find_1 : decode cX5_find 1 = .ok (.iload_n 1, 1) := by decide +kernel
theorem dX5_find_2 : decode cX5_find 2 = .ok (.iload_n 2, 1) := by decide +kernel
theorem dX5_find_3 : decode cX5_find 3 = .ok (.iload_n 3, 1) := by decide +kernel
theorem dX5_find_4 : decode cX5_find 4 = .ok (.iload 4, 2) := by decide +kernel
theorem dX5_find_6 : decode cX5_find 6 = .ok (.invokevirtual 45, 3) := by decide +kernel
theorem dX5_find_9 : decode cX5_find 9 = .ok (.istore 5, 2) := by decide +kernel
theorem dX5_find_11 : decode cX5_find 11 = .ok (.iload 5, 2) := by decide +kernel
theorem dX5_find_13 : decode cX5_find 13 = .ok (.iconst (-1), 1) := by decide +kernel
theorem dX5_find_14 : decode cX5_find 14 = .ok (.if_icmp .ne 5, 3) := by decide +kernel
theorem dX5_find_17 : decode cX5_find 17 = .ok (.iconst 0, 1) := by decide +kernel
theorem dX5_find_18 : decode cX5_find 18 = .ok (.ireturn, 1) := by decide +kernel
theorem dX5_find_19 : decode cX5_find 19 = .ok (.aload_n 0, 1) := by decide +kernel
theorem dX5_find_20 : decode cX5_find 20 = .ok (.iload_n 3, 1) := by decide +kernel
theorem dX5_find_21 : decode cX5_find 21 = .ok (.iload 5, 2) := by decide +kernel
theorem dX5_find_23 : decode cX5_find 23 = .ok (.iadd, 1) := by decide +kernel
theorem dX5_find_24 : decode cX5_find 24 = .ok (.putfield 15, 3) := by decide +kernel
theorem dX5_find_27 : decode cX5_find 27 = .ok (.aload_n 0, 1) := by decide +kernel
theorem dX5_find_28 : decode cX5_find 28 = .ok (.iload_n 3, 1) := by decide +kernel
theorem dX5_find_29 : decode cX5_find 29 = .ok (.invokevirtual 37, 3) := by decide +kernel
theorem dX5_find_32 : decode cX5_find 32 = .ok (.iload_n 1, 1) := by decide +kernel
theorem dX5_find_33 : decode cX5_find 33 = .ok (.invokestatic 41, 3) := by decide +kernel
theorem dX5_find_36 : decode cX5_find 36 = .ok (.iload 4, 2) := by decide +kernel
theorem dX5_find_38 : decode cX5_find 38 = .ok (.iconst (-1), 1) := by decide +kernel
theorem dX5_find_39 : decode cX5_find 39 = .ok (.ixor, 1) := by decide +kernel
theorem dX5_find_40 : decode cX5_find 40 = .ok (.iand, 1) := by decide +kernel
theorem dX5_find_41 : decode cX5_find 41 = .ok (.istore 6, 2) := by decide +kernel
theorem dX5_find_43 : decode cX5_find 43 = .ok (.aload_n 0, 1) := by decide +kernel
theorem dX5_find_44 : decode cX5_find 44 = .ok (.iload_n 2, 1) := by decide +kernel
theorem dX5_find_45 : decode cX5_find 45 = .ok (.iload_n 3, 1) := by decide +kernel
theorem dX5_find_46 : decode cX5_find 46 = .ok (.iload 5, 2) := by decide +kernel
theorem dX5_find_48 : decode cX5_find 48 = .ok (.iload 4, 2) := by decide +kernel
theorem dX5_find_50 : decode cX5_find 50 = .ok (.iconst 1, 1) := by decide +kernel
theorem dX5_find_51 : decode cX5_find 51 = .ok (.iload_n 1, 1) := by decide +kernel
theorem dX5_find_52 : decode cX5_find 52 = .ok (.ishl, 1) := by decide +kernel
theorem dX5_find_53 : decode cX5_find 53 = .ok (.iconst (-1), 1) := by decide +kernel
theorem dX5_find_54 : decode cX5_find 54 = .ok (.ixor, 1) := by decide +kernel
theorem dX5_find_55 : decode cX5_find 55 = .ok (.iand, 1) := by decide +kernel
theorem dX5_find_56 : decode cX5_find 56 = .ok (.invokevirtual 49, 3) := by decide +kernel
theorem dX5_find_59 : decode cX5_find 59 = .ok (.lstore 7, 2) := by decide +kernel
theorem dX5_find_61 : decode cX5_find 61 = .ok (.aload_n 0, 1) := by decide +kernel
theorem dX5_find_62 : decode cX5_find 62 = .ok (.iconst (-1), 1) := by decide +kernel
theorem dX5_find_63 : decode cX5_find 63 = .ok (.putfield 19, 3) := by decide +kernel
theorem dX5_find_66 : decode cX5_find 66 = .ok (.aload_n 0, 1) := by decide +kernel
theorem dX5_find_67 : decode cX5_find 67 = .ok (.iconst (-1), 1) := by decide +kernel
theorem dX5_find_68 : decode cX5_find 68 = .ok (.putfield 22, 3) := by decide +kernel
theorem dX5_find_71 : decode cX5_find 71 = .ok (.iconst 0, 1) := by decide +kernel
theorem dX5_find_72 : decode cX5_find 72 = .ok (.istore 9, 2) := by decide +kernel
theorem dX5_find_74 : decode cX5_find 74 = .ok (.iload 9, 2) := by decide +kernel
theorem dX5_find_76 : decode cX5_find 76 = .ok (.bipush 8, 2) := by decide +kernel
theorem dX5_find_78 : decode cX5_find 78 = .ok (.if_icmp .ge 84, 3) := by decide +kernel
theorem dX5_find_81 : decode cX5_find 81 = .ok (.aload_n 0, 1) := by decide +kernel
theorem dX5_find_82 : decode cX5_find 82 = .ok (.getfield 19, 3) := by decide +kernel
theorem dX5_find_85 : decode cX5_find 85 = .ok (.iconst (-1), 1) := by decide +kernel
theorem dX5_find_86 : decode cX5_find 86 = .ok (.if_icmp .ne 76, 3) := by decide +kernel
theorem dX5_find_89 : decode cX5_find 89 = .ok (.iload 9, 2) := by decide +kernel
theorem dX5_find_91 : decode cX5_find 91 = .ok (.ifCond .ne 7, 3) := by decide +kernel
theorem dX5_find_94 : decode cX5_find 94 = .ok (.iconst 0, 1) := by decide +kernel
theorem dX5_find_95 : decode cX5_find 95 = .ok (.goto 15, 3) := by decide +kernel
theorem dX5_find_98 : decode cX5_find 98 = .ok (.lload 7, 2) := by decide +kernel
theorem dX5_find_100 : decode cX5_find 100 = .ok (.iload 9, 2) := by decide +kernel
theorem dX5_find_102 : decode cX5_find 102 = .ok (.iconst 1, 1) := by decide +kernel
theorem dX5_find_103 : decode cX5_find 103 = .ok (.isub, 1) := by decide +kernel
theorem dX5_find_104 : decode cX5_find 104 = .ok (.invokestatic 41, 3) := by decide +kernel
theorem dX5_find_107 : decode cX5_find 107 = .ok (.iload 6, 2) := by decide +kernel
theorem dX5_find_109 : decode cX5_find 109 = .ok (.iand, 1) := by decide +kernel
theorem dX5_find_110 : decode cX5_find 110 = .ok (.istore 10, 2) := by decide +kernel
theorem dX5_find_112 : decode cX5_find 112 = .ok (.iload 10, 2) := by decide +kernel
theorem dX5_find_114 : decode cX5_find 114 = .ok (.ifCond .eq 21, 3) := by decide +kernel
theorem dX5_find_117 : decode cX5_find 117 = .ok (.aload_n 0, 1) := by decide +kernel
theorem dX5_find_118 : decode cX5_find 118 = .ok (.iload 10, 2) := by decide +kernel
theorem dX5_find_120 : decode cX5_find 120 = .ok (.invokestatic 53, 3) := by decide +kernel
theorem dX5_find_123 : decode cX5_find 123 = .ok (.putfield 22, 3) := by decide +kernel
theorem dX5_find_126 : decode cX5_find 126 = .ok (.aload_n 0, 1) := by decide +kernel
theorem dX5_find_127 : decode cX5_find 127 = .ok (.iload 9, 2) := by decide +kernel
theorem dX5_find_129 : decode cX5_find 129 = .ok (.putfield 19, 3) := by decide +kernel
theorem dX5_find_132 : decode cX5_find 132 = .ok (.goto 24, 3) := by decide +kernel
theorem dX5_find_135 : decode cX5_find 135 = .ok (.lload 7, 2) := by decide +kernel
theorem dX5_find_137 : decode cX5_find 137 = .ok (.iload 9, 2) := by decide +kernel
theorem dX5_find_139 : decode cX5_find 139 = .ok (.invokestatic 41, 3) := by decide +kernel
theorem dX5_find_142 : decode cX5_find 142 = .ok (.iload_n 1, 1) := by decide +kernel
theorem dX5_find_143 : decode cX5_find 143 = .ok (.ishr, 1) := by decide +kernel
theorem dX5_find_144 : decode cX5_find 144 = .ok (.iconst 1, 1) := by decide +kernel
theorem dX5_find_145 : decode cX5_find 145 = .ok (.iand, 1) := by decide +kernel
theorem dX5_find_146 : decode cX5_find 146 = .ok (.iconst 1, 1) := by decide +kernel
theorem dX5_find_147 : decode cX5_find 147 = .ok (.if_icmp .ne 9, 3) := by decide +kernel
theorem dX5_find_150 : decode cX5_find 150 = .ok (.aload_n 0, 1) := by decide +kernel
theorem dX5_find_151 : decode cX5_find 151 = .ok (.iload 9, 2) := by decide +kernel
theorem dX5_find_153 : decode cX5_find 153 = .ok (.putfield 19, 3) := by decide +kernel
theorem dX5_find_156 : decode cX5_find 156 = .ok (.iinc 9 1, 3) := by decide +kernel
theorem dX5_find_159 : decode cX5_find 159 = .ok (.goto (-85), 3) := by decide +kernel
theorem dX5_find_162 : decode cX5_find 162 = .ok (.iconst 1, 1) := by decide +kernel
theorem dX5_find_163 : decode cX5_find 163 = .ok (.ireturn, 1) := by decide +kernel
theorem dX5_arrival_0 : decode cX5_arrival 0 = .ok (.aload_n 0, 1) := by decide +kernel
theorem dX5_arrival_1 : decode cX5_arrival 1 = .ok (.getfield 15, 3) := by decide +kernel
theorem dX5_arrival_4 : decode cX5_arrival 4 = .ok (.ireturn, 1) := by decide +kernel
theorem dX5_fewest_0 : decode cX5_fewest 0 = .ok (.aload_n 0, 1) := by decide +kernel
theorem dX5_fewest_1 : decode cX5_fewest 1 = .ok (.getfield 19, 3) := by decide +kernel
theorem dX5_fewest_4 : decode cX5_fewest 4 = .ok (.ireturn, 1) := by decide +kernel
theorem dX5_next_0 : decode cX5_next 0 = .ok (.aload_n 0, 1) := by decide +kernel
theorem dX5_next_1 : decode cX5_next 1 = .ok (.getfield 22, 3) := by decide +kernel
theorem dX5_next_4 : decode cX5_next 4 = .ok (.ireturn, 1) := by decide +kernel
theorem dX5_reached_0 : decode cX5_reached 0 = .ok (.iconst 1, 1) := by decide +kernel
theorem dX5_reached_1 : decode cX5_reached 1 = .ok (.iload_n 1, 1) := by decide +kernel
theorem dX5_reached_2 : decode cX5_reached 2 = .ok (.ishl, 1) := by decide +kernel
theorem dX5_reached_3 : decode cX5_reached 3 = .ok (.istore 4, 2) := by decide +kernel
theorem dX5_reached_5 : decode cX5_reached 5 = .ok (.iconst 0, 1) := by decide +kernel
theorem dX5_reached_6 : decode cX5_reached 6 = .ok (.istore 5, 2) := by decide +kernel
theorem dX5_reached_8 : decode cX5_reached 8 = .ok (.iload 5, 2) := by decide +kernel
theorem dX5_reached_10 : decode cX5_reached 10 = .ok (.bipush 24, 2) := by decide +kernel
theorem dX5_reached_12 : decode cX5_reached 12 = .ok (.if_icmp .ge 31, 3) := by decide +kernel
theorem dX5_reached_15 : decode cX5_reached 15 = .ok (.iload 4, 2) := by decide +kernel
theorem dX5_reached_17 : decode cX5_reached 17 = .ok (.iload 4, 2) := by decide +kernel
theorem dX5_reached_19 : decode cX5_reached 19 = .ok (.aload_n 0, 1) := by decide +kernel
theorem dX5_reached_20 : decode cX5_reached 20 = .ok (.iload_n 2, 1) := by decide +kernel
theorem dX5_reached_21 : decode cX5_reached 21 = .ok (.iload 5, 2) := by decide +kernel
theorem dX5_reached_23 : decode cX5_reached 23 = .ok (.iadd, 1) := by decide +kernel
theorem dX5_reached_24 : decode cX5_reached 24 = .ok (.invokevirtual 37, 3) := by decide +kernel
theorem dX5_reached_27 : decode cX5_reached 27 = .ok (.invokestatic 59, 3) := by decide +kernel
theorem dX5_reached_30 : decode cX5_reached 30 = .ok (.iload_n 3, 1) := by decide +kernel
theorem dX5_reached_31 : decode cX5_reached 31 = .ok (.iconst (-1), 1) := by decide +kernel
theorem dX5_reached_32 : decode cX5_reached 32 = .ok (.ixor, 1) := by decide +kernel
theorem dX5_reached_33 : decode cX5_reached 33 = .ok (.iand, 1) := by decide +kernel
theorem dX5_reached_34 : decode cX5_reached 34 = .ok (.ior, 1) := by decide +kernel
theorem dX5_reached_35 : decode cX5_reached 35 = .ok (.istore 4, 2) := by decide +kernel
theorem dX5_reached_37 : decode cX5_reached 37 = .ok (.iinc 5 1, 3) := by decide +kernel
theorem dX5_reached_40 : decode cX5_reached 40 = .ok (.goto (-32), 3) := by decide +kernel
theorem dX5_reached_43 : decode cX5_reached 43 = .ok (.iload 4, 2) := by decide +kernel
theorem dX5_reached_45 : decode cX5_reached 45 = .ok (.invokestatic 63, 3) := by decide +kernel
theorem dX5_reached_48 : decode cX5_reached 48 = .ok (.iconst 1, 1) := by decide +kernel
theorem dX5_reached_49 : decode cX5_reached 49 = .ok (.isub, 1) := by decide +kernel
theorem dX5_reached_50 : decode cX5_reached 50 = .ok (.ireturn, 1) := by decide +kernel
theorem dX5_hoursOfEarliest_0 : decode cX5_hoursOfEarliest 0 = .ok (.iconst 1, 1) := by decide +kernel
theorem dX5_hoursOfEarliest_1 : decode cX5_hoursOfEarliest 1 = .ok (.iload_n 1, 1) := by decide +kernel
theorem dX5_hoursOfEarliest_2 : decode cX5_hoursOfEarliest 2 = .ok (.ishl, 1) := by decide +kernel
theorem dX5_hoursOfEarliest_3 : decode cX5_hoursOfEarliest 3 = .ok (.istore 5, 2) := by decide +kernel
theorem dX5_hoursOfEarliest_5 : decode cX5_hoursOfEarliest 5 = .ok (.iconst 0, 1) := by decide +kernel
theorem dX5_hoursOfEarliest_6 : decode cX5_hoursOfEarliest 6 = .ok (.istore 6, 2) := by decide +kernel
theorem dX5_hoursOfEarliest_8 : decode cX5_hoursOfEarliest 8 = .ok (.iload 6, 2) := by decide +kernel
theorem dX5_hoursOfEarliest_10 : decode cX5_hoursOfEarliest 10 = .ok (.bipush 24, 2) := by decide +kernel
theorem dX5_hoursOfEarliest_12 : decode cX5_hoursOfEarliest 12 = .ok (.if_icmp .ge 47, 3) := by decide +kernel
theorem dX5_hoursOfEarliest_15 : decode cX5_hoursOfEarliest 15 = .ok (.iload 5, 2) := by decide +kernel
theorem dX5_hoursOfEarliest_17 : decode cX5_hoursOfEarliest 17 = .ok (.iload 5, 2) := by decide +kernel
theorem dX5_hoursOfEarliest_19 : decode cX5_hoursOfEarliest 19 = .ok (.aload_n 0, 1) := by decide +kernel
theorem dX5_hoursOfEarliest_20 : decode cX5_hoursOfEarliest 20 = .ok (.iload_n 3, 1) := by decide +kernel
theorem dX5_hoursOfEarliest_21 : decode cX5_hoursOfEarliest 21 = .ok (.iload 6, 2) := by decide +kernel
theorem dX5_hoursOfEarliest_23 : decode cX5_hoursOfEarliest 23 = .ok (.iadd, 1) := by decide +kernel
theorem dX5_hoursOfEarliest_24 : decode cX5_hoursOfEarliest 24 = .ok (.invokevirtual 37, 3) := by decide +kernel
theorem dX5_hoursOfEarliest_27 : decode cX5_hoursOfEarliest 27 = .ok (.invokestatic 59, 3) := by decide +kernel
theorem dX5_hoursOfEarliest_30 : decode cX5_hoursOfEarliest 30 = .ok (.iload 4, 2) := by decide +kernel
theorem dX5_hoursOfEarliest_32 : decode cX5_hoursOfEarliest 32 = .ok (.iconst (-1), 1) := by decide +kernel
theorem dX5_hoursOfEarliest_33 : decode cX5_hoursOfEarliest 33 = .ok (.ixor, 1) := by decide +kernel
theorem dX5_hoursOfEarliest_34 : decode cX5_hoursOfEarliest 34 = .ok (.iand, 1) := by decide +kernel
theorem dX5_hoursOfEarliest_35 : decode cX5_hoursOfEarliest 35 = .ok (.ior, 1) := by decide +kernel
theorem dX5_hoursOfEarliest_36 : decode cX5_hoursOfEarliest 36 = .ok (.istore 5, 2) := by decide +kernel
theorem dX5_hoursOfEarliest_38 : decode cX5_hoursOfEarliest 38 = .ok (.iload 5, 2) := by decide +kernel
theorem dX5_hoursOfEarliest_40 : decode cX5_hoursOfEarliest 40 = .ok (.iload_n 2, 1) := by decide +kernel
theorem dX5_hoursOfEarliest_41 : decode cX5_hoursOfEarliest 41 = .ok (.ishr, 1) := by decide +kernel
theorem dX5_hoursOfEarliest_42 : decode cX5_hoursOfEarliest 42 = .ok (.iconst 1, 1) := by decide +kernel
theorem dX5_hoursOfEarliest_43 : decode cX5_hoursOfEarliest 43 = .ok (.iand, 1) := by decide +kernel
theorem dX5_hoursOfEarliest_44 : decode cX5_hoursOfEarliest 44 = .ok (.iconst 1, 1) := by decide +kernel
theorem dX5_hoursOfEarliest_45 : decode cX5_hoursOfEarliest 45 = .ok (.if_icmp .ne 8, 3) := by decide +kernel
theorem dX5_hoursOfEarliest_48 : decode cX5_hoursOfEarliest 48 = .ok (.iload 6, 2) := by decide +kernel
theorem dX5_hoursOfEarliest_50 : decode cX5_hoursOfEarliest 50 = .ok (.iconst 1, 1) := by decide +kernel
theorem dX5_hoursOfEarliest_51 : decode cX5_hoursOfEarliest 51 = .ok (.iadd, 1) := by decide +kernel
theorem dX5_hoursOfEarliest_52 : decode cX5_hoursOfEarliest 52 = .ok (.ireturn, 1) := by decide +kernel
theorem dX5_hoursOfEarliest_53 : decode cX5_hoursOfEarliest 53 = .ok (.iinc 6 1, 3) := by decide +kernel
theorem dX5_hoursOfEarliest_56 : decode cX5_hoursOfEarliest 56 = .ok (.goto (-48), 3) := by decide +kernel
theorem dX5_hoursOfEarliest_59 : decode cX5_hoursOfEarliest 59 = .ok (.iconst (-1), 1) := by decide +kernel
theorem dX5_hoursOfEarliest_60 : decode cX5_hoursOfEarliest 60 = .ok (.ireturn, 1) := by decide +kernel
theorem dX5_restsAfterFirstHour_0 : decode cX5_restsAfterFirstHour 0 = .ok (.ldc2_w 66, 3) := by decide +kernel
theorem dX5_restsAfterFirstHour_3 : decode cX5_restsAfterFirstHour 3 = .ok (.iload_n 1, 1) := by decide +kernel
theorem dX5_restsAfterFirstHour_4 : decode cX5_restsAfterFirstHour 4 = .ok (.lshl, 1) := by decide +kernel
theorem dX5_restsAfterFirstHour_5 : decode cX5_restsAfterFirstHour 5 = .ok (.lstore 5, 2) := by decide +kernel
theorem dX5_restsAfterFirstHour_7 : decode cX5_restsAfterFirstHour 7 = .ok (.ldc2_w 66, 3) := by decide +kernel
theorem dX5_restsAfterFirstHour_10 : decode cX5_restsAfterFirstHour 10 = .ok (.sipush 255, 3) := by decide +kernel
theorem dX5_restsAfterFirstHour_13 : decode cX5_restsAfterFirstHour 13 = .ok (.iload 4, 2) := by decide +kernel
theorem dX5_restsAfterFirstHour_15 : decode cX5_restsAfterFirstHour 15 = .ok (.iconst (-1), 1) := by decide +kernel
theorem dX5_restsAfterFirstHour_16 : decode cX5_restsAfterFirstHour 16 = .ok (.ixor, 1) := by decide +kernel
theorem dX5_restsAfterFirstHour_17 : decode cX5_restsAfterFirstHour 17 = .ok (.iand, 1) := by decide +kernel
theorem dX5_restsAfterFirstHour_18 : decode cX5_restsAfterFirstHour 18 = .ok (.i2l, 1) := by decide +kernel
theorem dX5_restsAfterFirstHour_19 : decode cX5_restsAfterFirstHour 19 = .ok (.lmul, 1) := by decide +kernel
theorem dX5_restsAfterFirstHour_20 : decode cX5_restsAfterFirstHour 20 = .ok (.lstore 7, 2) := by decide +kernel
theorem dX5_restsAfterFirstHour_22 : decode cX5_restsAfterFirstHour 22 = .ok (.iload_n 3, 1) := by decide +kernel
theorem dX5_restsAfterFirstHour_23 : decode cX5_restsAfterFirstHour 23 = .ok (.iconst 1, 1) := by decide +kernel
theorem dX5_restsAfterFirstHour_24 : decode cX5_restsAfterFirstHour 24 = .ok (.isub, 1) := by decide +kernel
theorem dX5_restsAfterFirstHour_25 : decode cX5_restsAfterFirstHour 25 = .ok (.istore 9, 2) := by decide +kernel
theorem dX5_restsAfterFirstHour_27 : decode cX5_restsAfterFirstHour 27 = .ok (.iload 9, 2) := by decide +kernel
theorem dX5_restsAfterFirstHour_29 : decode cX5_restsAfterFirstHour 29 = .ok (.ifCond .le 74, 3) := by decide +kernel
theorem dX5_restsAfterFirstHour_32 : decode cX5_restsAfterFirstHour 32 = .ok (.aload_n 0, 1) := by decide +kernel
theorem dX5_restsAfterFirstHour_33 : decode cX5_restsAfterFirstHour 33 = .ok (.iload_n 2, 1) := by decide +kernel
theorem dX5_restsAfterFirstHour_34 : decode cX5_restsAfterFirstHour 34 = .ok (.iload 9, 2) := by decide +kernel
theorem dX5_restsAfterFirstHour_36 : decode cX5_restsAfterFirstHour 36 = .ok (.iadd, 1) := by decide +kernel
theorem dX5_restsAfterFirstHour_37 : decode cX5_restsAfterFirstHour 37 = .ok (.invokevirtual 37, 3) := by decide +kernel
theorem dX5_restsAfterFirstHour_40 : decode cX5_restsAfterFirstHour 40 = .ok (.lstore 10, 2) := by decide +kernel
theorem dX5_restsAfterFirstHour_42 : decode cX5_restsAfterFirstHour 42 = .ok (.lconst 0, 1) := by decide +kernel
theorem dX5_restsAfterFirstHour_43 : decode cX5_restsAfterFirstHour 43 = .ok (.lstore 12, 2) := by decide +kernel
theorem dX5_restsAfterFirstHour_45 : decode cX5_restsAfterFirstHour 45 = .ok (.iconst 0, 1) := by decide +kernel
theorem dX5_restsAfterFirstHour_46 : decode cX5_restsAfterFirstHour 46 = .ok (.istore 14, 2) := by decide +kernel
theorem dX5_restsAfterFirstHour_48 : decode cX5_restsAfterFirstHour 48 = .ok (.iload 14, 2) := by decide +kernel
theorem dX5_restsAfterFirstHour_50 : decode cX5_restsAfterFirstHour 50 = .ok (.bipush 8, 2) := by decide +kernel
theorem dX5_restsAfterFirstHour_52 : decode cX5_restsAfterFirstHour 52 = .ok (.if_icmp .ge 32, 3) := by decide +kernel
theorem dX5_restsAfterFirstHour_55 : decode cX5_restsAfterFirstHour 55 = .ok (.lload 12, 2) := by decide +kernel
theorem dX5_restsAfterFirstHour_57 : decode cX5_restsAfterFirstHour 57 = .ok (.lload 5, 2) := by decide +kernel
theorem dX5_restsAfterFirstHour_59 : decode cX5_restsAfterFirstHour 59 = .ok (.iload 14, 2) := by decide +kernel
theorem dX5_restsAfterFirstHour_61 : decode cX5_restsAfterFirstHour 61 = .ok (.lushr, 1) := by decide +kernel
theorem dX5_restsAfterFirstHour_62 : decode cX5_restsAfterFirstHour 62 = .ok (.ldc2_w 66, 3) := by decide +kernel
theorem dX5_restsAfterFirstHour_65 : decode cX5_restsAfterFirstHour 65 = .ok (.land, 1) := by decide +kernel
theorem dX5_restsAfterFirstHour_66 : decode cX5_restsAfterFirstHour 66 = .ok (.lload 10, 2) := by decide +kernel
theorem dX5_restsAfterFirstHour_68 : decode cX5_restsAfterFirstHour 68 = .ok (.iload 14, 2) := by decide +kernel
theorem dX5_restsAfterFirstHour_70 : decode cX5_restsAfterFirstHour 70 = .ok (.invokestatic 41, 3) := by decide +kernel
theorem dX5_restsAfterFirstHour_73 : decode cX5_restsAfterFirstHour 73 = .ok (.i2l, 1) := by decide +kernel
theorem dX5_restsAfterFirstHour_74 : decode cX5_restsAfterFirstHour 74 = .ok (.lmul, 1) := by decide +kernel
theorem dX5_restsAfterFirstHour_75 : decode cX5_restsAfterFirstHour 75 = .ok (.lor, 1) := by decide +kernel
theorem dX5_restsAfterFirstHour_76 : decode cX5_restsAfterFirstHour 76 = .ok (.lstore 12, 2) := by decide +kernel
theorem dX5_restsAfterFirstHour_78 : decode cX5_restsAfterFirstHour 78 = .ok (.iinc 14 1, 3) := by decide +kernel
theorem dX5_restsAfterFirstHour_81 : decode cX5_restsAfterFirstHour 81 = .ok (.goto (-33), 3) := by decide +kernel
theorem dX5_restsAfterFirstHour_84 : decode cX5_restsAfterFirstHour 84 = .ok (.lload 5, 2) := by decide +kernel
theorem dX5_restsAfterFirstHour_86 : decode cX5_restsAfterFirstHour 86 = .ok (.lload 12, 2) := by decide +kernel
theorem dX5_restsAfterFirstHour_88 : decode cX5_restsAfterFirstHour 88 = .ok (.bipush 8, 2) := by decide +kernel
theorem dX5_restsAfterFirstHour_90 : decode cX5_restsAfterFirstHour 90 = .ok (.lshl, 1) := by decide +kernel
theorem dX5_restsAfterFirstHour_91 : decode cX5_restsAfterFirstHour 91 = .ok (.lload 7, 2) := by decide +kernel
theorem dX5_restsAfterFirstHour_93 : decode cX5_restsAfterFirstHour 93 = .ok (.land, 1) := by decide +kernel
theorem dX5_restsAfterFirstHour_94 : decode cX5_restsAfterFirstHour 94 = .ok (.lor, 1) := by decide +kernel
theorem dX5_restsAfterFirstHour_95 : decode cX5_restsAfterFirstHour 95 = .ok (.lstore 5, 2) := by decide +kernel
theorem dX5_restsAfterFirstHour_97 : decode cX5_restsAfterFirstHour 97 = .ok (.iinc 9 (-1), 3) := by decide +kernel
theorem dX5_restsAfterFirstHour_100 : decode cX5_restsAfterFirstHour 100 = .ok (.goto (-73), 3) := by decide +kernel
theorem dX5_restsAfterFirstHour_103 : decode cX5_restsAfterFirstHour 103 = .ok (.lload 5, 2) := by decide +kernel
theorem dX5_restsAfterFirstHour_105 : decode cX5_restsAfterFirstHour 105 = .ok (.lreturn, 1) := by decide +kernel
theorem dX5_heardBy_0 : decode cX5_heardBy 0 = .ok (.lconst 0, 1) := by decide +kernel
theorem dX5_heardBy_1 : decode cX5_heardBy 1 = .ok (.lstore_n 3, 1) := by decide +kernel
theorem dX5_heardBy_2 : decode cX5_heardBy 2 = .ok (.iconst 0, 1) := by decide +kernel
theorem dX5_heardBy_3 : decode cX5_heardBy 3 = .ok (.istore 5, 2) := by decide +kernel
theorem dX5_heardBy_5 : decode cX5_heardBy 5 = .ok (.iload 5, 2) := by decide +kernel
theorem dX5_heardBy_7 : decode cX5_heardBy 7 = .ok (.bipush 8, 2) := by decide +kernel
theorem dX5_heardBy_9 : decode cX5_heardBy 9 = .ok (.if_icmp .ge 29, 3) := by decide +kernel
theorem dX5_heardBy_12 : decode cX5_heardBy 12 = .ok (.iload_n 0, 1) := by decide +kernel
theorem dX5_heardBy_13 : decode cX5_heardBy 13 = .ok (.iload 5, 2) := by decide +kernel
theorem dX5_heardBy_15 : decode cX5_heardBy 15 = .ok (.ishr, 1) := by decide +kernel
theorem dX5_heardBy_16 : decode cX5_heardBy 16 = .ok (.iconst 1, 1) := by decide +kernel
theorem dX5_heardBy_17 : decode cX5_heardBy 17 = .ok (.iand, 1) := by decide +kernel
theorem dX5_heardBy_18 : decode cX5_heardBy 18 = .ok (.iconst 1, 1) := by decide +kernel
theorem dX5_heardBy_19 : decode cX5_heardBy 19 = .ok (.if_icmp .ne 13, 3) := by decide +kernel
theorem dX5_heardBy_22 : decode cX5_heardBy 22 = .ok (.lload_n 3, 1) := by decide +kernel
theorem dX5_heardBy_23 : decode cX5_heardBy 23 = .ok (.lload_n 1, 1) := by decide +kernel
theorem dX5_heardBy_24 : decode cX5_heardBy 24 = .ok (.iload 5, 2) := by decide +kernel
theorem dX5_heardBy_26 : decode cX5_heardBy 26 = .ok (.bipush 8, 2) := by decide +kernel
theorem dX5_heardBy_28 : decode cX5_heardBy 28 = .ok (.imul, 1) := by decide +kernel
theorem dX5_heardBy_29 : decode cX5_heardBy 29 = .ok (.lushr, 1) := by decide +kernel
theorem dX5_heardBy_30 : decode cX5_heardBy 30 = .ok (.lor, 1) := by decide +kernel
theorem dX5_heardBy_31 : decode cX5_heardBy 31 = .ok (.lstore_n 3, 1) := by decide +kernel
theorem dX5_heardBy_32 : decode cX5_heardBy 32 = .ok (.iinc 5 1, 3) := by decide +kernel
theorem dX5_heardBy_35 : decode cX5_heardBy 35 = .ok (.goto (-30), 3) := by decide +kernel
theorem dX5_heardBy_38 : decode cX5_heardBy 38 = .ok (.lload_n 3, 1) := by decide +kernel
theorem dX5_heardBy_39 : decode cX5_heardBy 39 = .ok (.l2i, 1) := by decide +kernel
theorem dX5_heardBy_40 : decode cX5_heardBy 40 = .ok (.sipush 255, 3) := by decide +kernel
theorem dX5_heardBy_43 : decode cX5_heardBy 43 = .ok (.iand, 1) := by decide +kernel
theorem dX5_heardBy_44 : decode cX5_heardBy 44 = .ok (.ireturn, 1) := by decide +kernel
theorem dX5_heardAt_0 : decode cX5_heardAt 0 = .ok (.iload_n 1, 1) := by decide +kernel
theorem dX5_heardAt_1 : decode cX5_heardAt 1 = .ok (.bipush 24, 2) := by decide +kernel
theorem dX5_heardAt_3 : decode cX5_heardAt 3 = .ok (.irem, 1) := by decide +kernel
theorem dX5_heardAt_4 : decode cX5_heardAt 4 = .ok (.istore_n 2, 1) := by decide +kernel
theorem dX5_heardAt_5 : decode cX5_heardAt 5 = .ok (.iload_n 2, 1) := by decide +kernel
theorem dX5_heardAt_6 : decode cX5_heardAt 6 = .ok (.ifCond .lt 21, 3) := by decide +kernel
theorem dX5_heardAt_9 : decode cX5_heardAt 9 = .ok (.iload_n 2, 1) := by decide +kernel
theorem dX5_heardAt_10 : decode cX5_heardAt 10 = .ok (.aload_n 0, 1) := by decide +kernel
theorem dX5_heardAt_11 : decode cX5_heardAt 11 = .ok (.getfield 9, 3) := by decide +kernel
theorem dX5_heardAt_14 : decode cX5_heardAt 14 = .ok (.arraylength, 1) := by decide +kernel
theorem dX5_heardAt_15 : decode cX5_heardAt 15 = .ok (.if_icmp .ge 12, 3) := by decide +kernel
theorem dX5_heardAt_18 : decode cX5_heardAt 18 = .ok (.aload_n 0, 1) := by decide +kernel
theorem dX5_heardAt_19 : decode cX5_heardAt 19 = .ok (.getfield 9, 3) := by decide +kernel
theorem dX5_heardAt_22 : decode cX5_heardAt 22 = .ok (.iload_n 2, 1) := by decide +kernel
theorem dX5_heardAt_23 : decode cX5_heardAt 23 = .ok (.laload, 1) := by decide +kernel
theorem dX5_heardAt_24 : decode cX5_heardAt 24 = .ok (.goto 4, 3) := by decide +kernel
theorem dX5_heardAt_27 : decode cX5_heardAt 27 = .ok (.lconst 0, 1) := by decide +kernel
theorem dX5_heardAt_28 : decode cX5_heardAt 28 = .ok (.lreturn, 1) := by decide +kernel
theorem dX5_setOf_0 : decode cX5_setOf 0 = .ok (.lload_n 0, 1) := by decide +kernel
theorem dX5_setOf_1 : decode cX5_setOf 1 = .ok (.iload_n 2, 1) := by decide +kernel
theorem dX5_setOf_2 : decode cX5_setOf 2 = .ok (.bipush 8, 2) := by decide +kernel
theorem dX5_setOf_4 : decode cX5_setOf 4 = .ok (.imul, 1) := by decide +kernel
theorem dX5_setOf_5 : decode cX5_setOf 5 = .ok (.lushr, 1) := by decide +kernel
theorem dX5_setOf_6 : decode cX5_setOf 6 = .ok (.l2i, 1) := by decide +kernel
theorem dX5_setOf_7 : decode cX5_setOf 7 = .ok (.sipush 255, 3) := by decide +kernel
theorem dX5_setOf_10 : decode cX5_setOf 10 = .ok (.iand, 1) := by decide +kernel
theorem dX5_setOf_11 : decode cX5_setOf 11 = .ok (.ireturn, 1) := by decide +kernel
theorem dX6_init_0 : decode cX6_init 0 = .ok (.aload_n 0, 1) := by decide +kernel
theorem dX6_init_1 : decode cX6_init 1 = .ok (.invokespecial 1, 3) := by decide +kernel
theorem dX6_init_4 : decode cX6_init 4 = .ok (.aload_n 0, 1) := by decide +kernel
theorem dX6_init_5 : decode cX6_init 5 = .ok (.new 7, 3) := by decide +kernel
theorem dX6_init_8 : decode cX6_init 8 = .ok (.dup, 1) := by decide +kernel
theorem dX6_init_9 : decode cX6_init 9 = .ok (.invokespecial 9, 3) := by decide +kernel
theorem dX6_init_12 : decode cX6_init 12 = .ok (.putfield 10, 3) := by decide +kernel
theorem dX6_init_15 : decode cX6_init 15 = .ok (.aload_n 0, 1) := by decide +kernel
theorem dX6_init_16 : decode cX6_init 16 = .ok (.iconst 0, 1) := by decide +kernel
theorem dX6_init_17 : decode cX6_init 17 = .ok (.putfield 16, 3) := by decide +kernel
theorem dX6_init_20 : decode cX6_init 20 = .ok (.aload_n 0, 1) := by decide +kernel
theorem dX6_init_21 : decode cX6_init 21 = .ok (.iconst (-1), 1) := by decide +kernel
theorem dX6_init_22 : decode cX6_init 22 = .ok (.putfield 20, 3) := by decide +kernel
theorem dX6_init_25 : decode cX6_init 25 = .ok (.aload_n 0, 1) := by decide +kernel
theorem dX6_init_26 : decode cX6_init 26 = .ok (.new 23, 3) := by decide +kernel
theorem dX6_init_29 : decode cX6_init 29 = .ok (.dup, 1) := by decide +kernel
theorem dX6_init_30 : decode cX6_init 30 = .ok (.invokespecial 25, 3) := by decide +kernel
theorem dX6_init_33 : decode cX6_init 33 = .ok (.putfield 26, 3) := by decide +kernel
theorem dX6_init_36 : decode cX6_init 36 = .ok (.aload_n 0, 1) := by decide +kernel
theorem dX6_init_37 : decode cX6_init 37 = .ok (.new 23, 3) := by decide +kernel
theorem dX6_init_40 : decode cX6_init 40 = .ok (.dup, 1) := by decide +kernel
theorem dX6_init_41 : decode cX6_init 41 = .ok (.invokespecial 25, 3) := by decide +kernel
theorem dX6_init_44 : decode cX6_init 44 = .ok (.putfield 30, 3) := by decide +kernel
theorem dX6_init_47 : decode cX6_init 47 = .ok (.aload_n 0, 1) := by decide +kernel
theorem dX6_init_48 : decode cX6_init 48 = .ok (.iconst 2, 1) := by decide +kernel
theorem dX6_init_49 : decode cX6_init 49 = .ok (.anewarray 23, 3) := by decide +kernel
theorem dX6_init_52 : decode cX6_init 52 = .ok (.putfield 33, 3) := by decide +kernel
theorem dX6_init_55 : decode cX6_init 55 = .ok (.aload_n 0, 1) := by decide +kernel
theorem dX6_init_56 : decode cX6_init 56 = .ok (.new 37, 3) := by decide +kernel
theorem dX6_init_59 : decode cX6_init 59 = .ok (.dup, 1) := by decide +kernel
theorem dX6_init_60 : decode cX6_init 60 = .ok (.invokespecial 39, 3) := by decide +kernel
theorem dX6_init_63 : decode cX6_init 63 = .ok (.putfield 40, 3) := by decide +kernel
theorem dX6_init_66 : decode cX6_init 66 = .ok (.return_, 1) := by decide +kernel
theorem dX6_addStation_0 : decode cX6_addStation 0 = .ok (.iload_n 1, 1) := by decide +kernel
theorem dX6_addStation_1 : decode cX6_addStation 1 = .ok (.invokestatic 87, 3) := by decide +kernel
theorem dX6_addStation_4 : decode cX6_addStation 4 = .ok (.ifCond .eq 17, 3) := by decide +kernel
theorem dX6_addStation_7 : decode cX6_addStation 7 = .ok (.iload_n 2, 1) := by decide +kernel
theorem dX6_addStation_8 : decode cX6_addStation 8 = .ok (.invokestatic 87, 3) := by decide +kernel
theorem dX6_addStation_11 : decode cX6_addStation 11 = .ok (.ifCond .eq 10, 3) := by decide +kernel
theorem dX6_addStation_14 : decode cX6_addStation 14 = .ok (.iload_n 3, 1) := by decide +kernel
theorem dX6_addStation_15 : decode cX6_addStation 15 = .ok (.invokestatic 91, 3) := by decide +kernel
theorem dX6_addStation_18 : decode cX6_addStation 18 = .ok (.ifCond .ne 13, 3) := by decide +kernel
theorem dX6_addStation_21 : decode cX6_addStation 21 = .ok (.new 59, 3) := by decide +kernel
theorem dX6_addStation_24 : decode cX6_addStation 24 = .ok (.dup, 1) := by decide +kernel
theorem dX6_addStation_25 : decode cX6_addStation 25 = .ok (.ldc 94, 2) := by decide +kernel
theorem dX6_addStation_27 : decode cX6_addStation 27 = .ok (.invokespecial 63, 3) := by decide +kernel
theorem dX6_addStation_30 : decode cX6_addStation 30 = .ok (.athrow, 1) := by decide +kernel
theorem dX6_addStation_31 : decode cX6_addStation 31 = .ok (.aload_n 0, 1) := by decide +kernel
theorem dX6_addStation_32 : decode cX6_addStation 32 = .ok (.getfield 26, 3) := by decide +kernel
theorem dX6_addStation_35 : decode cX6_addStation 35 = .ok (.invokevirtual 96, 3) := by decide +kernel
theorem dX6_addStation_38 : decode cX6_addStation 38 = .ok (.bipush 8, 2) := by decide +kernel
theorem dX6_addStation_40 : decode cX6_addStation 40 = .ok (.if_icmp .lt 13, 3) := by decide +kernel
theorem dX6_addStation_43 : decode cX6_addStation 43 = .ok (.new 48, 3) := by decide +kernel
theorem dX6_addStation_46 : decode cX6_addStation 46 = .ok (.dup, 1) := by decide +kernel
theorem dX6_addStation_47 : decode cX6_addStation 47 = .ok (.ldc 99, 2) := by decide +kernel
theorem dX6_addStation_49 : decode cX6_addStation 49 = .ok (.invokespecial 52, 3) := by decide +kernel
theorem dX6_addStation_52 : decode cX6_addStation 52 = .ok (.athrow, 1) := by decide +kernel
theorem dX6_addStation_53 : decode cX6_addStation 53 = .ok (.aload_n 0, 1) := by decide +kernel
theorem dX6_addStation_54 : decode cX6_addStation 54 = .ok (.getfield 26, 3) := by decide +kernel
theorem dX6_addStation_57 : decode cX6_addStation 57 = .ok (.iload_n 1, 1) := by decide +kernel
theorem dX6_addStation_58 : decode cX6_addStation 58 = .ok (.iload_n 2, 1) := by decide +kernel
theorem dX6_addStation_59 : decode cX6_addStation 59 = .ok (.iload_n 3, 1) := by decide +kernel
theorem dX6_addStation_60 : decode cX6_addStation 60 = .ok (.invokevirtual 101, 3) := by decide +kernel
theorem dX6_addStation_63 : decode cX6_addStation 63 = .ok (.ireturn, 1) := by decide +kernel
theorem dX6_addLink_0 : decode cX6_addLink 0 = .ok (.aload_n 0, 1) := by decide +kernel
theorem dX6_addLink_1 : decode cX6_addLink 1 = .ok (.iload_n 1, 1) := by decide +kernel
theorem dX6_addLink_2 : decode cX6_addLink 2 = .ok (.invokevirtual 105, 3) := by decide +kernel
theorem dX6_addLink_5 : decode cX6_addLink 5 = .ok (.ifCond .eq 11, 3) := by decide +kernel
theorem dX6_addLink_8 : decode cX6_addLink 8 = .ok (.aload_n 0, 1) := by decide +kernel
theorem dX6_addLink_9 : decode cX6_addLink 9 = .ok (.iload_n 2, 1) := by decide +kernel
theorem dX6_addLink_10 : decode cX6_addLink 10 = .ok (.invokevirtual 105, 3) := by decide +kernel
theorem dX6_addLink_13 : decode cX6_addLink 13 = .ok (.ifCond .ne 13, 3) := by decide +kernel
theorem dX6_addLink_16 : decode cX6_addLink 16 = .ok (.new 108, 3) := by decide +kernel
theorem dX6_addLink_19 : decode cX6_addLink 19 = .ok (.dup, 1) := by decide +kernel
theorem dX6_addLink_20 : decode cX6_addLink 20 = .ok (.ldc 110, 2) := by decide +kernel
theorem dX6_addLink_22 : decode cX6_addLink 22 = .ok (.invokespecial 112, 3) := by decide +kernel
theorem dX6_addLink_25 : decode cX6_addLink 25 = .ok (.athrow, 1) := by decide +kernel
theorem dX6_addLink_26 : decode cX6_addLink 26 = .ok (.iload_n 1, 1) := by decide +kernel
theorem dX6_addLink_27 : decode cX6_addLink 27 = .ok (.iload_n 2, 1) := by decide +kernel
theorem dX6_addLink_28 : decode cX6_addLink 28 = .ok (.if_icmp .eq 26, 3) := by decide +kernel
theorem dX6_addLink_31 : decode cX6_addLink 31 = .ok (.iload_n 3, 1) := by decide +kernel
theorem dX6_addLink_32 : decode cX6_addLink 32 = .ok (.invokestatic 87, 3) := by decide +kernel
theorem dX6_addLink_35 : decode cX6_addLink 35 = .ok (.ifCond .eq 19, 3) := by decide +kernel
theorem dX6_addLink_38 : decode cX6_addLink 38 = .ok (.iload 4, 2) := by decide +kernel
theorem dX6_addLink_40 : decode cX6_addLink 40 = .ok (.invokestatic 87, 3) := by decide +kernel
theorem dX6_addLink_43 : decode cX6_addLink 43 = .ok (.ifCond .eq 11, 3) := by decide +kernel
theorem dX6_addLink_46 : decode cX6_addLink 46 = .ok (.iload 5, 2) := by decide +kernel
theorem dX6_addLink_48 : decode cX6_addLink 48 = .ok (.invokestatic 113, 3) := by decide +kernel
theorem dX6_addLink_51 : decode cX6_addLink 51 = .ok (.ifCond .ne 13, 3) := by decide +kernel
theorem dX6_addLink_54 : decode cX6_addLink 54 = .ok (.new 59, 3) := by decide +kernel
theorem dX6_addLink_57 : decode cX6_addLink 57 = .ok (.dup, 1) := by decide +kernel
theorem dX6_addLink_58 : decode cX6_addLink 58 = .ok (.ldc 116, 2) := by decide +kernel
theorem dX6_addLink_60 : decode cX6_addLink 60 = .ok (.invokespecial 63, 3) := by decide +kernel
theorem dX6_addLink_63 : decode cX6_addLink 63 = .ok (.athrow, 1) := by decide +kernel
theorem dX6_addLink_64 : decode cX6_addLink 64 = .ok (.aload_n 0, 1) := by decide +kernel
theorem dX6_addLink_65 : decode cX6_addLink 65 = .ok (.getfield 26, 3) := by decide +kernel
theorem dX6_addLink_68 : decode cX6_addLink 68 = .ok (.iload_n 1, 1) := by decide +kernel
theorem dX6_addLink_69 : decode cX6_addLink 69 = .ok (.iload_n 2, 1) := by decide +kernel
theorem dX6_addLink_70 : decode cX6_addLink 70 = .ok (.invokevirtual 118, 3) := by decide +kernel
theorem dX6_addLink_73 : decode cX6_addLink 73 = .ok (.iconst (-1), 1) := by decide +kernel
theorem dX6_addLink_74 : decode cX6_addLink 74 = .ok (.if_icmp .ne 15, 3) := by decide +kernel
theorem dX6_addLink_77 : decode cX6_addLink 77 = .ok (.aload_n 0, 1) := by decide +kernel
theorem dX6_addLink_78 : decode cX6_addLink 78 = .ok (.getfield 26, 3) := by decide +kernel
theorem dX6_addLink_81 : decode cX6_addLink 81 = .ok (.invokevirtual 122, 3) := by decide +kernel
theorem dX6_addLink_84 : decode cX6_addLink 84 = .ok (.bipush 16, 2) := by decide +kernel
theorem dX6_addLink_86 : decode cX6_addLink 86 = .ok (.if_icmp .lt 13, 3) := by decide +kernel
theorem dX6_addLink_89 : decode cX6_addLink 89 = .ok (.new 48, 3) := by decide +kernel
theorem dX6_addLink_92 : decode cX6_addLink 92 = .ok (.dup, 1) := by decide +kernel
theorem dX6_addLink_93 : decode cX6_addLink 93 = .ok (.ldc 125, 2) := by decide +kernel
theorem dX6_addLink_95 : decode cX6_addLink 95 = .ok (.invokespecial 52, 3) := by decide +kernel
theorem dX6_addLink_98 : decode cX6_addLink 98 = .ok (.athrow, 1) := by decide +kernel
theorem dX6_addLink_99 : decode cX6_addLink 99 = .ok (.aload_n 0, 1) := by decide +kernel
theorem dX6_addLink_100 : decode cX6_addLink 100 = .ok (.getfield 26, 3) := by decide +kernel
theorem dX6_addLink_103 : decode cX6_addLink 103 = .ok (.iload_n 1, 1) := by decide +kernel
theorem dX6_addLink_104 : decode cX6_addLink 104 = .ok (.iload_n 2, 1) := by decide +kernel
theorem dX6_addLink_105 : decode cX6_addLink 105 = .ok (.iload_n 3, 1) := by decide +kernel
theorem dX6_addLink_106 : decode cX6_addLink 106 = .ok (.iload 4, 2) := by decide +kernel
theorem dX6_addLink_108 : decode cX6_addLink 108 = .ok (.iload 5, 2) := by decide +kernel
theorem dX6_addLink_110 : decode cX6_addLink 110 = .ok (.invokevirtual 127, 3) := by decide +kernel
theorem dX6_addLink_113 : decode cX6_addLink 113 = .ok (.istore 6, 2) := by decide +kernel
theorem dX6_addLink_115 : decode cX6_addLink 115 = .ok (.aload_n 0, 1) := by decide +kernel
theorem dX6_addLink_116 : decode cX6_addLink 116 = .ok (.getfield 26, 3) := by decide +kernel
theorem dX6_addLink_119 : decode cX6_addLink 119 = .ok (.invokevirtual 80, 3) := by decide +kernel
theorem dX6_addLink_122 : decode cX6_addLink 122 = .ok (.iload 6, 2) := by decide +kernel
theorem dX6_addLink_124 : decode cX6_addLink 124 = .ok (.ireturn, 1) := by decide +kernel
theorem dX6_setRules_0 : decode cX6_setRules 0 = .ok (.iload_n 1, 1) := by decide +kernel
theorem dX6_setRules_1 : decode cX6_setRules 1 = .ok (.iconst 1, 1) := by decide +kernel
theorem dX6_setRules_2 : decode cX6_setRules 2 = .ok (.if_icmp .lt 31, 3) := by decide +kernel
theorem dX6_setRules_5 : decode cX6_setRules 5 = .ok (.iload_n 1, 1) := by decide +kernel
theorem dX6_setRules_6 : decode cX6_setRules 6 = .ok (.sipush 200, 3) := by decide +kernel
theorem dX6_setRules_9 : decode cX6_setRules 9 = .ok (.if_icmp .gt 24, 3) := by decide +kernel
theorem dX6_setRules_12 : decode cX6_setRules 12 = .ok (.iload_n 2, 1) := by decide +kernel
theorem dX6_setRules_13 : decode cX6_setRules 13 = .ok (.iconst 1, 1) := by decide +kernel
theorem dX6_setRules_14 : decode cX6_setRules 14 = .ok (.if_icmp .lt 19, 3) := by decide +kernel
theorem dX6_setRules_17 : decode cX6_setRules 17 = .ok (.iload_n 2, 1) := by decide +kernel
theorem dX6_setRules_18 : decode cX6_setRules 18 = .ok (.bipush 9, 2) := by decide +kernel
theorem dX6_setRules_20 : decode cX6_setRules 20 = .ok (.if_icmp .gt 13, 3) := by decide +kernel
theorem dX6_setRules_23 : decode cX6_setRules 23 = .ok (.iload_n 3, 1) := by decide +kernel
theorem dX6_setRules_24 : decode cX6_setRules 24 = .ok (.ifCond .lt 9, 3) := by decide +kernel
theorem dX6_setRules_27 : decode cX6_setRules 27 = .ok (.iload_n 3, 1) := by decide +kernel
theorem dX6_setRules_28 : decode cX6_setRules 28 = .ok (.ldc 144, 2) := by decide +kernel
theorem dX6_setRules_30 : decode cX6_setRules 30 = .ok (.if_icmp .le 13, 3) := by decide +kernel
theorem dX6_setRules_33 : decode cX6_setRules 33 = .ok (.new 59, 3) := by decide +kernel
theorem dX6_setRules_36 : decode cX6_setRules 36 = .ok (.dup, 1) := by decide +kernel
theorem dX6_setRules_37 : decode cX6_setRules 37 = .ok (.ldc 145, 2) := by decide +kernel
theorem dX6_setRules_39 : decode cX6_setRules 39 = .ok (.invokespecial 63, 3) := by decide +kernel
theorem dX6_setRules_42 : decode cX6_setRules 42 = .ok (.athrow, 1) := by decide +kernel
theorem dX6_setRules_43 : decode cX6_setRules 43 = .ok (.aload_n 0, 1) := by decide +kernel
theorem dX6_setRules_44 : decode cX6_setRules 44 = .ok (.getfield 26, 3) := by decide +kernel
theorem dX6_setRules_47 : decode cX6_setRules 47 = .ok (.iload_n 1, 1) := by decide +kernel
theorem dX6_setRules_48 : decode cX6_setRules 48 = .ok (.invokevirtual 147, 3) := by decide +kernel
theorem dX6_setRules_51 : decode cX6_setRules 51 = .ok (.aload_n 0, 1) := by decide +kernel
theorem dX6_setRules_52 : decode cX6_setRules 52 = .ok (.getfield 26, 3) := by decide +kernel
theorem dX6_setRules_55 : decode cX6_setRules 55 = .ok (.iload_n 2, 1) := by decide +kernel
theorem dX6_setRules_56 : decode cX6_setRules 56 = .ok (.invokevirtual 150, 3) := by decide +kernel
theorem dX6_setRules_59 : decode cX6_setRules 59 = .ok (.aload_n 0, 1) := by decide +kernel
theorem dX6_setRules_60 : decode cX6_setRules 60 = .ok (.getfield 26, 3) := by decide +kernel
theorem dX6_setRules_63 : decode cX6_setRules 63 = .ok (.iload_n 3, 1) := by decide +kernel
theorem dX6_setRules_64 : decode cX6_setRules 64 = .ok (.invokevirtual 153, 3) := by decide +kernel
theorem dX6_setRules_67 : decode cX6_setRules 67 = .ok (.return_, 1) := by decide +kernel
theorem dX6_station_0 : decode cX6_station 0 = .ok (.aload_n 0, 1) := by decide +kernel
theorem dX6_station_1 : decode cX6_station 1 = .ok (.iload_n 1, 1) := by decide +kernel
theorem dX6_station_2 : decode cX6_station 2 = .ok (.invokevirtual 105, 3) := by decide +kernel
theorem dX6_station_5 : decode cX6_station 5 = .ok (.ifCond .ne 13, 3) := by decide +kernel
theorem dX6_station_8 : decode cX6_station 8 = .ok (.new 108, 3) := by decide +kernel
theorem dX6_station_11 : decode cX6_station 11 = .ok (.dup, 1) := by decide +kernel
theorem dX6_station_12 : decode cX6_station 12 = .ok (.ldc 110, 2) := by decide +kernel
theorem dX6_station_14 : decode cX6_station 14 = .ok (.invokespecial 112, 3) := by decide +kernel
theorem dX6_station_17 : decode cX6_station 17 = .ok (.athrow, 1) := by decide +kernel
theorem dX6_station_18 : decode cX6_station 18 = .ok (.iload_n 2, 1) := by decide +kernel
theorem dX6_station_19 : decode cX6_station 19 = .ok (.ifCond .lt 9, 3) := by decide +kernel
theorem dX6_station_22 : decode cX6_station 22 = .ok (.iload_n 2, 1) := by decide +kernel
theorem dX6_station_23 : decode cX6_station 23 = .ok (.bipush 9, 2) := by decide +kernel
theorem dX6_station_25 : decode cX6_station 25 = .ok (.if_icmp .le 13, 3) := by decide +kernel
theorem dX6_station_28 : decode cX6_station 28 = .ok (.new 59, 3) := by decide +kernel
theorem dX6_station_31 : decode cX6_station 31 = .ok (.dup, 1) := by decide +kernel
theorem dX6_station_32 : decode cX6_station 32 = .ok (.ldc 156, 2) := by decide +kernel
theorem dX6_station_34 : decode cX6_station 34 = .ok (.invokespecial 63, 3) := by decide +kernel
theorem dX6_station_37 : decode cX6_station 37 = .ok (.athrow, 1) := by decide +kernel
theorem dX6_station_38 : decode cX6_station 38 = .ok (.aload_n 0, 1) := by decide +kernel
theorem dX6_station_39 : decode cX6_station 39 = .ok (.getfield 26, 3) := by decide +kernel
theorem dX6_station_42 : decode cX6_station 42 = .ok (.iload_n 1, 1) := by decide +kernel
theorem dX6_station_43 : decode cX6_station 43 = .ok (.iload_n 2, 1) := by decide +kernel
theorem dX6_station_44 : decode cX6_station 44 = .ok (.invokevirtual 158, 3) := by decide +kernel
theorem dX6_station_47 : decode cX6_station 47 = .ok (.ireturn, 1) := by decide +kernel
theorem dX6_link_0 : decode cX6_link 0 = .ok (.aload_n 0, 1) := by decide +kernel
theorem dX6_link_1 : decode cX6_link 1 = .ok (.iload_n 1, 1) := by decide +kernel
theorem dX6_link_2 : decode cX6_link 2 = .ok (.invokevirtual 136, 3) := by decide +kernel
theorem dX6_link_5 : decode cX6_link 5 = .ok (.ifCond .ne 13, 3) := by decide +kernel
theorem dX6_link_8 : decode cX6_link 8 = .ok (.new 108, 3) := by decide +kernel
theorem dX6_link_11 : decode cX6_link 11 = .ok (.dup, 1) := by decide +kernel
theorem dX6_link_12 : decode cX6_link 12 = .ok (.ldc 139, 2) := by decide +kernel
theorem dX6_link_14 : decode cX6_link 14 = .ok (.invokespecial 112, 3) := by decide +kernel
theorem dX6_link_17 : decode cX6_link 17 = .ok (.athrow, 1) := by decide +kernel
theorem dX6_link_18 : decode cX6_link 18 = .ok (.iload_n 2, 1) := by decide +kernel
theorem dX6_link_19 : decode cX6_link 19 = .ok (.ifCond .lt 9, 3) := by decide +kernel
theorem dX6_link_22 : decode cX6_link 22 = .ok (.iload_n 2, 1) := by decide +kernel
theorem dX6_link_23 : decode cX6_link 23 = .ok (.bipush 8, 2) := by decide +kernel
theorem dX6_link_25 : decode cX6_link 25 = .ok (.if_icmp .le 13, 3) := by decide +kernel
theorem dX6_link_28 : decode cX6_link 28 = .ok (.new 59, 3) := by decide +kernel
theorem dX6_link_31 : decode cX6_link 31 = .ok (.dup, 1) := by decide +kernel
theorem dX6_link_32 : decode cX6_link 32 = .ok (.ldc 156, 2) := by decide +kernel
theorem dX6_link_34 : decode cX6_link 34 = .ok (.invokespecial 63, 3) := by decide +kernel
theorem dX6_link_37 : decode cX6_link 37 = .ok (.athrow, 1) := by decide +kernel
theorem dX6_link_38 : decode cX6_link 38 = .ok (.aload_n 0, 1) := by decide +kernel
theorem dX6_link_39 : decode cX6_link 39 = .ok (.getfield 26, 3) := by decide +kernel
theorem dX6_link_42 : decode cX6_link 42 = .ok (.iload_n 1, 1) := by decide +kernel
theorem dX6_link_43 : decode cX6_link 43 = .ok (.iload_n 2, 1) := by decide +kernel
theorem dX6_link_44 : decode cX6_link 44 = .ok (.invokevirtual 161, 3) := by decide +kernel
theorem dX6_link_47 : decode cX6_link 47 = .ok (.ireturn, 1) := by decide +kernel
theorem dX6_count_0 : decode cX6_count 0 = .ok (.iload_n 1, 1) := by decide +kernel
theorem dX6_count_1 : decode cX6_count 1 = .ok (.ifCond .lt 9, 3) := by decide +kernel
theorem dX6_count_4 : decode cX6_count 4 = .ok (.iload_n 1, 1) := by decide +kernel
theorem dX6_count_5 : decode cX6_count 5 = .ok (.bipush 13, 2) := by decide +kernel
theorem dX6_count_7 : decode cX6_count 7 = .ok (.if_icmp .le 13, 3) := by decide +kernel
theorem dX6_count_10 : decode cX6_count 10 = .ok (.new 59, 3) := by decide +kernel
theorem dX6_count_13 : decode cX6_count 13 = .ok (.dup, 1) := by decide +kernel
theorem dX6_count_14 : decode cX6_count 14 = .ok (.ldc 156, 2) := by decide +kernel
theorem dX6_count_16 : decode cX6_count 16 = .ok (.invokespecial 63, 3) := by decide +kernel
theorem dX6_count_19 : decode cX6_count 19 = .ok (.athrow, 1) := by decide +kernel
theorem dX6_count_20 : decode cX6_count 20 = .ok (.aload_n 0, 1) := by decide +kernel
theorem dX6_count_21 : decode cX6_count 21 = .ok (.getfield 26, 3) := by decide +kernel
theorem dX6_count_24 : decode cX6_count 24 = .ok (.iload_n 1, 1) := by decide +kernel
theorem dX6_count_25 : decode cX6_count 25 = .ok (.invokevirtual 164, 3) := by decide +kernel
theorem dX6_count_28 : decode cX6_count 28 = .ok (.ireturn, 1) := by decide +kernel
theorem dX6_way_0 : decode cX6_way 0 = .ok (.aload_n 0, 1) := by decide +kernel
theorem dX6_way_1 : decode cX6_way 1 = .ok (.iload_n 1, 1) := by decide +kernel
theorem dX6_way_2 : decode cX6_way 2 = .ok (.invokevirtual 105, 3) := by decide +kernel
theorem dX6_way_5 : decode cX6_way 5 = .ok (.ifCond .eq 11, 3) := by decide +kernel
theorem dX6_way_8 : decode cX6_way 8 = .ok (.aload_n 0, 1) := by decide +kernel
theorem dX6_way_9 : decode cX6_way 9 = .ok (.iload_n 2, 1) := by decide +kernel
theorem dX6_way_10 : decode cX6_way 10 = .ok (.invokevirtual 105, 3) := by decide +kernel
theorem dX6_way_13 : decode cX6_way 13 = .ok (.ifCond .ne 13, 3) := by decide +kernel
theorem dX6_way_16 : decode cX6_way 16 = .ok (.new 108, 3) := by decide +kernel
theorem dX6_way_19 : decode cX6_way 19 = .ok (.dup, 1) := by decide +kernel
theorem dX6_way_20 : decode cX6_way 20 = .ok (.ldc 110, 2) := by decide +kernel
theorem dX6_way_22 : decode cX6_way 22 = .ok (.invokespecial 112, 3) := by decide +kernel
theorem dX6_way_25 : decode cX6_way 25 = .ok (.athrow, 1) := by decide +kernel
theorem dX6_way_26 : decode cX6_way 26 = .ok (.iload_n 1, 1) := by decide +kernel
theorem dX6_way_27 : decode cX6_way 27 = .ok (.iload_n 2, 1) := by decide +kernel
theorem dX6_way_28 : decode cX6_way 28 = .ok (.if_icmp .eq 24, 3) := by decide +kernel
theorem dX6_way_31 : decode cX6_way 31 = .ok (.iload_n 3, 1) := by decide +kernel
theorem dX6_way_32 : decode cX6_way 32 = .ok (.ifCond .lt 20, 3) := by decide +kernel
theorem dX6_way_35 : decode cX6_way 35 = .ok (.iload_n 3, 1) := by decide +kernel
theorem dX6_way_36 : decode cX6_way 36 = .ok (.ldc 168, 2) := by decide +kernel
theorem dX6_way_38 : decode cX6_way 38 = .ok (.if_icmp .gt 14, 3) := by decide +kernel
theorem dX6_way_41 : decode cX6_way 41 = .ok (.iload 4, 2) := by decide +kernel
theorem dX6_way_43 : decode cX6_way 43 = .ok (.ifCond .lt 9, 3) := by decide +kernel
theorem dX6_way_46 : decode cX6_way 46 = .ok (.iload 4, 2) := by decide +kernel
theorem dX6_way_48 : decode cX6_way 48 = .ok (.iconst 2, 1) := by decide +kernel
theorem dX6_way_49 : decode cX6_way 49 = .ok (.if_icmp .le 13, 3) := by decide +kernel
theorem dX6_way_52 : decode cX6_way 52 = .ok (.new 59, 3) := by decide +kernel
theorem dX6_way_55 : decode cX6_way 55 = .ok (.dup, 1) := by decide +kernel
theorem dX6_way_56 : decode cX6_way 56 = .ok (.ldc 169, 2) := by decide +kernel
theorem dX6_way_58 : decode cX6_way 58 = .ok (.invokespecial 63, 3) := by decide +kernel
theorem dX6_way_61 : decode cX6_way 61 = .ok (.athrow, 1) := by decide +kernel
theorem dX6_way_62 : decode cX6_way 62 = .ok (.aload_n 0, 1) := by decide +kernel
theorem dX6_way_63 : decode cX6_way 63 = .ok (.getfield 26, 3) := by decide +kernel
theorem dX6_way_66 : decode cX6_way 66 = .ok (.iload_n 1, 1) := by decide +kernel
theorem dX6_way_67 : decode cX6_way 67 = .ok (.iload_n 2, 1) := by decide +kernel
theorem dX6_way_68 : decode cX6_way 68 = .ok (.iload_n 3, 1) := by decide +kernel
theorem dX6_way_69 : decode cX6_way 69 = .ok (.iload 4, 2) := by decide +kernel
theorem dX6_way_71 : decode cX6_way 71 = .ok (.invokevirtual 171, 3) := by decide +kernel
theorem dX6_way_74 : decode cX6_way 74 = .ok (.ireturn, 1) := by decide +kernel
theorem dX6_reachable_0 : decode cX6_reachable 0 = .ok (.aload_n 0, 1) := by decide +kernel
theorem dX6_reachable_1 : decode cX6_reachable 1 = .ok (.getfield 26, 3) := by decide +kernel
theorem dX6_reachable_4 : decode cX6_reachable 4 = .ok (.iconst 0, 1) := by decide +kernel
theorem dX6_reachable_5 : decode cX6_reachable 5 = .ok (.invokevirtual 175, 3) := by decide +kernel
theorem dX6_reachable_8 : decode cX6_reachable 8 = .ok (.ireturn, 1) := by decide +kernel
theorem dX6_send_0 : decode cX6_send 0 = .ok (.aload_n 0, 1) := by decide +kernel
theorem dX6_send_1 : decode cX6_send 1 = .ok (.iload_n 1, 1) := by decide +kernel
theorem dX6_send_2 : decode cX6_send 2 = .ok (.invokevirtual 105, 3) := by decide +kernel
theorem dX6_send_5 : decode cX6_send 5 = .ok (.ifCond .eq 11, 3) := by decide +kernel
theorem dX6_send_8 : decode cX6_send 8 = .ok (.aload_n 0, 1) := by decide +kernel
theorem dX6_send_9 : decode cX6_send 9 = .ok (.iload_n 2, 1) := by decide +kernel
theorem dX6_send_10 : decode cX6_send 10 = .ok (.invokevirtual 105, 3) := by decide +kernel
theorem dX6_send_13 : decode cX6_send 13 = .ok (.ifCond .ne 13, 3) := by decide +kernel
theorem dX6_send_16 : decode cX6_send 16 = .ok (.new 108, 3) := by decide +kernel
theorem dX6_send_19 : decode cX6_send 19 = .ok (.dup, 1) := by decide +kernel
theorem dX6_send_20 : decode cX6_send 20 = .ok (.ldc 110, 2) := by decide +kernel
theorem dX6_send_22 : decode cX6_send 22 = .ok (.invokespecial 112, 3) := by decide +kernel
theorem dX6_send_25 : decode cX6_send 25 = .ok (.athrow, 1) := by decide +kernel
theorem dX6_send_26 : decode cX6_send 26 = .ok (.iload_n 1, 1) := by decide +kernel
theorem dX6_send_27 : decode cX6_send 27 = .ok (.iload_n 2, 1) := by decide +kernel
theorem dX6_send_28 : decode cX6_send 28 = .ok (.if_icmp .eq 10, 3) := by decide +kernel
theorem dX6_send_31 : decode cX6_send 31 = .ok (.iload_n 3, 1) := by decide +kernel
theorem dX6_send_32 : decode cX6_send 32 = .ok (.invokestatic 178, 3) := by decide +kernel
theorem dX6_send_35 : decode cX6_send 35 = .ok (.ifCond .ne 13, 3) := by decide +kernel
theorem dX6_send_38 : decode cX6_send 38 = .ok (.new 59, 3) := by decide +kernel
theorem dX6_send_41 : decode cX6_send 41 = .ok (.dup, 1) := by decide +kernel
theorem dX6_send_42 : decode cX6_send 42 = .ok (.ldc 181, 2) := by decide +kernel
theorem dX6_send_44 : decode cX6_send 44 = .ok (.invokespecial 63, 3) := by decide +kernel
theorem dX6_send_47 : decode cX6_send 47 = .ok (.athrow, 1) := by decide +kernel
theorem dX6_send_48 : decode cX6_send 48 = .ok (.aload_n 0, 1) := by decide +kernel
theorem dX6_send_49 : decode cX6_send 49 = .ok (.getfield 26, 3) := by decide +kernel
theorem dX6_send_52 : decode cX6_send 52 = .ok (.invokevirtual 183, 3) := by decide +kernel
theorem dX6_send_55 : decode cX6_send 55 = .ok (.bipush 24, 2) := by decide +kernel
theorem dX6_send_57 : decode cX6_send 57 = .ok (.if_icmp .lt 13, 3) := by decide +kernel
theorem dX6_send_60 : decode cX6_send 60 = .ok (.new 48, 3) := by decide +kernel
theorem dX6_send_63 : decode cX6_send 63 = .ok (.dup, 1) := by decide +kernel
theorem dX6_send_64 : decode cX6_send 64 = .ok (.ldc 186, 2) := by decide +kernel
theorem dX6_send_66 : decode cX6_send 66 = .ok (.invokespecial 52, 3) := by decide +kernel
theorem dX6_send_69 : decode cX6_send 69 = .ok (.athrow, 1) := by decide +kernel
theorem dX6_send_70 : decode cX6_send 70 = .ok (.aload_n 0, 1) := by decide +kernel
theorem dX6_send_71 : decode cX6_send 71 = .ok (.getfield 26, 3) := by decide +kernel
theorem dX6_send_74 : decode cX6_send 74 = .ok (.iload_n 1, 1) := by decide +kernel
theorem dX6_send_75 : decode cX6_send 75 = .ok (.iload_n 2, 1) := by decide +kernel
theorem dX6_send_76 : decode cX6_send 76 = .ok (.iload_n 3, 1) := by decide +kernel
theorem dX6_send_77 : decode cX6_send 77 = .ok (.invokevirtual 188, 3) := by decide +kernel
theorem dX6_send_80 : decode cX6_send 80 = .ok (.ireturn, 1) := by decide +kernel
theorem dX6_takeBack_0 : decode cX6_takeBack 0 = .ok (.aload_n 0, 1) := by decide +kernel
theorem dX6_takeBack_1 : decode cX6_takeBack 1 = .ok (.iload_n 1, 1) := by decide +kernel
theorem dX6_takeBack_2 : decode cX6_takeBack 2 = .ok (.invokevirtual 191, 3) := by decide +kernel
theorem dX6_takeBack_5 : decode cX6_takeBack 5 = .ok (.ifCond .ne 13, 3) := by decide +kernel
theorem dX6_takeBack_8 : decode cX6_takeBack 8 = .ok (.new 108, 3) := by decide +kernel
theorem dX6_takeBack_11 : decode cX6_takeBack 11 = .ok (.dup, 1) := by decide +kernel
theorem dX6_takeBack_12 : decode cX6_takeBack 12 = .ok (.ldc 194, 2) := by decide +kernel
theorem dX6_takeBack_14 : decode cX6_takeBack 14 = .ok (.invokespecial 112, 3) := by decide +kernel
theorem dX6_takeBack_17 : decode cX6_takeBack 17 = .ok (.athrow, 1) := by decide +kernel
theorem dX6_takeBack_18 : decode cX6_takeBack 18 = .ok (.aload_n 0, 1) := by decide +kernel
theorem dX6_takeBack_19 : decode cX6_takeBack 19 = .ok (.getfield 26, 3) := by decide +kernel
theorem dX6_takeBack_22 : decode cX6_takeBack 22 = .ok (.iload_n 1, 1) := by decide +kernel
theorem dX6_takeBack_23 : decode cX6_takeBack 23 = .ok (.invokevirtual 201, 3) := by decide +kernel
theorem dX6_takeBack_26 : decode cX6_takeBack 26 = .ok (.ireturn, 1) := by decide +kernel
theorem dX6_message_0 : decode cX6_message 0 = .ok (.aload_n 0, 1) := by decide +kernel
theorem dX6_message_1 : decode cX6_message 1 = .ok (.iload_n 1, 1) := by decide +kernel
theorem dX6_message_2 : decode cX6_message 2 = .ok (.invokevirtual 191, 3) := by decide +kernel
theorem dX6_message_5 : decode cX6_message 5 = .ok (.ifCond .ne 13, 3) := by decide +kernel
theorem dX6_message_8 : decode cX6_message 8 = .ok (.new 108, 3) := by decide +kernel
theorem dX6_message_11 : decode cX6_message 11 = .ok (.dup, 1) := by decide +kernel
theorem dX6_message_12 : decode cX6_message 12 = .ok (.ldc 194, 2) := by decide +kernel
theorem dX6_message_14 : decode cX6_message 14 = .ok (.invokespecial 112, 3) := by decide +kernel
theorem dX6_message_17 : decode cX6_message 17 = .ok (.athrow, 1) := by decide +kernel
theorem dX6_message_18 : decode cX6_message 18 = .ok (.iload_n 2, 1) := by decide +kernel
theorem dX6_message_19 : decode cX6_message 19 = .ok (.ifCond .lt 9, 3) := by decide +kernel
theorem dX6_message_22 : decode cX6_message 22 = .ok (.iload_n 2, 1) := by decide +kernel
theorem dX6_message_23 : decode cX6_message 23 = .ok (.bipush 11, 2) := by decide +kernel
theorem dX6_message_25 : decode cX6_message 25 = .ok (.if_icmp .le 13, 3) := by decide +kernel
theorem dX6_message_28 : decode cX6_message 28 = .ok (.new 59, 3) := by decide +kernel
theorem dX6_message_31 : decode cX6_message 31 = .ok (.dup, 1) := by decide +kernel
theorem dX6_message_32 : decode cX6_message 32 = .ok (.ldc 156, 2) := by decide +kernel
theorem dX6_message_34 : decode cX6_message 34 = .ok (.invokespecial 63, 3) := by decide +kernel
theorem dX6_message_37 : decode cX6_message 37 = .ok (.athrow, 1) := by decide +kernel
theorem dX6_message_38 : decode cX6_message 38 = .ok (.aload_n 0, 1) := by decide +kernel
theorem dX6_message_39 : decode cX6_message 39 = .ok (.getfield 26, 3) := by decide +kernel
theorem dX6_message_42 : decode cX6_message 42 = .ok (.iload_n 1, 1) := by decide +kernel
theorem dX6_message_43 : decode cX6_message 43 = .ok (.iload_n 2, 1) := by decide +kernel
theorem dX6_message_44 : decode cX6_message 44 = .ok (.invokevirtual 204, 3) := by decide +kernel
theorem dX6_message_47 : decode cX6_message 47 = .ok (.ireturn, 1) := by decide +kernel
theorem dX6_copy_0 : decode cX6_copy 0 = .ok (.aload_n 0, 1) := by decide +kernel
theorem dX6_copy_1 : decode cX6_copy 1 = .ok (.iload_n 1, 1) := by decide +kernel
theorem dX6_copy_2 : decode cX6_copy 2 = .ok (.invokevirtual 191, 3) := by decide +kernel
theorem dX6_copy_5 : decode cX6_copy 5 = .ok (.ifCond .eq 11, 3) := by decide +kernel
theorem dX6_copy_8 : decode cX6_copy 8 = .ok (.aload_n 0, 1) := by decide +kernel
theorem dX6_copy_9 : decode cX6_copy 9 = .ok (.iload_n 2, 1) := by decide +kernel
theorem dX6_copy_10 : decode cX6_copy 10 = .ok (.invokevirtual 105, 3) := by decide +kernel
theorem dX6_copy_13 : decode cX6_copy 13 = .ok (.ifCond .ne 13, 3) := by decide +kernel
theorem dX6_copy_16 : decode cX6_copy 16 = .ok (.new 108, 3) := by decide +kernel
theorem dX6_copy_19 : decode cX6_copy 19 = .ok (.dup, 1) := by decide +kernel
theorem dX6_copy_20 : decode cX6_copy 20 = .ok (.ldc 207, 2) := by decide +kernel
theorem dX6_copy_22 : decode cX6_copy 22 = .ok (.invokespecial 112, 3) := by decide +kernel
theorem dX6_copy_25 : decode cX6_copy 25 = .ok (.athrow, 1) := by decide +kernel
theorem dX6_copy_26 : decode cX6_copy 26 = .ok (.iload_n 3, 1) := by decide +kernel
theorem dX6_copy_27 : decode cX6_copy 27 = .ok (.ifCond .lt 8, 3) := by decide +kernel
theorem dX6_copy_30 : decode cX6_copy 30 = .ok (.iload_n 3, 1) := by decide +kernel
theorem dX6_copy_31 : decode cX6_copy 31 = .ok (.iconst 4, 1) := by decide +kernel
theorem dX6_copy_32 : decode cX6_copy 32 = .ok (.if_icmp .le 13, 3) := by decide +kernel
theorem dX6_copy_35 : decode cX6_copy 35 = .ok (.new 59, 3) := by decide +kernel
theorem dX6_copy_38 : decode cX6_copy 38 = .ok (.dup, 1) := by decide +kernel
theorem dX6_copy_39 : decode cX6_copy 39 = .ok (.ldc 156, 2) := by decide +kernel
theorem dX6_copy_41 : decode cX6_copy 41 = .ok (.invokespecial 63, 3) := by decide +kernel
theorem dX6_copy_44 : decode cX6_copy 44 = .ok (.athrow, 1) := by decide +kernel
theorem dX6_copy_45 : decode cX6_copy 45 = .ok (.aload_n 0, 1) := by decide +kernel
theorem dX6_copy_46 : decode cX6_copy 46 = .ok (.getfield 26, 3) := by decide +kernel
theorem dX6_copy_49 : decode cX6_copy 49 = .ok (.iload_n 1, 1) := by decide +kernel
theorem dX6_copy_50 : decode cX6_copy 50 = .ok (.iload_n 2, 1) := by decide +kernel
theorem dX6_copy_51 : decode cX6_copy 51 = .ok (.iload_n 3, 1) := by decide +kernel
theorem dX6_copy_52 : decode cX6_copy 52 = .ok (.invokevirtual 209, 3) := by decide +kernel
theorem dX6_copy_55 : decode cX6_copy 55 = .ok (.ireturn, 1) := by decide +kernel
theorem dX6_path_0 : decode cX6_path 0 = .ok (.aload_n 0, 1) := by decide +kernel
theorem dX6_path_1 : decode cX6_path 1 = .ok (.iload_n 1, 1) := by decide +kernel
theorem dX6_path_2 : decode cX6_path 2 = .ok (.invokevirtual 191, 3) := by decide +kernel
theorem dX6_path_5 : decode cX6_path 5 = .ok (.ifCond .eq 11, 3) := by decide +kernel
theorem dX6_path_8 : decode cX6_path 8 = .ok (.aload_n 0, 1) := by decide +kernel
theorem dX6_path_9 : decode cX6_path 9 = .ok (.iload_n 2, 1) := by decide +kernel
theorem dX6_path_10 : decode cX6_path 10 = .ok (.invokevirtual 105, 3) := by decide +kernel
theorem dX6_path_13 : decode cX6_path 13 = .ok (.ifCond .ne 13, 3) := by decide +kernel
theorem dX6_path_16 : decode cX6_path 16 = .ok (.new 108, 3) := by decide +kernel
theorem dX6_path_19 : decode cX6_path 19 = .ok (.dup, 1) := by decide +kernel
theorem dX6_path_20 : decode cX6_path 20 = .ok (.ldc 207, 2) := by decide +kernel
theorem dX6_path_22 : decode cX6_path 22 = .ok (.invokespecial 112, 3) := by decide +kernel
theorem dX6_path_25 : decode cX6_path 25 = .ok (.athrow, 1) := by decide +kernel
theorem dX6_path_26 : decode cX6_path 26 = .ok (.aload_n 0, 1) := by decide +kernel
theorem dX6_path_27 : decode cX6_path 27 = .ok (.getfield 26, 3) := by decide +kernel
theorem dX6_path_30 : decode cX6_path 30 = .ok (.iload_n 1, 1) := by decide +kernel
theorem dX6_path_31 : decode cX6_path 31 = .ok (.iload_n 2, 1) := by decide +kernel
theorem dX6_path_32 : decode cX6_path 32 = .ok (.iload_n 3, 1) := by decide +kernel
theorem dX6_path_33 : decode cX6_path 33 = .ok (.invokevirtual 212, 3) := by decide +kernel
theorem dX6_path_36 : decode cX6_path 36 = .ok (.istore 4, 2) := by decide +kernel
theorem dX6_path_38 : decode cX6_path 38 = .ok (.iload 4, 2) := by decide +kernel
theorem dX6_path_40 : decode cX6_path 40 = .ok (.iconst (-1), 1) := by decide +kernel
theorem dX6_path_41 : decode cX6_path 41 = .ok (.if_icmp .ne 13, 3) := by decide +kernel
theorem dX6_path_44 : decode cX6_path 44 = .ok (.new 108, 3) := by decide +kernel
theorem dX6_path_47 : decode cX6_path 47 = .ok (.dup, 1) := by decide +kernel
theorem dX6_path_48 : decode cX6_path 48 = .ok (.ldc 215, 2) := by decide +kernel
theorem dX6_path_50 : decode cX6_path 50 = .ok (.invokespecial 112, 3) := by decide +kernel
theorem dX6_path_53 : decode cX6_path 53 = .ok (.athrow, 1) := by decide +kernel
theorem dX6_path_54 : decode cX6_path 54 = .ok (.iload 4, 2) := by decide +kernel
theorem dX6_path_56 : decode cX6_path 56 = .ok (.ireturn, 1) := by decide +kernel
theorem dX6_sends_0 : decode cX6_sends 0 = .ok (.aload_n 0, 1) := by decide +kernel
theorem dX6_sends_1 : decode cX6_sends 1 = .ok (.iload_n 1, 1) := by decide +kernel
theorem dX6_sends_2 : decode cX6_sends 2 = .ok (.invokevirtual 105, 3) := by decide +kernel
theorem dX6_sends_5 : decode cX6_sends 5 = .ok (.ifCond .eq 7, 3) := by decide +kernel
theorem dX6_sends_8 : decode cX6_sends 8 = .ok (.iload_n 2, 1) := by decide +kernel
theorem dX6_sends_9 : decode cX6_sends 9 = .ok (.ifCond .ge 13, 3) := by decide +kernel
theorem dX6_sends_12 : decode cX6_sends 12 = .ok (.new 108, 3) := by decide +kernel
theorem dX6_sends_15 : decode cX6_sends 15 = .ok (.dup, 1) := by decide +kernel
theorem dX6_sends_16 : decode cX6_sends 16 = .ok (.ldc 217, 2) := by decide +kernel
theorem dX6_sends_18 : decode cX6_sends 18 = .ok (.invokespecial 112, 3) := by decide +kernel
theorem dX6_sends_21 : decode cX6_sends 21 = .ok (.athrow, 1) := by decide +kernel
theorem dX6_sends_22 : decode cX6_sends 22 = .ok (.aload_n 0, 1) := by decide +kernel
theorem dX6_sends_23 : decode cX6_sends 23 = .ok (.getfield 26, 3) := by decide +kernel
theorem dX6_sends_26 : decode cX6_sends 26 = .ok (.iload_n 1, 1) := by decide +kernel
theorem dX6_sends_27 : decode cX6_sends 27 = .ok (.iload_n 2, 1) := by decide +kernel
theorem dX6_sends_28 : decode cX6_sends 28 = .ok (.invokevirtual 219, 3) := by decide +kernel
theorem dX6_sends_31 : decode cX6_sends 31 = .ok (.ireturn, 1) := by decide +kernel
theorem dX6_run_0 : decode cX6_run 0 = .ok (.iload_n 1, 1) := by decide +kernel
theorem dX6_run_1 : decode cX6_run 1 = .ok (.invokestatic 222, 3) := by decide +kernel
theorem dX6_run_4 : decode cX6_run 4 = .ok (.ifCond .ne 13, 3) := by decide +kernel
theorem dX6_run_7 : decode cX6_run 7 = .ok (.new 59, 3) := by decide +kernel
theorem dX6_run_10 : decode cX6_run 10 = .ok (.dup, 1) := by decide +kernel
theorem dX6_run_11 : decode cX6_run 11 = .ok (.ldc 225, 2) := by decide +kernel
theorem dX6_run_13 : decode cX6_run 13 = .ok (.invokespecial 63, 3) := by decide +kernel
theorem dX6_run_16 : decode cX6_run 16 = .ok (.athrow, 1) := by decide +kernel
theorem dX6_run_17 : decode cX6_run 17 = .ok (.aload_n 0, 1) := by decide +kernel
theorem dX6_run_18 : decode cX6_run 18 = .ok (.getfield 26, 3) := by decide +kernel
theorem dX6_run_21 : decode cX6_run 21 = .ok (.iconst 1, 1) := by decide +kernel
theorem dX6_run_22 : decode cX6_run 22 = .ok (.invokevirtual 227, 3) := by decide +kernel
theorem dX6_run_25 : decode cX6_run 25 = .ok (.istore_n 2, 1) := by decide +kernel
theorem dX6_run_26 : decode cX6_run 26 = .ok (.iconst 0, 1) := by decide +kernel
theorem dX6_run_27 : decode cX6_run 27 = .ok (.istore_n 3, 1) := by decide +kernel
theorem dX6_run_28 : decode cX6_run 28 = .ok (.iload_n 3, 1) := by decide +kernel
theorem dX6_run_29 : decode cX6_run 29 = .ok (.iload_n 1, 1) := by decide +kernel
theorem dX6_run_30 : decode cX6_run 30 = .ok (.if_icmp .ge 16, 3) := by decide +kernel
theorem dX6_run_33 : decode cX6_run 33 = .ok (.aload_n 0, 1) := by decide +kernel
theorem dX6_run_34 : decode cX6_run 34 = .ok (.getfield 26, 3) := by decide +kernel
theorem dX6_run_37 : decode cX6_run 37 = .ok (.invokevirtual 230, 3) := by decide +kernel
theorem dX6_run_40 : decode cX6_run 40 = .ok (.iinc 3 1, 3) := by decide +kernel
theorem dX6_run_43 : decode cX6_run 43 = .ok (.goto (-15), 3) := by decide +kernel
theorem dX6_run_46 : decode cX6_run 46 = .ok (.aload_n 0, 1) := by decide +kernel
theorem dX6_run_47 : decode cX6_run 47 = .ok (.getfield 26, 3) := by decide +kernel
theorem dX6_run_50 : decode cX6_run 50 = .ok (.iconst 1, 1) := by decide +kernel
theorem dX6_run_51 : decode cX6_run 51 = .ok (.invokevirtual 227, 3) := by decide +kernel
theorem dX6_run_54 : decode cX6_run 54 = .ok (.iload_n 2, 1) := by decide +kernel
theorem dX6_run_55 : decode cX6_run 55 = .ok (.isub, 1) := by decide +kernel
theorem dX6_run_56 : decode cX6_run 56 = .ok (.ireturn, 1) := by decide +kernel
theorem dX6_stateAfter_0 : decode cX6_stateAfter 0 = .ok (.aload_n 0, 1) := by decide +kernel
theorem dX6_stateAfter_1 : decode cX6_stateAfter 1 = .ok (.iload_n 1, 1) := by decide +kernel
theorem dX6_stateAfter_2 : decode cX6_stateAfter 2 = .ok (.invokevirtual 191, 3) := by decide +kernel
theorem dX6_stateAfter_5 : decode cX6_stateAfter 5 = .ok (.ifCond .ne 13, 3) := by decide +kernel
theorem dX6_stateAfter_8 : decode cX6_stateAfter 8 = .ok (.new 108, 3) := by decide +kernel
theorem dX6_stateAfter_11 : decode cX6_stateAfter 11 = .ok (.dup, 1) := by decide +kernel
theorem dX6_stateAfter_12 : decode cX6_stateAfter 12 = .ok (.ldc 194, 2) := by decide +kernel
theorem dX6_stateAfter_14 : decode cX6_stateAfter 14 = .ok (.invokespecial 112, 3) := by decide +kernel
theorem dX6_stateAfter_17 : decode cX6_stateAfter 17 = .ok (.athrow, 1) := by decide +kernel
theorem dX6_stateAfter_18 : decode cX6_stateAfter 18 = .ok (.iload_n 2, 1) := by decide +kernel
theorem dX6_stateAfter_19 : decode cX6_stateAfter 19 = .ok (.invokestatic 222, 3) := by decide +kernel
theorem dX6_stateAfter_22 : decode cX6_stateAfter 22 = .ok (.ifCond .ne 13, 3) := by decide +kernel
theorem dX6_stateAfter_25 : decode cX6_stateAfter 25 = .ok (.new 59, 3) := by decide +kernel
theorem dX6_stateAfter_28 : decode cX6_stateAfter 28 = .ok (.dup, 1) := by decide +kernel
theorem dX6_stateAfter_29 : decode cX6_stateAfter 29 = .ok (.ldc 225, 2) := by decide +kernel
theorem dX6_stateAfter_31 : decode cX6_stateAfter 31 = .ok (.invokespecial 63, 3) := by decide +kernel
theorem dX6_stateAfter_34 : decode cX6_stateAfter 34 = .ok (.athrow, 1) := by decide +kernel
theorem dX6_stateAfter_35 : decode cX6_stateAfter 35 = .ok (.aload_n 0, 1) := by decide +kernel
theorem dX6_stateAfter_36 : decode cX6_stateAfter 36 = .ok (.getfield 30, 3) := by decide +kernel
theorem dX6_stateAfter_39 : decode cX6_stateAfter 39 = .ok (.aload_n 0, 1) := by decide +kernel
theorem dX6_stateAfter_40 : decode cX6_stateAfter 40 = .ok (.getfield 26, 3) := by decide +kernel
theorem dX6_stateAfter_43 : decode cX6_stateAfter 43 = .ok (.invokevirtual 83, 3) := by decide +kernel
theorem dX6_stateAfter_46 : decode cX6_stateAfter 46 = .ok (.iconst 0, 1) := by decide +kernel
theorem dX6_stateAfter_47 : decode cX6_stateAfter 47 = .ok (.istore_n 3, 1) := by decide +kernel
theorem dX6_stateAfter_48 : decode cX6_stateAfter 48 = .ok (.iload_n 3, 1) := by decide +kernel
theorem dX6_stateAfter_49 : decode cX6_stateAfter 49 = .ok (.iload_n 2, 1) := by decide +kernel
theorem dX6_stateAfter_50 : decode cX6_stateAfter 50 = .ok (.if_icmp .ge 16, 3) := by decide +kernel
theorem dX6_stateAfter_53 : decode cX6_stateAfter 53 = .ok (.aload_n 0, 1) := by decide +kernel
theorem dX6_stateAfter_54 : decode cX6_stateAfter 54 = .ok (.getfield 30, 3) := by decide +kernel
theorem dX6_stateAfter_57 : decode cX6_stateAfter 57 = .ok (.invokevirtual 230, 3) := by decide +kernel
theorem dX6_stateAfter_60 : decode cX6_stateAfter 60 = .ok (.iinc 3 1, 3) := by decide +kernel
theorem dX6_stateAfter_63 : decode cX6_stateAfter 63 = .ok (.goto (-15), 3) := by decide +kernel
theorem dX6_stateAfter_66 : decode cX6_stateAfter 66 = .ok (.aload_n 0, 1) := by decide +kernel
theorem dX6_stateAfter_67 : decode cX6_stateAfter 67 = .ok (.getfield 30, 3) := by decide +kernel
theorem dX6_stateAfter_70 : decode cX6_stateAfter 70 = .ok (.iload_n 1, 1) := by decide +kernel
theorem dX6_stateAfter_71 : decode cX6_stateAfter 71 = .ok (.invokevirtual 233, 3) := by decide +kernel
theorem dX6_stateAfter_74 : decode cX6_stateAfter 74 = .ok (.ireturn, 1) := by decide +kernel
theorem dX6_hoursTo_0 : decode cX6_hoursTo 0 = .ok (.iload_n 1, 1) := by decide +kernel
theorem dX6_hoursTo_1 : decode cX6_hoursTo 1 = .ok (.iconst 1, 1) := by decide +kernel
theorem dX6_hoursTo_2 : decode cX6_hoursTo 2 = .ok (.if_icmp .lt 9, 3) := by decide +kernel
theorem dX6_hoursTo_5 : decode cX6_hoursTo 5 = .ok (.iload_n 1, 1) := by decide +kernel
theorem dX6_hoursTo_6 : decode cX6_hoursTo 6 = .ok (.bipush 24, 2) := by decide +kernel
theorem dX6_hoursTo_8 : decode cX6_hoursTo 8 = .ok (.if_icmp .le 13, 3) := by decide +kernel
theorem dX6_hoursTo_11 : decode cX6_hoursTo 11 = .ok (.new 59, 3) := by decide +kernel
theorem dX6_hoursTo_14 : decode cX6_hoursTo 14 = .ok (.dup, 1) := by decide +kernel
theorem dX6_hoursTo_15 : decode cX6_hoursTo 15 = .ok (.ldc 236, 2) := by decide +kernel
theorem dX6_hoursTo_17 : decode cX6_hoursTo 17 = .ok (.invokespecial 63, 3) := by decide +kernel
theorem dX6_hoursTo_20 : decode cX6_hoursTo 20 = .ok (.athrow, 1) := by decide +kernel
theorem dX6_hoursTo_21 : decode cX6_hoursTo 21 = .ok (.aload_n 0, 1) := by decide +kernel
theorem dX6_hoursTo_22 : decode cX6_hoursTo 22 = .ok (.getfield 30, 3) := by decide +kernel
theorem dX6_hoursTo_25 : decode cX6_hoursTo 25 = .ok (.aload_n 0, 1) := by decide +kernel
theorem dX6_hoursTo_26 : decode cX6_hoursTo 26 = .ok (.getfield 26, 3) := by decide +kernel
theorem dX6_hoursTo_29 : decode cX6_hoursTo 29 = .ok (.invokevirtual 83, 3) := by decide +kernel
theorem dX6_hoursTo_32 : decode cX6_hoursTo 32 = .ok (.iconst 0, 1) := by decide +kernel
theorem dX6_hoursTo_33 : decode cX6_hoursTo 33 = .ok (.istore_n 2, 1) := by decide +kernel
theorem dX6_hoursTo_34 : decode cX6_hoursTo 34 = .ok (.iload_n 2, 1) := by decide +kernel
theorem dX6_hoursTo_35 : decode cX6_hoursTo 35 = .ok (.bipush 72, 2) := by decide +kernel
theorem dX6_hoursTo_37 : decode cX6_hoursTo 37 = .ok (.if_icmp .ge 28, 3) := by decide +kernel
theorem dX6_hoursTo_40 : decode cX6_hoursTo 40 = .ok (.aload_n 0, 1) := by decide +kernel
theorem dX6_hoursTo_41 : decode cX6_hoursTo 41 = .ok (.getfield 30, 3) := by decide +kernel
theorem dX6_hoursTo_44 : decode cX6_hoursTo 44 = .ok (.iconst 1, 1) := by decide +kernel
theorem dX6_hoursTo_45 : decode cX6_hoursTo 45 = .ok (.invokevirtual 227, 3) := by decide +kernel
theorem dX6_hoursTo_48 : decode cX6_hoursTo 48 = .ok (.iload_n 1, 1) := by decide +kernel
theorem dX6_hoursTo_49 : decode cX6_hoursTo 49 = .ok (.if_icmp .ge 16, 3) := by decide +kernel
theorem dX6_hoursTo_52 : decode cX6_hoursTo 52 = .ok (.aload_n 0, 1) := by decide +kernel
theorem dX6_hoursTo_53 : decode cX6_hoursTo 53 = .ok (.getfield 30, 3) := by decide +kernel
theorem dX6_hoursTo_56 : decode cX6_hoursTo 56 = .ok (.invokevirtual 230, 3) := by decide +kernel
theorem dX6_hoursTo_59 : decode cX6_hoursTo 59 = .ok (.iinc 2 1, 3) := by decide +kernel
theorem dX6_hoursTo_62 : decode cX6_hoursTo 62 = .ok (.goto (-28), 3) := by decide +kernel
theorem dX6_hoursTo_65 : decode cX6_hoursTo 65 = .ok (.aload_n 0, 1) := by decide +kernel
theorem dX6_hoursTo_66 : decode cX6_hoursTo 66 = .ok (.getfield 30, 3) := by decide +kernel
theorem dX6_hoursTo_69 : decode cX6_hoursTo 69 = .ok (.iconst 1, 1) := by decide +kernel
theorem dX6_hoursTo_70 : decode cX6_hoursTo 70 = .ok (.invokevirtual 227, 3) := by decide +kernel
theorem dX6_hoursTo_73 : decode cX6_hoursTo 73 = .ok (.iload_n 1, 1) := by decide +kernel
theorem dX6_hoursTo_74 : decode cX6_hoursTo 74 = .ok (.if_icmp .ge 7, 3) := by decide +kernel
theorem dX6_hoursTo_77 : decode cX6_hoursTo 77 = .ok (.iconst (-1), 1) := by decide +kernel
theorem dX6_hoursTo_78 : decode cX6_hoursTo 78 = .ok (.goto 4, 3) := by decide +kernel
theorem dX6_hoursTo_81 : decode cX6_hoursTo 81 = .ok (.iload_n 2, 1) := by decide +kernel
theorem dX6_hoursTo_82 : decode cX6_hoursTo 82 = .ok (.ireturn, 1) := by decide +kernel
theorem dX6_lossRate_0 : decode cX6_lossRate 0 = .ok (.aload_n 0, 1) := by decide +kernel
theorem dX6_lossRate_1 : decode cX6_lossRate 1 = .ok (.getfield 26, 3) := by decide +kernel
theorem dX6_lossRate_4 : decode cX6_lossRate 4 = .ok (.invokevirtual 243, 3) := by decide +kernel
theorem dX6_lossRate_7 : decode cX6_lossRate 7 = .ok (.istore_n 1, 1) := by decide +kernel
theorem dX6_lossRate_8 : decode cX6_lossRate 8 = .ok (.iload_n 1, 1) := by decide +kernel
theorem dX6_lossRate_9 : decode cX6_lossRate 9 = .ok (.ifCond .ne 7, 3) := by decide +kernel
theorem dX6_lossRate_12 : decode cX6_lossRate 12 = .ok (.fconst 0, 1) := by decide +kernel
theorem dX6_lossRate_13 : decode cX6_lossRate 13 = .ok (.goto 14, 3) := by decide +kernel
theorem dX6_lossRate_16 : decode cX6_lossRate 16 = .ok (.aload_n 0, 1) := by decide +kernel
theorem dX6_lossRate_17 : decode cX6_lossRate 17 = .ok (.getfield 26, 3) := by decide +kernel
theorem dX6_lossRate_20 : decode cX6_lossRate 20 = .ok (.invokevirtual 246, 3) := by decide +kernel
theorem dX6_lossRate_23 : decode cX6_lossRate 23 = .ok (.i2f, 1) := by decide +kernel
theorem dX6_lossRate_24 : decode cX6_lossRate 24 = .ok (.iload_n 1, 1) := by decide +kernel
theorem dX6_lossRate_25 : decode cX6_lossRate 25 = .ok (.i2f, 1) := by decide +kernel
theorem dX6_lossRate_26 : decode cX6_lossRate 26 = .ok (.fdiv, 1) := by decide +kernel
theorem dX6_lossRate_27 : decode cX6_lossRate 27 = .ok (.freturn, 1) := by decide +kernel
theorem dX6_event_0 : decode cX6_event 0 = .ok (.aload_n 0, 1) := by decide +kernel
theorem dX6_event_1 : decode cX6_event 1 = .ok (.iload_n 1, 1) := by decide +kernel
theorem dX6_event_2 : decode cX6_event 2 = .ok (.invokevirtual 249, 3) := by decide +kernel
theorem dX6_event_5 : decode cX6_event 5 = .ok (.ifCond .ne 13, 3) := by decide +kernel
theorem dX6_event_8 : decode cX6_event 8 = .ok (.new 108, 3) := by decide +kernel
theorem dX6_event_11 : decode cX6_event 11 = .ok (.dup, 1) := by decide +kernel
theorem dX6_event_12 : decode cX6_event 12 = .ok (.ldc 252, 2) := by decide +kernel
theorem dX6_event_14 : decode cX6_event 14 = .ok (.invokespecial 112, 3) := by decide +kernel
theorem dX6_event_17 : decode cX6_event 17 = .ok (.athrow, 1) := by decide +kernel
theorem dX6_event_18 : decode cX6_event 18 = .ok (.iload_n 2, 1) := by decide +kernel
theorem dX6_event_19 : decode cX6_event 19 = .ok (.ifCond .lt 8, 3) := by decide +kernel
theorem dX6_event_22 : decode cX6_event 22 = .ok (.iload_n 2, 1) := by decide +kernel
theorem dX6_event_23 : decode cX6_event 23 = .ok (.iconst 4, 1) := by decide +kernel
theorem dX6_event_24 : decode cX6_event 24 = .ok (.if_icmp .le 13, 3) := by decide +kernel
theorem dX6_event_27 : decode cX6_event 27 = .ok (.new 59, 3) := by decide +kernel
theorem dX6_event_30 : decode cX6_event 30 = .ok (.dup, 1) := by decide +kernel
theorem dX6_event_31 : decode cX6_event 31 = .ok (.ldc 156, 2) := by decide +kernel
theorem dX6_event_33 : decode cX6_event 33 = .ok (.invokespecial 63, 3) := by decide +kernel
theorem dX6_event_36 : decode cX6_event 36 = .ok (.athrow, 1) := by decide +kernel
theorem dX6_event_37 : decode cX6_event 37 = .ok (.aload_n 0, 1) := by decide +kernel
theorem dX6_event_38 : decode cX6_event 38 = .ok (.getfield 26, 3) := by decide +kernel
theorem dX6_event_41 : decode cX6_event 41 = .ok (.iload_n 1, 1) := by decide +kernel
theorem dX6_event_42 : decode cX6_event 42 = .ok (.iload_n 2, 1) := by decide +kernel
theorem dX6_event_43 : decode cX6_event 43 = .ok (.invokevirtual 254, 3) := by decide +kernel
theorem dX6_event_46 : decode cX6_event 46 = .ok (.ireturn, 1) := by decide +kernel
theorem dX6_save_0 : decode cX6_save 0 = .ok (.iload_n 1, 1) := by decide +kernel
theorem dX6_save_1 : decode cX6_save 1 = .ok (.ifCond .lt 12, 3) := by decide +kernel
theorem dX6_save_4 : decode cX6_save 4 = .ok (.iload_n 1, 1) := by decide +kernel
theorem dX6_save_5 : decode cX6_save 5 = .ok (.aload_n 0, 1) := by decide +kernel
theorem dX6_save_6 : decode cX6_save 6 = .ok (.getfield 33, 3) := by decide +kernel
theorem dX6_save_9 : decode cX6_save 9 = .ok (.arraylength, 1) := by decide +kernel
theorem dX6_save_10 : decode cX6_save 10 = .ok (.if_icmp .lt 14, 3) := by decide +kernel
theorem dX6_save_13 : decode cX6_save 13 = .ok (.new 59, 3) := by decide +kernel
theorem dX6_save_16 : decode cX6_save 16 = .ok (.dup, 1) := by decide +kernel
theorem dX6_save_17 : decode cX6_save 17 = .ok (.ldc_w 280, 3) := by decide +kernel
theorem dX6_save_20 : decode cX6_save 20 = .ok (.invokespecial 63, 3) := by decide +kernel
theorem dX6_save_23 : decode cX6_save 23 = .ok (.athrow, 1) := by decide +kernel
theorem dX6_save_24 : decode cX6_save 24 = .ok (.aload_n 0, 1) := by decide +kernel
theorem dX6_save_25 : decode cX6_save 25 = .ok (.getfield 33, 3) := by decide +kernel
theorem dX6_save_28 : decode cX6_save 28 = .ok (.iload_n 1, 1) := by decide +kernel
theorem dX6_save_29 : decode cX6_save 29 = .ok (.aaload, 1) := by decide +kernel
theorem dX6_save_30 : decode cX6_save 30 = .ok (.astore_n 2, 1) := by decide +kernel
theorem dX6_save_31 : decode cX6_save 31 = .ok (.aload_n 2, 1) := by decide +kernel
theorem dX6_save_32 : decode cX6_save 32 = .ok (.ifnonnull 18, 3) := by decide +kernel
theorem dX6_save_35 : decode cX6_save 35 = .ok (.new 23, 3) := by decide +kernel
theorem dX6_save_38 : decode cX6_save 38 = .ok (.dup, 1) := by decide +kernel
theorem dX6_save_39 : decode cX6_save 39 = .ok (.invokespecial 25, 3) := by decide +kernel
theorem dX6_save_42 : decode cX6_save 42 = .ok (.astore_n 2, 1) := by decide +kernel
theorem dX6_save_43 : decode cX6_save 43 = .ok (.aload_n 0, 1) := by decide +kernel
theorem dX6_save_44 : decode cX6_save 44 = .ok (.getfield 33, 3) := by decide +kernel
theorem dX6_save_47 : decode cX6_save 47 = .ok (.iload_n 1, 1) := by decide +kernel
theorem dX6_save_48 : decode cX6_save 48 = .ok (.aload_n 2, 1) := by decide +kernel
theorem dX6_save_49 : decode cX6_save 49 = .ok (.aastore, 1) := by decide +kernel
theorem dX6_save_50 : decode cX6_save 50 = .ok (.aload_n 2, 1) := by decide +kernel
theorem dX6_save_51 : decode cX6_save 51 = .ok (.aload_n 0, 1) := by decide +kernel
theorem dX6_save_52 : decode cX6_save 52 = .ok (.getfield 26, 3) := by decide +kernel
theorem dX6_save_55 : decode cX6_save 55 = .ok (.invokevirtual 83, 3) := by decide +kernel
theorem dX6_save_58 : decode cX6_save 58 = .ok (.return_, 1) := by decide +kernel
theorem dX6_restore_0 : decode cX6_restore 0 = .ok (.iload_n 1, 1) := by decide +kernel
theorem dX6_restore_1 : decode cX6_restore 1 = .ok (.ifCond .lt 12, 3) := by decide +kernel
theorem dX6_restore_4 : decode cX6_restore 4 = .ok (.iload_n 1, 1) := by decide +kernel
theorem dX6_restore_5 : decode cX6_restore 5 = .ok (.aload_n 0, 1) := by decide +kernel
theorem dX6_restore_6 : decode cX6_restore 6 = .ok (.getfield 33, 3) := by decide +kernel
theorem dX6_restore_9 : decode cX6_restore 9 = .ok (.arraylength, 1) := by decide +kernel
theorem dX6_restore_10 : decode cX6_restore 10 = .ok (.if_icmp .lt 14, 3) := by decide +kernel
theorem dX6_restore_13 : decode cX6_restore 13 = .ok (.new 59, 3) := by decide +kernel
theorem dX6_restore_16 : decode cX6_restore 16 = .ok (.dup, 1) := by decide +kernel
theorem dX6_restore_17 : decode cX6_restore 17 = .ok (.ldc_w 280, 3) := by decide +kernel
theorem dX6_restore_20 : decode cX6_restore 20 = .ok (.invokespecial 63, 3) := by decide +kernel
theorem dX6_restore_23 : decode cX6_restore 23 = .ok (.athrow, 1) := by decide +kernel
theorem dX6_restore_24 : decode cX6_restore 24 = .ok (.aload_n 0, 1) := by decide +kernel
theorem dX6_restore_25 : decode cX6_restore 25 = .ok (.getfield 33, 3) := by decide +kernel
theorem dX6_restore_28 : decode cX6_restore 28 = .ok (.iload_n 1, 1) := by decide +kernel
theorem dX6_restore_29 : decode cX6_restore 29 = .ok (.aaload, 1) := by decide +kernel
theorem dX6_restore_30 : decode cX6_restore 30 = .ok (.astore_n 2, 1) := by decide +kernel
theorem dX6_restore_31 : decode cX6_restore 31 = .ok (.aload_n 2, 1) := by decide +kernel
theorem dX6_restore_32 : decode cX6_restore 32 = .ok (.ifnonnull 14, 3) := by decide +kernel
theorem dX6_restore_35 : decode cX6_restore 35 = .ok (.new 48, 3) := by decide +kernel
theorem dX6_restore_38 : decode cX6_restore 38 = .ok (.dup, 1) := by decide +kernel
theorem dX6_restore_39 : decode cX6_restore 39 = .ok (.ldc_w 282, 3) := by decide +kernel
theorem dX6_restore_42 : decode cX6_restore 42 = .ok (.invokespecial 52, 3) := by decide +kernel
theorem dX6_restore_45 : decode cX6_restore 45 = .ok (.athrow, 1) := by decide +kernel
theorem dX6_restore_46 : decode cX6_restore 46 = .ok (.aload_n 0, 1) := by decide +kernel
theorem dX6_restore_47 : decode cX6_restore 47 = .ok (.getfield 26, 3) := by decide +kernel
theorem dX6_restore_50 : decode cX6_restore 50 = .ok (.aload_n 2, 1) := by decide +kernel
theorem dX6_restore_51 : decode cX6_restore 51 = .ok (.invokevirtual 83, 3) := by decide +kernel
theorem dX6_restore_54 : decode cX6_restore 54 = .ok (.return_, 1) := by decide +kernel
theorem dX6_isStation_0 : decode cX6_isStation 0 = .ok (.iload_n 1, 1) := by decide +kernel
theorem dX6_isStation_1 : decode cX6_isStation 1 = .ok (.ifCond .lt 18, 3) := by decide +kernel
theorem dX6_isStation_4 : decode cX6_isStation 4 = .ok (.iload_n 1, 1) := by decide +kernel
theorem dX6_isStation_5 : decode cX6_isStation 5 = .ok (.aload_n 0, 1) := by decide +kernel
theorem dX6_isStation_6 : decode cX6_isStation 6 = .ok (.getfield 26, 3) := by decide +kernel
theorem dX6_isStation_9 : decode cX6_isStation 9 = .ok (.invokevirtual 96, 3) := by decide +kernel
theorem dX6_isStation_12 : decode cX6_isStation 12 = .ok (.if_icmp .ge 7, 3) := by decide +kernel
theorem dX6_isStation_15 : decode cX6_isStation 15 = .ok (.iconst 1, 1) := by decide +kernel
theorem dX6_isStation_16 : decode cX6_isStation 16 = .ok (.goto 4, 3) := by decide +kernel
theorem dX6_isStation_19 : decode cX6_isStation 19 = .ok (.iconst 0, 1) := by decide +kernel
theorem dX6_isStation_20 : decode cX6_isStation 20 = .ok (.ireturn, 1) := by decide +kernel
theorem dX6_isLink_0 : decode cX6_isLink 0 = .ok (.iload_n 1, 1) := by decide +kernel
theorem dX6_isLink_1 : decode cX6_isLink 1 = .ok (.ifCond .lt 18, 3) := by decide +kernel
theorem dX6_isLink_4 : decode cX6_isLink 4 = .ok (.iload_n 1, 1) := by decide +kernel
theorem dX6_isLink_5 : decode cX6_isLink 5 = .ok (.aload_n 0, 1) := by decide +kernel
theorem dX6_isLink_6 : decode cX6_isLink 6 = .ok (.getfield 26, 3) := by decide +kernel
theorem dX6_isLink_9 : decode cX6_isLink 9 = .ok (.invokevirtual 122, 3) := by decide +kernel
theorem dX6_isLink_12 : decode cX6_isLink 12 = .ok (.if_icmp .ge 7, 3) := by decide +kernel
theorem dX6_isLink_15 : decode cX6_isLink 15 = .ok (.iconst 1, 1) := by decide +kernel
theorem dX6_isLink_16 : decode cX6_isLink 16 = .ok (.goto 4, 3) := by decide +kernel
theorem dX6_isLink_19 : decode cX6_isLink 19 = .ok (.iconst 0, 1) := by decide +kernel
theorem dX6_isLink_20 : decode cX6_isLink 20 = .ok (.ireturn, 1) := by decide +kernel
theorem dX6_isMessage_0 : decode cX6_isMessage 0 = .ok (.iload_n 1, 1) := by decide +kernel
theorem dX6_isMessage_1 : decode cX6_isMessage 1 = .ok (.ifCond .lt 18, 3) := by decide +kernel
theorem dX6_isMessage_4 : decode cX6_isMessage 4 = .ok (.iload_n 1, 1) := by decide +kernel
theorem dX6_isMessage_5 : decode cX6_isMessage 5 = .ok (.aload_n 0, 1) := by decide +kernel
theorem dX6_isMessage_6 : decode cX6_isMessage 6 = .ok (.getfield 26, 3) := by decide +kernel
theorem dX6_isMessage_9 : decode cX6_isMessage 9 = .ok (.invokevirtual 183, 3) := by decide +kernel
theorem dX6_isMessage_12 : decode cX6_isMessage 12 = .ok (.if_icmp .ge 7, 3) := by decide +kernel
theorem dX6_isMessage_15 : decode cX6_isMessage 15 = .ok (.iconst 1, 1) := by decide +kernel
theorem dX6_isMessage_16 : decode cX6_isMessage 16 = .ok (.goto 4, 3) := by decide +kernel
theorem dX6_isMessage_19 : decode cX6_isMessage 19 = .ok (.iconst 0, 1) := by decide +kernel
theorem dX6_isMessage_20 : decode cX6_isMessage 20 = .ok (.ireturn, 1) := by decide +kernel
theorem dX6_isEvent_0 : decode cX6_isEvent 0 = .ok (.iload_n 1, 1) := by decide +kernel
theorem dX6_isEvent_1 : decode cX6_isEvent 1 = .ok (.ifCond .lt 18, 3) := by decide +kernel
theorem dX6_isEvent_4 : decode cX6_isEvent 4 = .ok (.iload_n 1, 1) := by decide +kernel
theorem dX6_isEvent_5 : decode cX6_isEvent 5 = .ok (.aload_n 0, 1) := by decide +kernel
theorem dX6_isEvent_6 : decode cX6_isEvent 6 = .ok (.getfield 26, 3) := by decide +kernel
theorem dX6_isEvent_9 : decode cX6_isEvent 9 = .ok (.invokevirtual 284, 3) := by decide +kernel
theorem dX6_isEvent_12 : decode cX6_isEvent 12 = .ok (.if_icmp .ge 7, 3) := by decide +kernel
theorem dX6_isEvent_15 : decode cX6_isEvent 15 = .ok (.iconst 1, 1) := by decide +kernel
theorem dX6_isEvent_16 : decode cX6_isEvent 16 = .ok (.goto 4, 3) := by decide +kernel
theorem dX6_isEvent_19 : decode cX6_isEvent 19 = .ok (.iconst 0, 1) := by decide +kernel
theorem dX6_isEvent_20 : decode cX6_isEvent 20 = .ok (.ireturn, 1) := by decide +kernel
theorem dX6_isHour_0 : decode cX6_isHour 0 = .ok (.iload_n 0, 1) := by decide +kernel
theorem dX6_isHour_1 : decode cX6_isHour 1 = .ok (.ifCond .lt 13, 3) := by decide +kernel
theorem dX6_isHour_4 : decode cX6_isHour 4 = .ok (.iload_n 0, 1) := by decide +kernel
theorem dX6_isHour_5 : decode cX6_isHour 5 = .ok (.bipush 24, 2) := by decide +kernel
theorem dX6_isHour_7 : decode cX6_isHour 7 = .ok (.if_icmp .ge 7, 3) := by decide +kernel
theorem dX6_isHour_10 : decode cX6_isHour 10 = .ok (.iconst 1, 1) := by decide +kernel
theorem dX6_isHour_11 : decode cX6_isHour 11 = .ok (.goto 4, 3) := by decide +kernel
theorem dX6_isHour_14 : decode cX6_isHour 14 = .ok (.iconst 0, 1) := by decide +kernel
theorem dX6_isHour_15 : decode cX6_isHour 15 = .ok (.ireturn, 1) := by decide +kernel
theorem dX6_isRate_0 : decode cX6_isRate 0 = .ok (.iload_n 0, 1) := by decide +kernel
theorem dX6_isRate_1 : decode cX6_isRate 1 = .ok (.iconst 1, 1) := by decide +kernel
theorem dX6_isRate_2 : decode cX6_isRate 2 = .ok (.if_icmp .lt 13, 3) := by decide +kernel
theorem dX6_isRate_5 : decode cX6_isRate 5 = .ok (.iload_n 0, 1) := by decide +kernel
theorem dX6_isRate_6 : decode cX6_isRate 6 = .ok (.bipush 9, 2) := by decide +kernel
theorem dX6_isRate_8 : decode cX6_isRate 8 = .ok (.if_icmp .gt 7, 3) := by decide +kernel
theorem dX6_isRate_11 : decode cX6_isRate 11 = .ok (.iconst 1, 1) := by decide +kernel
theorem dX6_isRate_12 : decode cX6_isRate 12 = .ok (.goto 4, 3) := by decide +kernel
theorem dX6_isRate_15 : decode cX6_isRate 15 = .ok (.iconst 0, 1) := by decide +kernel
theorem dX6_isRate_16 : decode cX6_isRate 16 = .ok (.ireturn, 1) := by decide +kernel
theorem dX6_isQuality_0 : decode cX6_isQuality 0 = .ok (.iload_n 0, 1) := by decide +kernel
theorem dX6_isQuality_1 : decode cX6_isQuality 1 = .ok (.ifCond .lt 13, 3) := by decide +kernel
theorem dX6_isQuality_4 : decode cX6_isQuality 4 = .ok (.iload_n 0, 1) := by decide +kernel
theorem dX6_isQuality_5 : decode cX6_isQuality 5 = .ok (.bipush 100, 2) := by decide +kernel
theorem dX6_isQuality_7 : decode cX6_isQuality 7 = .ok (.if_icmp .gt 7, 3) := by decide +kernel
theorem dX6_isQuality_10 : decode cX6_isQuality 10 = .ok (.iconst 1, 1) := by decide +kernel
theorem dX6_isQuality_11 : decode cX6_isQuality 11 = .ok (.goto 4, 3) := by decide +kernel
theorem dX6_isQuality_14 : decode cX6_isQuality 14 = .ok (.iconst 0, 1) := by decide +kernel
theorem dX6_isQuality_15 : decode cX6_isQuality 15 = .ok (.ireturn, 1) := by decide +kernel
theorem dX6_isPriority_0 : decode cX6_isPriority 0 = .ok (.iload_n 0, 1) := by decide +kernel
theorem dX6_isPriority_1 : decode cX6_isPriority 1 = .ok (.ifCond .lt 12, 3) := by decide +kernel
theorem dX6_isPriority_4 : decode cX6_isPriority 4 = .ok (.iload_n 0, 1) := by decide +kernel
theorem dX6_isPriority_5 : decode cX6_isPriority 5 = .ok (.iconst 3, 1) := by decide +kernel
theorem dX6_isPriority_6 : decode cX6_isPriority 6 = .ok (.if_icmp .gt 7, 3) := by decide +kernel
theorem dX6_isPriority_9 : decode cX6_isPriority 9 = .ok (.iconst 1, 1) := by decide +kernel
theorem dX6_isPriority_10 : decode cX6_isPriority 10 = .ok (.goto 4, 3) := by decide +kernel
theorem dX6_isPriority_13 : decode cX6_isPriority 13 = .ok (.iconst 0, 1) := by decide +kernel
theorem dX6_isPriority_14 : decode cX6_isPriority 14 = .ok (.ireturn, 1) := by decide +kernel
theorem dX6_isHours_0 : decode cX6_isHours 0 = .ok (.iload_n 0, 1) := by decide +kernel
theorem dX6_isHours_1 : decode cX6_isHours 1 = .ok (.iconst 1, 1) := by decide +kernel
theorem dX6_isHours_2 : decode cX6_isHours 2 = .ok (.if_icmp .lt 13, 3) := by decide +kernel
theorem dX6_isHours_5 : decode cX6_isHours 5 = .ok (.iload_n 0, 1) := by decide +kernel
theorem dX6_isHours_6 : decode cX6_isHours 6 = .ok (.bipush 72, 2) := by decide +kernel
theorem dX6_isHours_8 : decode cX6_isHours 8 = .ok (.if_icmp .gt 7, 3) := by decide +kernel
theorem dX6_isHours_11 : decode cX6_isHours 11 = .ok (.iconst 1, 1) := by decide +kernel
theorem dX6_isHours_12 : decode cX6_isHours 12 = .ok (.goto 4, 3) := by decide +kernel
theorem dX6_isHours_15 : decode cX6_isHours 15 = .ok (.iconst 0, 1) := by decide +kernel
theorem dX6_isHours_16 : decode cX6_isHours 16 = .ok (.ireturn, 1) := by decide +kernel
theorem dJ6_numberOfTrailingZeros_0f7a4_0 : decode cJ6_numberOfTrailingZeros_0f7a4 0 = .ok (.iload_n 0, 1) := by decide +kernel
theorem dJ6_numberOfTrailingZeros_0f7a4_1 : decode cJ6_numberOfTrailingZeros_0f7a4 1 = .ok (.iconst (-1), 1) := by decide +kernel
theorem dJ6_numberOfTrailingZeros_0f7a4_2 : decode cJ6_numberOfTrailingZeros_0f7a4 2 = .ok (.ixor, 1) := by decide +kernel
theorem dJ6_numberOfTrailingZeros_0f7a4_3 : decode cJ6_numberOfTrailingZeros_0f7a4 3 = .ok (.iload_n 0, 1) := by decide +kernel
theorem dJ6_numberOfTrailingZeros_0f7a4_4 : decode cJ6_numberOfTrailingZeros_0f7a4 4 = .ok (.iconst 1, 1) := by decide +kernel
theorem dJ6_numberOfTrailingZeros_0f7a4_5 : decode cJ6_numberOfTrailingZeros_0f7a4 5 = .ok (.isub, 1) := by decide +kernel
theorem dJ6_numberOfTrailingZeros_0f7a4_6 : decode cJ6_numberOfTrailingZeros_0f7a4 6 = .ok (.iand, 1) := by decide +kernel
theorem dJ6_numberOfTrailingZeros_0f7a4_7 : decode cJ6_numberOfTrailingZeros_0f7a4 7 = .ok (.istore_n 0, 1) := by decide +kernel
theorem dJ6_numberOfTrailingZeros_0f7a4_8 : decode cJ6_numberOfTrailingZeros_0f7a4 8 = .ok (.iload_n 0, 1) := by decide +kernel
theorem dJ6_numberOfTrailingZeros_0f7a4_9 : decode cJ6_numberOfTrailingZeros_0f7a4 9 = .ok (.ifCond .gt 8, 3) := by decide +kernel
theorem dJ6_numberOfTrailingZeros_0f7a4_12 : decode cJ6_numberOfTrailingZeros_0f7a4 12 = .ok (.iload_n 0, 1) := by decide +kernel
theorem dJ6_numberOfTrailingZeros_0f7a4_13 : decode cJ6_numberOfTrailingZeros_0f7a4 13 = .ok (.bipush 32, 2) := by decide +kernel
theorem dJ6_numberOfTrailingZeros_0f7a4_15 : decode cJ6_numberOfTrailingZeros_0f7a4 15 = .ok (.iand, 1) := by decide +kernel
theorem dJ6_numberOfTrailingZeros_0f7a4_16 : decode cJ6_numberOfTrailingZeros_0f7a4 16 = .ok (.ireturn, 1) := by decide +kernel
theorem dJ6_numberOfTrailingZeros_0f7a4_17 : decode cJ6_numberOfTrailingZeros_0f7a4 17 = .ok (.iconst 1, 1) := by decide +kernel
theorem dJ6_numberOfTrailingZeros_0f7a4_18 : decode cJ6_numberOfTrailingZeros_0f7a4 18 = .ok (.istore_n 1, 1) := by decide +kernel
theorem dJ6_numberOfTrailingZeros_0f7a4_19 : decode cJ6_numberOfTrailingZeros_0f7a4 19 = .ok (.iload_n 0, 1) := by decide +kernel
theorem dJ6_numberOfTrailingZeros_0f7a4_20 : decode cJ6_numberOfTrailingZeros_0f7a4 20 = .ok (.ldc_w 264, 3) := by decide +kernel
theorem dJ6_numberOfTrailingZeros_0f7a4_23 : decode cJ6_numberOfTrailingZeros_0f7a4 23 = .ok (.if_icmp .le 11, 3) := by decide +kernel
theorem dJ6_numberOfTrailingZeros_0f7a4_26 : decode cJ6_numberOfTrailingZeros_0f7a4 26 = .ok (.iinc 1 16, 3) := by decide +kernel
theorem dJ6_numberOfTrailingZeros_0f7a4_29 : decode cJ6_numberOfTrailingZeros_0f7a4 29 = .ok (.iload_n 0, 1) := by decide +kernel
theorem dJ6_numberOfTrailingZeros_0f7a4_30 : decode cJ6_numberOfTrailingZeros_0f7a4 30 = .ok (.bipush 16, 2) := by decide +kernel
theorem dJ6_numberOfTrailingZeros_0f7a4_32 : decode cJ6_numberOfTrailingZeros_0f7a4 32 = .ok (.iushr, 1) := by decide +kernel
theorem dJ6_numberOfTrailingZeros_0f7a4_33 : decode cJ6_numberOfTrailingZeros_0f7a4 33 = .ok (.istore_n 0, 1) := by decide +kernel
theorem dJ6_numberOfTrailingZeros_0f7a4_34 : decode cJ6_numberOfTrailingZeros_0f7a4 34 = .ok (.iload_n 0, 1) := by decide +kernel
theorem dJ6_numberOfTrailingZeros_0f7a4_35 : decode cJ6_numberOfTrailingZeros_0f7a4 35 = .ok (.sipush 256, 3) := by decide +kernel
theorem dJ6_numberOfTrailingZeros_0f7a4_38 : decode cJ6_numberOfTrailingZeros_0f7a4 38 = .ok (.if_icmp .le 11, 3) := by decide +kernel
theorem dJ6_numberOfTrailingZeros_0f7a4_41 : decode cJ6_numberOfTrailingZeros_0f7a4 41 = .ok (.iinc 1 8, 3) := by decide +kernel
theorem dJ6_numberOfTrailingZeros_0f7a4_44 : decode cJ6_numberOfTrailingZeros_0f7a4 44 = .ok (.iload_n 0, 1) := by decide +kernel
theorem dJ6_numberOfTrailingZeros_0f7a4_45 : decode cJ6_numberOfTrailingZeros_0f7a4 45 = .ok (.bipush 8, 2) := by decide +kernel
theorem dJ6_numberOfTrailingZeros_0f7a4_47 : decode cJ6_numberOfTrailingZeros_0f7a4 47 = .ok (.iushr, 1) := by decide +kernel
theorem dJ6_numberOfTrailingZeros_0f7a4_48 : decode cJ6_numberOfTrailingZeros_0f7a4 48 = .ok (.istore_n 0, 1) := by decide +kernel
theorem dJ6_numberOfTrailingZeros_0f7a4_49 : decode cJ6_numberOfTrailingZeros_0f7a4 49 = .ok (.iload_n 0, 1) := by decide +kernel
theorem dJ6_numberOfTrailingZeros_0f7a4_50 : decode cJ6_numberOfTrailingZeros_0f7a4 50 = .ok (.bipush 16, 2) := by decide +kernel
theorem dJ6_numberOfTrailingZeros_0f7a4_52 : decode cJ6_numberOfTrailingZeros_0f7a4 52 = .ok (.if_icmp .le 10, 3) := by decide +kernel
theorem dJ6_numberOfTrailingZeros_0f7a4_55 : decode cJ6_numberOfTrailingZeros_0f7a4 55 = .ok (.iinc 1 4, 3) := by decide +kernel
theorem dJ6_numberOfTrailingZeros_0f7a4_58 : decode cJ6_numberOfTrailingZeros_0f7a4 58 = .ok (.iload_n 0, 1) := by decide +kernel
theorem dJ6_numberOfTrailingZeros_0f7a4_59 : decode cJ6_numberOfTrailingZeros_0f7a4 59 = .ok (.iconst 4, 1) := by decide +kernel
theorem dJ6_numberOfTrailingZeros_0f7a4_60 : decode cJ6_numberOfTrailingZeros_0f7a4 60 = .ok (.iushr, 1) := by decide +kernel
theorem dJ6_numberOfTrailingZeros_0f7a4_61 : decode cJ6_numberOfTrailingZeros_0f7a4 61 = .ok (.istore_n 0, 1) := by decide +kernel
theorem dJ6_numberOfTrailingZeros_0f7a4_62 : decode cJ6_numberOfTrailingZeros_0f7a4 62 = .ok (.iload_n 0, 1) := by decide +kernel
theorem dJ6_numberOfTrailingZeros_0f7a4_63 : decode cJ6_numberOfTrailingZeros_0f7a4 63 = .ok (.iconst 4, 1) := by decide +kernel
theorem dJ6_numberOfTrailingZeros_0f7a4_64 : decode cJ6_numberOfTrailingZeros_0f7a4 64 = .ok (.if_icmp .le 10, 3) := by decide +kernel
theorem dJ6_numberOfTrailingZeros_0f7a4_67 : decode cJ6_numberOfTrailingZeros_0f7a4 67 = .ok (.iinc 1 2, 3) := by decide +kernel
theorem dJ6_numberOfTrailingZeros_0f7a4_70 : decode cJ6_numberOfTrailingZeros_0f7a4 70 = .ok (.iload_n 0, 1) := by decide +kernel
theorem dJ6_numberOfTrailingZeros_0f7a4_71 : decode cJ6_numberOfTrailingZeros_0f7a4 71 = .ok (.iconst 2, 1) := by decide +kernel
theorem dJ6_numberOfTrailingZeros_0f7a4_72 : decode cJ6_numberOfTrailingZeros_0f7a4 72 = .ok (.iushr, 1) := by decide +kernel
theorem dJ6_numberOfTrailingZeros_0f7a4_73 : decode cJ6_numberOfTrailingZeros_0f7a4 73 = .ok (.istore_n 0, 1) := by decide +kernel
theorem dJ6_numberOfTrailingZeros_0f7a4_74 : decode cJ6_numberOfTrailingZeros_0f7a4 74 = .ok (.iload_n 1, 1) := by decide +kernel
theorem dJ6_numberOfTrailingZeros_0f7a4_75 : decode cJ6_numberOfTrailingZeros_0f7a4 75 = .ok (.iload_n 0, 1) := by decide +kernel
theorem dJ6_numberOfTrailingZeros_0f7a4_76 : decode cJ6_numberOfTrailingZeros_0f7a4 76 = .ok (.iconst 1, 1) := by decide +kernel
theorem dJ6_numberOfTrailingZeros_0f7a4_77 : decode cJ6_numberOfTrailingZeros_0f7a4 77 = .ok (.iushr, 1) := by decide +kernel
theorem dJ6_numberOfTrailingZeros_0f7a4_78 : decode cJ6_numberOfTrailingZeros_0f7a4 78 = .ok (.iadd, 1) := by decide +kernel
theorem dJ6_numberOfTrailingZeros_0f7a4_79 : decode cJ6_numberOfTrailingZeros_0f7a4 79 = .ok (.ireturn, 1) := by decide +kernel
theorem dJ6_bitCount_0f7a4_0 : decode cJ6_bitCount_0f7a4 0 = .ok (.iload_n 0, 1) := by decide +kernel
theorem dJ6_bitCount_0f7a4_1 : decode cJ6_bitCount_0f7a4 1 = .ok (.iload_n 0, 1) := by decide +kernel
theorem dJ6_bitCount_0f7a4_2 : decode cJ6_bitCount_0f7a4 2 = .ok (.iconst 1, 1) := by decide +kernel
theorem dJ6_bitCount_0f7a4_3 : decode cJ6_bitCount_0f7a4 3 = .ok (.iushr, 1) := by decide +kernel
theorem dJ6_bitCount_0f7a4_4 : decode cJ6_bitCount_0f7a4 4 = .ok (.ldc_w 265, 3) := by decide +kernel
theorem dJ6_bitCount_0f7a4_7 : decode cJ6_bitCount_0f7a4 7 = .ok (.iand, 1) := by decide +kernel
theorem dJ6_bitCount_0f7a4_8 : decode cJ6_bitCount_0f7a4 8 = .ok (.isub, 1) := by decide +kernel
theorem dJ6_bitCount_0f7a4_9 : decode cJ6_bitCount_0f7a4 9 = .ok (.istore_n 0, 1) := by decide +kernel
theorem dJ6_bitCount_0f7a4_10 : decode cJ6_bitCount_0f7a4 10 = .ok (.iload_n 0, 1) := by decide +kernel
theorem dJ6_bitCount_0f7a4_11 : decode cJ6_bitCount_0f7a4 11 = .ok (.ldc_w 266, 3) := by decide +kernel
theorem dJ6_bitCount_0f7a4_14 : decode cJ6_bitCount_0f7a4 14 = .ok (.iand, 1) := by decide +kernel
theorem dJ6_bitCount_0f7a4_15 : decode cJ6_bitCount_0f7a4 15 = .ok (.iload_n 0, 1) := by decide +kernel
theorem dJ6_bitCount_0f7a4_16 : decode cJ6_bitCount_0f7a4 16 = .ok (.iconst 2, 1) := by decide +kernel
theorem dJ6_bitCount_0f7a4_17 : decode cJ6_bitCount_0f7a4 17 = .ok (.iushr, 1) := by decide +kernel
theorem dJ6_bitCount_0f7a4_18 : decode cJ6_bitCount_0f7a4 18 = .ok (.ldc_w 266, 3) := by decide +kernel
theorem dJ6_bitCount_0f7a4_21 : decode cJ6_bitCount_0f7a4 21 = .ok (.iand, 1) := by decide +kernel
theorem dJ6_bitCount_0f7a4_22 : decode cJ6_bitCount_0f7a4 22 = .ok (.iadd, 1) := by decide +kernel
theorem dJ6_bitCount_0f7a4_23 : decode cJ6_bitCount_0f7a4 23 = .ok (.istore_n 0, 1) := by decide +kernel
theorem dJ6_bitCount_0f7a4_24 : decode cJ6_bitCount_0f7a4 24 = .ok (.iload_n 0, 1) := by decide +kernel
theorem dJ6_bitCount_0f7a4_25 : decode cJ6_bitCount_0f7a4 25 = .ok (.iload_n 0, 1) := by decide +kernel
theorem dJ6_bitCount_0f7a4_26 : decode cJ6_bitCount_0f7a4 26 = .ok (.iconst 4, 1) := by decide +kernel
theorem dJ6_bitCount_0f7a4_27 : decode cJ6_bitCount_0f7a4 27 = .ok (.iushr, 1) := by decide +kernel
theorem dJ6_bitCount_0f7a4_28 : decode cJ6_bitCount_0f7a4 28 = .ok (.iadd, 1) := by decide +kernel
theorem dJ6_bitCount_0f7a4_29 : decode cJ6_bitCount_0f7a4 29 = .ok (.ldc_w 267, 3) := by decide +kernel
theorem dJ6_bitCount_0f7a4_32 : decode cJ6_bitCount_0f7a4 32 = .ok (.iand, 1) := by decide +kernel
theorem dJ6_bitCount_0f7a4_33 : decode cJ6_bitCount_0f7a4 33 = .ok (.istore_n 0, 1) := by decide +kernel
theorem dJ6_bitCount_0f7a4_34 : decode cJ6_bitCount_0f7a4 34 = .ok (.iload_n 0, 1) := by decide +kernel
theorem dJ6_bitCount_0f7a4_35 : decode cJ6_bitCount_0f7a4 35 = .ok (.iload_n 0, 1) := by decide +kernel
theorem dJ6_bitCount_0f7a4_36 : decode cJ6_bitCount_0f7a4 36 = .ok (.bipush 8, 2) := by decide +kernel
theorem dJ6_bitCount_0f7a4_38 : decode cJ6_bitCount_0f7a4 38 = .ok (.iushr, 1) := by decide +kernel
theorem dJ6_bitCount_0f7a4_39 : decode cJ6_bitCount_0f7a4 39 = .ok (.iadd, 1) := by decide +kernel
theorem dJ6_bitCount_0f7a4_40 : decode cJ6_bitCount_0f7a4 40 = .ok (.istore_n 0, 1) := by decide +kernel
theorem dJ6_bitCount_0f7a4_41 : decode cJ6_bitCount_0f7a4 41 = .ok (.iload_n 0, 1) := by decide +kernel
theorem dJ6_bitCount_0f7a4_42 : decode cJ6_bitCount_0f7a4 42 = .ok (.iload_n 0, 1) := by decide +kernel
theorem dJ6_bitCount_0f7a4_43 : decode cJ6_bitCount_0f7a4 43 = .ok (.bipush 16, 2) := by decide +kernel
theorem dJ6_bitCount_0f7a4_45 : decode cJ6_bitCount_0f7a4 45 = .ok (.iushr, 1) := by decide +kernel
theorem dJ6_bitCount_0f7a4_46 : decode cJ6_bitCount_0f7a4 46 = .ok (.iadd, 1) := by decide +kernel
theorem dJ6_bitCount_0f7a4_47 : decode cJ6_bitCount_0f7a4 47 = .ok (.istore_n 0, 1) := by decide +kernel
theorem dJ6_bitCount_0f7a4_48 : decode cJ6_bitCount_0f7a4 48 = .ok (.iload_n 0, 1) := by decide +kernel
theorem dJ6_bitCount_0f7a4_49 : decode cJ6_bitCount_0f7a4 49 = .ok (.bipush 63, 2) := by decide +kernel
theorem dJ6_bitCount_0f7a4_51 : decode cJ6_bitCount_0f7a4 51 = .ok (.iand, 1) := by decide +kernel
theorem dJ6_bitCount_0f7a4_52 : decode cJ6_bitCount_0f7a4 52 = .ok (.ireturn, 1) := by decide +kernel
theorem dJ9_max_7cf53_0 : decode cJ9_max_7cf53 0 = .ok (.iload_n 0, 1) := by decide +kernel
theorem dJ9_max_7cf53_1 : decode cJ9_max_7cf53 1 = .ok (.iload_n 1, 1) := by decide +kernel
theorem dJ9_max_7cf53_2 : decode cJ9_max_7cf53 2 = .ok (.if_icmp .lt 7, 3) := by decide +kernel
theorem dJ9_max_7cf53_5 : decode cJ9_max_7cf53 5 = .ok (.iload_n 0, 1) := by decide +kernel
theorem dJ9_max_7cf53_6 : decode cJ9_max_7cf53 6 = .ok (.goto 4, 3) := by decide +kernel
theorem dJ9_max_7cf53_9 : decode cJ9_max_7cf53 9 = .ok (.iload_n 1, 1) := by decide +kernel
theorem dJ9_max_7cf53_10 : decode cJ9_max_7cf53 10 = .ok (.ireturn, 1) := by decide +kernel
theorem dJ9_min_7cf53_0 : decode cJ9_min_7cf53 0 = .ok (.iload_n 0, 1) := by decide +kernel
theorem dJ9_min_7cf53_1 : decode cJ9_min_7cf53 1 = .ok (.iload_n 1, 1) := by decide +kernel
theorem dJ9_min_7cf53_2 : decode cJ9_min_7cf53 2 = .ok (.if_icmp .gt 7, 3) := by decide +kernel
theorem dJ9_min_7cf53_5 : decode cJ9_min_7cf53 5 = .ok (.iload_n 0, 1) := by decide +kernel
theorem dJ9_min_7cf53_6 : decode cJ9_min_7cf53 6 = .ok (.goto 4, 3) := by decide +kernel
theorem dJ9_min_7cf53_9 : decode cJ9_min_7cf53 9 = .ok (.iload_n 1, 1) := by decide +kernel
theorem dJ9_min_7cf53_10 : decode cJ9_min_7cf53 10 = .ok (.ireturn, 1) := by decide +kernel
theorem dL_init_0 : decode cL_init 0 = .ok (.aload_n 0, 1) := by decide +kernel
theorem dL_init_1 : decode cL_init 1 = .ok (.invokespecial 1, 3) := by decide +kernel
theorem dL_init_4 : decode cL_init 4 = .ok (.aload_n 0, 1) := by decide +kernel
theorem dL_init_5 : decode cL_init 5 = .ok (.new 7, 3) := by decide +kernel
theorem dL_init_8 : decode cL_init 8 = .ok (.dup, 1) := by decide +kernel
theorem dL_init_9 : decode cL_init 9 = .ok (.invokespecial 9, 3) := by decide +kernel
theorem dL_init_12 : decode cL_init 12 = .ok (.putfield 10, 3) := by decide +kernel
theorem dL_init_15 : decode cL_init 15 = .ok (.aload_n 0, 1) := by decide +kernel
theorem dL_init_16 : decode cL_init 16 = .ok (.bipush 8, 2) := by decide +kernel
theorem dL_init_18 : decode cL_init 18 = .ok (.newarray .int, 2) := by decide +kernel
theorem dL_init_20 : decode cL_init 20 = .ok (.putfield 16, 3) := by decide +kernel
theorem dL_init_23 : decode cL_init 23 = .ok (.return_, 1) := by decide +kernel
theorem dL_at_0 : decode cL_at 0 = .ok (.iload_n 1, 1) := by decide +kernel
theorem dL_at_1 : decode cL_at 1 = .ok (.aload_n 0, 1) := by decide +kernel
theorem dL_at_2 : decode cL_at 2 = .ok (.arraylength, 1) := by decide +kernel
theorem dL_at_3 : decode cL_at 3 = .ok (.if_icmp .ge 9, 3) := by decide +kernel
theorem dL_at_6 : decode cL_at 6 = .ok (.aload_n 0, 1) := by decide +kernel
theorem dL_at_7 : decode cL_at 7 = .ok (.iload_n 1, 1) := by decide +kernel
theorem dL_at_8 : decode cL_at 8 = .ok (.iaload, 1) := by decide +kernel
theorem dL_at_9 : decode cL_at 9 = .ok (.goto 4, 3) := by decide +kernel
theorem dL_at_12 : decode cL_at 12 = .ok (.iconst 0, 1) := by decide +kernel
theorem dL_at_13 : decode cL_at 13 = .ok (.istore_n 2, 1) := by decide +kernel
theorem dL_at_14 : decode cL_at 14 = .ok (.iload_n 2, 1) := by decide +kernel
theorem dL_at_15 : decode cL_at 15 = .ok (.ifCond .le 22, 3) := by decide +kernel
theorem dL_at_18 : decode cL_at 18 = .ok (.iload_n 2, 1) := by decide +kernel
theorem dL_at_19 : decode cL_at 19 = .ok (.sipush 512, 3) := by decide +kernel
theorem dL_at_22 : decode cL_at 22 = .ok (.if_icmp .ge 15, 3) := by decide +kernel
theorem dL_at_25 : decode cL_at 25 = .ok (.iload_n 2, 1) := by decide +kernel
theorem dL_at_26 : decode cL_at 26 = .ok (.ldc 20, 2) := by decide +kernel
theorem dL_at_28 : decode cL_at 28 = .ok (.imul, 1) := by decide +kernel
theorem dL_at_29 : decode cL_at 29 = .ok (.iload_n 1, 1) := by decide +kernel
theorem dL_at_30 : decode cL_at 30 = .ok (.ldc 21, 2) := by decide +kernel
theorem dL_at_32 : decode cL_at 32 = .ok (.imul, 1) := by decide +kernel
theorem dL_at_33 : decode cL_at 33 = .ok (.ixor, 1) := by decide +kernel
theorem dL_at_34 : decode cL_at 34 = .ok (.goto 4, 3) := by decide +kernel
theorem dL_at_37 : decode cL_at 37 = .ok (.iload_n 2, 1) := by decide +kernel
theorem dL_at_38 : decode cL_at 38 = .ok (.ireturn, 1) := by decide +kernel
theorem dL_draw_0 : decode cL_draw 0 = .ok (.aload_n 0, 1) := by decide +kernel
theorem dL_draw_1 : decode cL_draw 1 = .ok (.getfield 22, 3) := by decide +kernel
theorem dL_draw_4 : decode cL_draw 4 = .ok (.aload_n 0, 1) := by decide +kernel
theorem dL_draw_5 : decode cL_draw 5 = .ok (.getfield 25, 3) := by decide +kernel
theorem dL_draw_8 : decode cL_draw 8 = .ok (.iconst 1, 1) := by decide +kernel
theorem dL_draw_9 : decode cL_draw 9 = .ok (.aload_n 0, 1) := by decide +kernel
theorem dL_draw_10 : decode cL_draw 10 = .ok (.getfield 22, 3) := by decide +kernel
theorem dL_draw_13 : decode cL_draw 13 = .ok (.arraylength, 1) := by decide +kernel
theorem dL_draw_14 : decode cL_draw 14 = .ok (.invokestatic 29, 3) := by decide +kernel
theorem dL_draw_17 : decode cL_draw 17 = .ok (.irem, 1) := by decide +kernel
theorem dL_draw_18 : decode cL_draw 18 = .ok (.invokestatic 35, 3) := by decide +kernel
theorem dL_draw_21 : decode cL_draw 21 = .ok (.aload_n 0, 1) := by decide +kernel
theorem dL_draw_22 : decode cL_draw 22 = .ok (.getfield 25, 3) := by decide +kernel
theorem dL_draw_25 : decode cL_draw 25 = .ok (.ldc 39, 2) := by decide +kernel
theorem dL_draw_27 : decode cL_draw 27 = .ok (.imul, 1) := by decide +kernel
theorem dL_draw_28 : decode cL_draw 28 = .ok (.iadd, 1) := by decide +kernel
theorem dL_draw_29 : decode cL_draw 29 = .ok (.istore_n 2, 1) := by decide +kernel
theorem dL_draw_30 : decode cL_draw 30 = .ok (.aload_n 0, 1) := by decide +kernel
theorem dL_draw_31 : decode cL_draw 31 = .ok (.dup, 1) := by decide +kernel
theorem dL_draw_32 : decode cL_draw 32 = .ok (.getfield 25, 3) := by decide +kernel
theorem dL_draw_35 : decode cL_draw 35 = .ok (.iconst 1, 1) := by decide +kernel
theorem dL_draw_36 : decode cL_draw 36 = .ok (.iadd, 1) := by decide +kernel
theorem dL_draw_37 : decode cL_draw 37 = .ok (.putfield 25, 3) := by decide +kernel
theorem dL_draw_40 : decode cL_draw 40 = .ok (.iload_n 2, 1) := by decide +kernel
theorem dL_draw_41 : decode cL_draw 41 = .ok (.iload_n 2, 1) := by decide +kernel
theorem dL_draw_42 : decode cL_draw 42 = .ok (.bipush 15, 2) := by decide +kernel
theorem dL_draw_44 : decode cL_draw 44 = .ok (.iushr, 1) := by decide +kernel
theorem dL_draw_45 : decode cL_draw 45 = .ok (.ixor, 1) := by decide +kernel
theorem dL_draw_46 : decode cL_draw 46 = .ok (.istore_n 2, 1) := by decide +kernel
theorem dL_draw_47 : decode cL_draw 47 = .ok (.iload_n 2, 1) := by decide +kernel
theorem dL_draw_48 : decode cL_draw 48 = .ok (.ldc 40, 2) := by decide +kernel
theorem dL_draw_50 : decode cL_draw 50 = .ok (.imul, 1) := by decide +kernel
theorem dL_draw_51 : decode cL_draw 51 = .ok (.istore_n 2, 1) := by decide +kernel
theorem dL_draw_52 : decode cL_draw 52 = .ok (.iload_n 2, 1) := by decide +kernel
theorem dL_draw_53 : decode cL_draw 53 = .ok (.iload_n 2, 1) := by decide +kernel
theorem dL_draw_54 : decode cL_draw 54 = .ok (.bipush 13, 2) := by decide +kernel
theorem dL_draw_56 : decode cL_draw 56 = .ok (.iushr, 1) := by decide +kernel
theorem dL_draw_57 : decode cL_draw 57 = .ok (.ixor, 1) := by decide +kernel
theorem dL_draw_58 : decode cL_draw 58 = .ok (.istore_n 2, 1) := by decide +kernel
theorem dL_draw_59 : decode cL_draw 59 = .ok (.iload_n 2, 1) := by decide +kernel
theorem dL_draw_60 : decode cL_draw 60 = .ok (.ldc 41, 2) := by decide +kernel
theorem dL_draw_62 : decode cL_draw 62 = .ok (.iand, 1) := by decide +kernel
theorem dL_draw_63 : decode cL_draw 63 = .ok (.iload_n 1, 1) := by decide +kernel
theorem dL_draw_64 : decode cL_draw 64 = .ok (.irem, 1) := by decide +kernel
theorem dL_draw_65 : decode cL_draw 65 = .ok (.ireturn, 1) := by decide +kernel
theorem dL_addStation_0 : decode cL_addStation 0 = .ok (.aload_n 0, 1) := by decide +kernel
theorem dL_addStation_1 : decode cL_addStation 1 = .ok (.iload_n 1, 1) := by decide +kernel
theorem dL_addStation_2 : decode cL_addStation 2 = .ok (.iload_n 2, 1) := by decide +kernel
theorem dL_addStation_3 : decode cL_addStation 3 = .ok (.iload_n 3, 1) := by decide +kernel
theorem dL_addStation_4 : decode cL_addStation 4 = .ok (.invokevirtual 42, 3) := by decide +kernel
theorem dL_addStation_7 : decode cL_addStation 7 = .ok (.ireturn, 1) := by decide +kernel
theorem dL_addStation_8 : decode cL_addStation 8 = .ok (.astore 4, 2) := by decide +kernel
theorem dL_addStation_10 : decode cL_addStation 10 = .ok (.bipush (-102), 2) := by decide +kernel
theorem dL_addStation_12 : decode cL_addStation 12 = .ok (.ireturn, 1) := by decide +kernel
theorem dL_addStation_13 : decode cL_addStation 13 = .ok (.astore 4, 2) := by decide +kernel
theorem dL_addStation_15 : decode cL_addStation 15 = .ok (.bipush (-103), 2) := by decide +kernel
theorem dL_addStation_17 : decode cL_addStation 17 = .ok (.ireturn, 1) := by decide +kernel
theorem dL_addLink_0 : decode cL_addLink 0 = .ok (.aload_n 0, 1) := by decide +kernel
theorem dL_addLink_1 : decode cL_addLink 1 = .ok (.iload_n 1, 1) := by decide +kernel
theorem dL_addLink_2 : decode cL_addLink 2 = .ok (.iload_n 2, 1) := by decide +kernel
theorem dL_addLink_3 : decode cL_addLink 3 = .ok (.iload_n 3, 1) := by decide +kernel
theorem dL_addLink_4 : decode cL_addLink 4 = .ok (.iload 4, 2) := by decide +kernel
theorem dL_addLink_6 : decode cL_addLink 6 = .ok (.iload 5, 2) := by decide +kernel
theorem dL_addLink_8 : decode cL_addLink 8 = .ok (.invokevirtual 50, 3) := by decide +kernel
theorem dL_addLink_11 : decode cL_addLink 11 = .ok (.ireturn, 1) := by decide +kernel
theorem dL_addLink_12 : decode cL_addLink 12 = .ok (.astore 6, 2) := by decide +kernel
theorem dL_addLink_14 : decode cL_addLink 14 = .ok (.bipush (-101), 2) := by decide +kernel
theorem dL_addLink_16 : decode cL_addLink 16 = .ok (.ireturn, 1) := by decide +kernel
theorem dL_addLink_17 : decode cL_addLink 17 = .ok (.astore 6, 2) := by decide +kernel
theorem dL_addLink_19 : decode cL_addLink 19 = .ok (.bipush (-102), 2) := by decide +kernel
theorem dL_addLink_21 : decode cL_addLink 21 = .ok (.ireturn, 1) := by decide +kernel
theorem dL_addLink_22 : decode cL_addLink 22 = .ok (.astore 6, 2) := by decide +kernel
theorem dL_addLink_24 : decode cL_addLink 24 = .ok (.bipush (-103), 2) := by decide +kernel
theorem dL_addLink_26 : decode cL_addLink 26 = .ok (.ireturn, 1) := by decide +kernel
theorem dL_setRules_0 : decode cL_setRules 0 = .ok (.aload_n 0, 1) := by decide +kernel
theorem dL_setRules_1 : decode cL_setRules 1 = .ok (.iload_n 1, 1) := by decide +kernel
theorem dL_setRules_2 : decode cL_setRules 2 = .ok (.iload_n 2, 1) := by decide +kernel
theorem dL_setRules_3 : decode cL_setRules 3 = .ok (.iload_n 3, 1) := by decide +kernel
theorem dL_setRules_4 : decode cL_setRules 4 = .ok (.invokevirtual 62, 3) := by decide +kernel
theorem dL_setRules_7 : decode cL_setRules 7 = .ok (.iconst 0, 1) := by decide +kernel
theorem dL_setRules_8 : decode cL_setRules 8 = .ok (.ireturn, 1) := by decide +kernel
theorem dL_setRules_9 : decode cL_setRules 9 = .ok (.astore 4, 2) := by decide +kernel
theorem dL_setRules_11 : decode cL_setRules 11 = .ok (.bipush (-102), 2) := by decide +kernel
theorem dL_setRules_13 : decode cL_setRules 13 = .ok (.ireturn, 1) := by decide +kernel
theorem dL_station_0 : decode cL_station 0 = .ok (.aload_n 0, 1) := by decide +kernel
theorem dL_station_1 : decode cL_station 1 = .ok (.iload_n 1, 1) := by decide +kernel
theorem dL_station_2 : decode cL_station 2 = .ok (.iload_n 2, 1) := by decide +kernel
theorem dL_station_3 : decode cL_station 3 = .ok (.invokevirtual 66, 3) := by decide +kernel
theorem dL_station_6 : decode cL_station 6 = .ok (.ireturn, 1) := by decide +kernel
theorem dL_station_7 : decode cL_station 7 = .ok (.astore_n 3, 1) := by decide +kernel
theorem dL_station_8 : decode cL_station 8 = .ok (.bipush (-101), 2) := by decide +kernel
theorem dL_station_10 : decode cL_station 10 = .ok (.ireturn, 1) := by decide +kernel
theorem dL_station_11 : decode cL_station 11 = .ok (.astore_n 3, 1) := by decide +kernel
theorem dL_station_12 : decode cL_station 12 = .ok (.bipush (-102), 2) := by decide +kernel
theorem dL_station_14 : decode cL_station 14 = .ok (.ireturn, 1) := by decide +kernel
theorem dL_link_0 : decode cL_link 0 = .ok (.aload_n 0, 1) := by decide +kernel
theorem dL_link_1 : decode cL_link 1 = .ok (.iload_n 1, 1) := by decide +kernel
theorem dL_link_2 : decode cL_link 2 = .ok (.iload_n 2, 1) := by decide +kernel
theorem dL_link_3 : decode cL_link 3 = .ok (.invokevirtual 69, 3) := by decide +kernel
theorem dL_link_6 : decode cL_link 6 = .ok (.ireturn, 1) := by decide +kernel
theorem dL_link_7 : decode cL_link 7 = .ok (.astore_n 3, 1) := by decide +kernel
theorem dL_link_8 : decode cL_link 8 = .ok (.bipush (-101), 2) := by decide +kernel
theorem dL_link_10 : decode cL_link 10 = .ok (.ireturn, 1) := by decide +kernel
theorem dL_link_11 : decode cL_link 11 = .ok (.astore_n 3, 1) := by decide +kernel
theorem dL_link_12 : decode cL_link 12 = .ok (.bipush (-102), 2) := by decide +kernel
theorem dL_link_14 : decode cL_link 14 = .ok (.ireturn, 1) := by decide +kernel
theorem dL_count_0 : decode cL_count 0 = .ok (.aload_n 0, 1) := by decide +kernel
theorem dL_count_1 : decode cL_count 1 = .ok (.iload_n 1, 1) := by decide +kernel
theorem dL_count_2 : decode cL_count 2 = .ok (.invokevirtual 72, 3) := by decide +kernel
theorem dL_count_5 : decode cL_count 5 = .ok (.ireturn, 1) := by decide +kernel
theorem dL_count_6 : decode cL_count 6 = .ok (.astore_n 2, 1) := by decide +kernel
theorem dL_count_7 : decode cL_count 7 = .ok (.bipush (-102), 2) := by decide +kernel
theorem dL_count_9 : decode cL_count 9 = .ok (.ireturn, 1) := by decide +kernel
theorem dL_way_0 : decode cL_way 0 = .ok (.aload_n 0, 1) := by decide +kernel
theorem dL_way_1 : decode cL_way 1 = .ok (.iload_n 1, 1) := by decide +kernel
theorem dL_way_2 : decode cL_way 2 = .ok (.iload_n 2, 1) := by decide +kernel
theorem dL_way_3 : decode cL_way 3 = .ok (.iload_n 3, 1) := by decide +kernel
theorem dL_way_4 : decode cL_way 4 = .ok (.iload 4, 2) := by decide +kernel
theorem dL_way_6 : decode cL_way 6 = .ok (.invokevirtual 76, 3) := by decide +kernel
theorem dL_way_9 : decode cL_way 9 = .ok (.ireturn, 1) := by decide +kernel
theorem dL_way_10 : decode cL_way 10 = .ok (.astore 5, 2) := by decide +kernel
theorem dL_way_12 : decode cL_way 12 = .ok (.bipush (-101), 2) := by decide +kernel
theorem dL_way_14 : decode cL_way 14 = .ok (.ireturn, 1) := by decide +kernel
theorem dL_way_15 : decode cL_way 15 = .ok (.astore 5, 2) := by decide +kernel
theorem dL_way_17 : decode cL_way 17 = .ok (.bipush (-102), 2) := by decide +kernel
theorem dL_way_19 : decode cL_way 19 = .ok (.ireturn, 1) := by decide +kernel
theorem dL_send_0 : decode cL_send 0 = .ok (.aload_n 0, 1) := by decide +kernel
theorem dL_send_1 : decode cL_send 1 = .ok (.iload_n 1, 1) := by decide +kernel
theorem dL_send_2 : decode cL_send 2 = .ok (.iload_n 2, 1) := by decide +kernel
theorem dL_send_3 : decode cL_send 3 = .ok (.iload_n 3, 1) := by decide +kernel
theorem dL_send_4 : decode cL_send 4 = .ok (.invokevirtual 80, 3) := by decide +kernel
theorem dL_send_7 : decode cL_send 7 = .ok (.ireturn, 1) := by decide +kernel
theorem dL_send_8 : decode cL_send 8 = .ok (.astore 4, 2) := by decide +kernel
theorem dL_send_10 : decode cL_send 10 = .ok (.bipush (-101), 2) := by decide +kernel
theorem dL_send_12 : decode cL_send 12 = .ok (.ireturn, 1) := by decide +kernel
theorem dL_send_13 : decode cL_send 13 = .ok (.astore 4, 2) := by decide +kernel
theorem dL_send_15 : decode cL_send 15 = .ok (.bipush (-102), 2) := by decide +kernel
theorem dL_send_17 : decode cL_send 17 = .ok (.ireturn, 1) := by decide +kernel
theorem dL_send_18 : decode cL_send 18 = .ok (.astore 4, 2) := by decide +kernel
theorem dL_send_20 : decode cL_send 20 = .ok (.bipush (-103), 2) := by decide +kernel
theorem dL_send_22 : decode cL_send 22 = .ok (.ireturn, 1) := by decide +kernel
theorem dL_takeBack_0 : decode cL_takeBack 0 = .ok (.aload_n 0, 1) := by decide +kernel
theorem dL_takeBack_1 : decode cL_takeBack 1 = .ok (.iload_n 1, 1) := by decide +kernel
theorem dL_takeBack_2 : decode cL_takeBack 2 = .ok (.invokevirtual 86, 3) := by decide +kernel
theorem dL_takeBack_5 : decode cL_takeBack 5 = .ok (.ireturn, 1) := by decide +kernel
theorem dL_takeBack_6 : decode cL_takeBack 6 = .ok (.astore_n 2, 1) := by decide +kernel
theorem dL_takeBack_7 : decode cL_takeBack 7 = .ok (.bipush (-101), 2) := by decide +kernel
theorem dL_takeBack_9 : decode cL_takeBack 9 = .ok (.ireturn, 1) := by decide +kernel
theorem dL_message_0 : decode cL_message 0 = .ok (.aload_n 0, 1) := by decide +kernel
theorem dL_message_1 : decode cL_message 1 = .ok (.iload_n 1, 1) := by decide +kernel
theorem dL_message_2 : decode cL_message 2 = .ok (.iload_n 2, 1) := by decide +kernel
theorem dL_message_3 : decode cL_message 3 = .ok (.invokevirtual 89, 3) := by decide +kernel
theorem dL_message_6 : decode cL_message 6 = .ok (.ireturn, 1) := by decide +kernel
theorem dL_message_7 : decode cL_message 7 = .ok (.astore_n 3, 1) := by decide +kernel
theorem dL_message_8 : decode cL_message 8 = .ok (.bipush (-101), 2) := by decide +kernel
theorem dL_message_10 : decode cL_message 10 = .ok (.ireturn, 1) := by decide +kernel
theorem dL_message_11 : decode cL_message 11 = .ok (.astore_n 3, 1) := by decide +kernel
theorem dL_message_12 : decode cL_message 12 = .ok (.bipush (-102), 2) := by decide +kernel
theorem dL_message_14 : decode cL_message 14 = .ok (.ireturn, 1) := by decide +kernel
theorem dL_copy_0 : decode cL_copy 0 = .ok (.aload_n 0, 1) := by decide +kernel
theorem dL_copy_1 : decode cL_copy 1 = .ok (.iload_n 1, 1) := by decide +kernel
theorem dL_copy_2 : decode cL_copy 2 = .ok (.iload_n 2, 1) := by decide +kernel
theorem dL_copy_3 : decode cL_copy 3 = .ok (.iload_n 3, 1) := by decide +kernel
theorem dL_copy_4 : decode cL_copy 4 = .ok (.invokevirtual 92, 3) := by decide +kernel
theorem dL_copy_7 : decode cL_copy 7 = .ok (.ireturn, 1) := by decide +kernel
theorem dL_copy_8 : decode cL_copy 8 = .ok (.astore 4, 2) := by decide +kernel
theorem dL_copy_10 : decode cL_copy 10 = .ok (.bipush (-101), 2) := by decide +kernel
theorem dL_copy_12 : decode cL_copy 12 = .ok (.ireturn, 1) := by decide +kernel
theorem dL_copy_13 : decode cL_copy 13 = .ok (.astore 4, 2) := by decide +kernel
theorem dL_copy_15 : decode cL_copy 15 = .ok (.bipush (-102), 2) := by decide +kernel
theorem dL_copy_17 : decode cL_copy 17 = .ok (.ireturn, 1) := by decide +kernel
theorem dL_path_0 : decode cL_path 0 = .ok (.aload_n 0, 1) := by decide +kernel
theorem dL_path_1 : decode cL_path 1 = .ok (.iload_n 1, 1) := by decide +kernel
theorem dL_path_2 : decode cL_path 2 = .ok (.iload_n 2, 1) := by decide +kernel
theorem dL_path_3 : decode cL_path 3 = .ok (.iload_n 3, 1) := by decide +kernel
theorem dL_path_4 : decode cL_path 4 = .ok (.invokevirtual 95, 3) := by decide +kernel
theorem dL_path_7 : decode cL_path 7 = .ok (.ireturn, 1) := by decide +kernel
theorem dL_path_8 : decode cL_path 8 = .ok (.astore 4, 2) := by decide +kernel
theorem dL_path_10 : decode cL_path 10 = .ok (.bipush (-101), 2) := by decide +kernel
theorem dL_path_12 : decode cL_path 12 = .ok (.ireturn, 1) := by decide +kernel
theorem dL_sends_0 : decode cL_sends 0 = .ok (.aload_n 0, 1) := by decide +kernel
theorem dL_sends_1 : decode cL_sends 1 = .ok (.iload_n 1, 1) := by decide +kernel
theorem dL_sends_2 : decode cL_sends 2 = .ok (.iload_n 2, 1) := by decide +kernel
theorem dL_sends_3 : decode cL_sends 3 = .ok (.invokevirtual 98, 3) := by decide +kernel
theorem dL_sends_6 : decode cL_sends 6 = .ok (.ireturn, 1) := by decide +kernel
theorem dL_sends_7 : decode cL_sends 7 = .ok (.astore_n 3, 1) := by decide +kernel
theorem dL_sends_8 : decode cL_sends 8 = .ok (.bipush (-101), 2) := by decide +kernel
theorem dL_sends_10 : decode cL_sends 10 = .ok (.ireturn, 1) := by decide +kernel
theorem dL_run_0 : decode cL_run 0 = .ok (.aload_n 0, 1) := by decide +kernel
theorem dL_run_1 : decode cL_run 1 = .ok (.iload_n 1, 1) := by decide +kernel
theorem dL_run_2 : decode cL_run 2 = .ok (.invokevirtual 101, 3) := by decide +kernel
theorem dL_run_5 : decode cL_run 5 = .ok (.ireturn, 1) := by decide +kernel
theorem dL_run_6 : decode cL_run 6 = .ok (.astore_n 2, 1) := by decide +kernel
theorem dL_run_7 : decode cL_run 7 = .ok (.bipush (-102), 2) := by decide +kernel
theorem dL_run_9 : decode cL_run 9 = .ok (.ireturn, 1) := by decide +kernel
theorem dL_stateAfter_0 : decode cL_stateAfter 0 = .ok (.aload_n 0, 1) := by decide +kernel
theorem dL_stateAfter_1 : decode cL_stateAfter 1 = .ok (.iload_n 1, 1) := by decide +kernel
theorem dL_stateAfter_2 : decode cL_stateAfter 2 = .ok (.iload_n 2, 1) := by decide +kernel
theorem dL_stateAfter_3 : decode cL_stateAfter 3 = .ok (.invokevirtual 104, 3) := by decide +kernel
theorem dL_stateAfter_6 : decode cL_stateAfter 6 = .ok (.ireturn, 1) := by decide +kernel
theorem dL_stateAfter_7 : decode cL_stateAfter 7 = .ok (.astore_n 3, 1) := by decide +kernel
theorem dL_stateAfter_8 : decode cL_stateAfter 8 = .ok (.bipush (-101), 2) := by decide +kernel
theorem dL_stateAfter_10 : decode cL_stateAfter 10 = .ok (.ireturn, 1) := by decide +kernel
theorem dL_stateAfter_11 : decode cL_stateAfter 11 = .ok (.astore_n 3, 1) := by decide +kernel
theorem dL_stateAfter_12 : decode cL_stateAfter 12 = .ok (.bipush (-102), 2) := by decide +kernel
theorem dL_stateAfter_14 : decode cL_stateAfter 14 = .ok (.ireturn, 1) := by decide +kernel
theorem dL_hoursTo_0 : decode cL_hoursTo 0 = .ok (.aload_n 0, 1) := by decide +kernel
theorem dL_hoursTo_1 : decode cL_hoursTo 1 = .ok (.iload_n 1, 1) := by decide +kernel
theorem dL_hoursTo_2 : decode cL_hoursTo 2 = .ok (.invokevirtual 107, 3) := by decide +kernel
theorem dL_hoursTo_5 : decode cL_hoursTo 5 = .ok (.ireturn, 1) := by decide +kernel
theorem dL_hoursTo_6 : decode cL_hoursTo 6 = .ok (.astore_n 2, 1) := by decide +kernel
theorem dL_hoursTo_7 : decode cL_hoursTo 7 = .ok (.bipush (-102), 2) := by decide +kernel

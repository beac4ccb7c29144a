theorem dX0_init_0 : decode cX0_init 0 = .ok (.aload_n 0, 1) := by decide +kernel
theorem dX0_init_1 : decode cX0_init 1 = .ok (.invokespecial 3, 3) := by decide +kernel
theorem dX0_init_4 : decode cX0_init 4 = .ok (.aload_n 0, 1) := by decide +kernel
theorem dX0_init_5 : decode cX0_init 5 = .ok (.new 9, 3) := by decide +kernel
theorem dX0_init_8 : decode cX0_init 8 = .ok (.dup, 1) := by decide +kernel
theorem dX0_init_9 : decode cX0_init 9 = .ok (.bipush 40, 2) := by decide +kernel
theorem dX0_init_11 : decode cX0_init 11 = .ok (.iconst 5, 1) := by decide +kernel
theorem dX0_init_12 : decode cX0_init 12 = .ok (.invokespecial 11, 3) := by decide +kernel
theorem dX0_init_15 : decode cX0_init 15 = .ok (.putfield 14, 3) := by decide +kernel
theorem dX0_init_18 : decode cX0_init 18 = .ok (.aload_n 0, 1) := by decide +kernel
theorem dX0_init_19 : decode cX0_init 19 = .ok (.iconst 0, 1) := by decide +kernel
theorem dX0_init_20 : decode cX0_init 20 = .ok (.putfield 20, 3) := by decide +kernel
theorem dX0_init_23 : decode cX0_init 23 = .ok (.aload_n 0, 1) := by decide +kernel
theorem dX0_init_24 : decode cX0_init 24 = .ok (.iconst 0, 1) := by decide +kernel
theorem dX0_init_25 : decode cX0_init 25 = .ok (.putfield 24, 3) := by decide +kernel
theorem dX0_init_28 : decode cX0_init 28 = .ok (.return_, 1) := by decide +kernel
theorem dX0_clear_0 : decode cX0_clear 0 = .ok (.aload_n 0, 1) := by decide +kernel
theorem dX0_clear_1 : decode cX0_clear 1 = .ok (.getfield 14, 3) := by decide +kernel
theorem dX0_clear_4 : decode cX0_clear 4 = .ok (.invokevirtual 27, 3) := by decide +kernel
theorem dX0_clear_7 : decode cX0_clear 7 = .ok (.aload_n 0, 1) := by decide +kernel
theorem dX0_clear_8 : decode cX0_clear 8 = .ok (.iconst 0, 1) := by decide +kernel
theorem dX0_clear_9 : decode cX0_clear 9 = .ok (.putfield 20, 3) := by decide +kernel
theorem dX0_clear_12 : decode cX0_clear 12 = .ok (.aload_n 0, 1) := by decide +kernel
theorem dX0_clear_13 : decode cX0_clear 13 = .ok (.iconst 0, 1) := by decide +kernel
theorem dX0_clear_14 : decode cX0_clear 14 = .ok (.putfield 24, 3) := by decide +kernel
theorem dX0_clear_17 : decode cX0_clear 17 = .ok (.return_, 1) := by decide +kernel
theorem dX0_takeFrom_0 : decode cX0_takeFrom 0 = .ok (.aload_n 0, 1) := by decide +kernel
theorem dX0_takeFrom_1 : decode cX0_takeFrom 1 = .ok (.getfield 14, 3) := by decide +kernel
theorem dX0_takeFrom_4 : decode cX0_takeFrom 4 = .ok (.aload_n 1, 1) := by decide +kernel
theorem dX0_takeFrom_5 : decode cX0_takeFrom 5 = .ok (.getfield 14, 3) := by decide +kernel
theorem dX0_takeFrom_8 : decode cX0_takeFrom 8 = .ok (.invokevirtual 30, 3) := by decide +kernel
theorem dX0_takeFrom_11 : decode cX0_takeFrom 11 = .ok (.aload_n 0, 1) := by decide +kernel
theorem dX0_takeFrom_12 : decode cX0_takeFrom 12 = .ok (.aload_n 1, 1) := by decide +kernel
theorem dX0_takeFrom_13 : decode cX0_takeFrom 13 = .ok (.getfield 20, 3) := by decide +kernel
theorem dX0_takeFrom_16 : decode cX0_takeFrom 16 = .ok (.putfield 20, 3) := by decide +kernel
theorem dX0_takeFrom_19 : decode cX0_takeFrom 19 = .ok (.aload_n 0, 1) := by decide +kernel
theorem dX0_takeFrom_20 : decode cX0_takeFrom 20 = .ok (.aload_n 1, 1) := by decide +kernel
theorem dX0_takeFrom_21 : decode cX0_takeFrom 21 = .ok (.getfield 24, 3) := by decide +kernel
theorem dX0_takeFrom_24 : decode cX0_takeFrom 24 = .ok (.putfield 24, 3) := by decide +kernel
theorem dX0_takeFrom_27 : decode cX0_takeFrom 27 = .ok (.return_, 1) := by decide +kernel
theorem dX0_size_0 : decode cX0_size 0 = .ok (.aload_n 0, 1) := by decide +kernel
theorem dX0_size_1 : decode cX0_size 1 = .ok (.getfield 24, 3) := by decide +kernel
theorem dX0_size_4 : decode cX0_size 4 = .ok (.ireturn, 1) := by decide +kernel
theorem dX0_number_0 : decode cX0_number 0 = .ok (.aload_n 0, 1) := by decide +kernel
theorem dX0_number_1 : decode cX0_number 1 = .ok (.getfield 14, 3) := by decide +kernel
theorem dX0_number_4 : decode cX0_number 4 = .ok (.aload_n 0, 1) := by decide +kernel
theorem dX0_number_5 : decode cX0_number 5 = .ok (.getfield 20, 3) := by decide +kernel
theorem dX0_number_8 : decode cX0_number 8 = .ok (.iload_n 1, 1) := by decide +kernel
theorem dX0_number_9 : decode cX0_number 9 = .ok (.iadd, 1) := by decide +kernel
theorem dX0_number_10 : decode cX0_number 10 = .ok (.bipush 40, 2) := by decide +kernel
theorem dX0_number_12 : decode cX0_number 12 = .ok (.irem, 1) := by decide +kernel
theorem dX0_number_13 : decode cX0_number 13 = .ok (.iload_n 2, 1) := by decide +kernel
theorem dX0_number_14 : decode cX0_number 14 = .ok (.invokevirtual 34, 3) := by decide +kernel
theorem dX0_number_17 : decode cX0_number 17 = .ok (.ireturn, 1) := by decide +kernel
theorem dX0_add_0 : decode cX0_add 0 = .ok (.aload_n 0, 1) := by decide +kernel
theorem dX0_add_1 : decode cX0_add 1 = .ok (.getfield 20, 3) := by decide +kernel
theorem dX0_add_4 : decode cX0_add 4 = .ok (.aload_n 0, 1) := by decide +kernel
theorem dX0_add_5 : decode cX0_add 5 = .ok (.getfield 24, 3) := by decide +kernel
theorem dX0_add_8 : decode cX0_add 8 = .ok (.iadd, 1) := by decide +kernel
theorem dX0_add_9 : decode cX0_add 9 = .ok (.bipush 40, 2) := by decide +kernel
theorem dX0_add_11 : decode cX0_add 11 = .ok (.irem, 1) := by decide +kernel
theorem dX0_add_12 : decode cX0_add 12 = .ok (.istore 6, 2) := by decide +kernel
theorem dX0_add_14 : decode cX0_add 14 = .ok (.aload_n 0, 1) := by decide +kernel
theorem dX0_add_15 : decode cX0_add 15 = .ok (.getfield 24, 3) := by decide +kernel
theorem dX0_add_18 : decode cX0_add 18 = .ok (.bipush 40, 2) := by decide +kernel
theorem dX0_add_20 : decode cX0_add 20 = .ok (.if_icmp .ge 16, 3) := by decide +kernel
theorem dX0_add_23 : decode cX0_add 23 = .ok (.aload_n 0, 1) := by decide +kernel
theorem dX0_add_24 : decode cX0_add 24 = .ok (.dup, 1) := by decide +kernel
theorem dX0_add_25 : decode cX0_add 25 = .ok (.getfield 24, 3) := by decide +kernel
theorem dX0_add_28 : decode cX0_add 28 = .ok (.iconst 1, 1) := by decide +kernel
theorem dX0_add_29 : decode cX0_add 29 = .ok (.iadd, 1) := by decide +kernel
theorem dX0_add_30 : decode cX0_add 30 = .ok (.putfield 24, 3) := by decide +kernel
theorem dX0_add_33 : decode cX0_add 33 = .ok (.goto 16, 3) := by decide +kernel
theorem dX0_add_36 : decode cX0_add 36 = .ok (.aload_n 0, 1) := by decide +kernel
theorem dX0_add_37 : decode cX0_add 37 = .ok (.aload_n 0, 1) := by decide +kernel
theorem dX0_add_38 : decode cX0_add 38 = .ok (.getfield 20, 3) := by decide +kernel
theorem dX0_add_41 : decode cX0_add 41 = .ok (.iconst 1, 1) := by decide +kernel
theorem dX0_add_42 : decode cX0_add 42 = .ok (.iadd, 1) := by decide +kernel
theorem dX0_add_43 : decode cX0_add 43 = .ok (.bipush 40, 2) := by decide +kernel
theorem dX0_add_45 : decode cX0_add 45 = .ok (.irem, 1) := by decide +kernel
theorem dX0_add_46 : decode cX0_add 46 = .ok (.putfield 20, 3) := by decide +kernel
theorem dX0_add_49 : decode cX0_add 49 = .ok (.aload_n 0, 1) := by decide +kernel
theorem dX0_add_50 : decode cX0_add 50 = .ok (.getfield 14, 3) := by decide +kernel
theorem dX0_add_53 : decode cX0_add 53 = .ok (.iload 6, 2) := by decide +kernel
theorem dX0_add_55 : decode cX0_add 55 = .ok (.iconst 0, 1) := by decide +kernel
theorem dX0_add_56 : decode cX0_add 56 = .ok (.iload_n 1, 1) := by decide +kernel
theorem dX0_add_57 : decode cX0_add 57 = .ok (.invokevirtual 38, 3) := by decide +kernel
theorem dX0_add_60 : decode cX0_add 60 = .ok (.aload_n 0, 1) := by decide +kernel
theorem dX0_add_61 : decode cX0_add 61 = .ok (.getfield 14, 3) := by decide +kernel
theorem dX0_add_64 : decode cX0_add 64 = .ok (.iload 6, 2) := by decide +kernel
theorem dX0_add_66 : decode cX0_add 66 = .ok (.iconst 1, 1) := by decide +kernel
theorem dX0_add_67 : decode cX0_add 67 = .ok (.iload_n 2, 1) := by decide +kernel
theorem dX0_add_68 : decode cX0_add 68 = .ok (.invokevirtual 38, 3) := by decide +kernel
theorem dX0_add_71 : decode cX0_add 71 = .ok (.aload_n 0, 1) := by decide +kernel
theorem dX0_add_72 : decode cX0_add 72 = .ok (.getfield 14, 3) := by decide +kernel
theorem dX0_add_75 : decode cX0_add 75 = .ok (.iload 6, 2) := by decide +kernel
theorem dX0_add_77 : decode cX0_add 77 = .ok (.iconst 2, 1) := by decide +kernel
theorem dX0_add_78 : decode cX0_add 78 = .ok (.iload_n 3, 1) := by decide +kernel
theorem dX0_add_79 : decode cX0_add 79 = .ok (.invokevirtual 38, 3) := by decide +kernel
theorem dX0_add_82 : decode cX0_add 82 = .ok (.aload_n 0, 1) := by decide +kernel
theorem dX0_add_83 : decode cX0_add 83 = .ok (.getfield 14, 3) := by decide +kernel
theorem dX0_add_86 : decode cX0_add 86 = .ok (.iload 6, 2) := by decide +kernel
theorem dX0_add_88 : decode cX0_add 88 = .ok (.iconst 3, 1) := by decide +kernel
theorem dX0_add_89 : decode cX0_add 89 = .ok (.iload 4, 2) := by decide +kernel
theorem dX0_add_91 : decode cX0_add 91 = .ok (.invokevirtual 38, 3) := by decide +kernel
theorem dX0_add_94 : decode cX0_add 94 = .ok (.aload_n 0, 1) := by decide +kernel
theorem dX0_add_95 : decode cX0_add 95 = .ok (.getfield 14, 3) := by decide +kernel
theorem dX0_add_98 : decode cX0_add 98 = .ok (.iload 6, 2) := by decide +kernel
theorem dX0_add_100 : decode cX0_add 100 = .ok (.iconst 4, 1) := by decide +kernel
theorem dX0_add_101 : decode cX0_add 101 = .ok (.iload 5, 2) := by decide +kernel
theorem dX0_add_103 : decode cX0_add 103 = .ok (.invokevirtual 38, 3) := by decide +kernel
theorem dX0_add_106 : decode cX0_add 106 = .ok (.return_, 1) := by decide +kernel
theorem dX0_wordOf_0 : decode cX0_wordOf 0 = .ok (.iload_n 0, 1) := by decide +kernel
theorem dX0_wordOf_1 : decode cX0_wordOf 1 = .ok (.tableswitch 78 0 8 #[51, 54, 57, 60, 63, 66, 69, 72, 75], 51) := by decide +kernel
theorem dX0_wordOf_52 : decode cX0_wordOf 52 = .ok (.ldc 42, 2) := by decide +kernel
theorem dX0_wordOf_54 : decode cX0_wordOf 54 = .ok (.areturn, 1) := by decide +kernel
theorem dX0_wordOf_55 : decode cX0_wordOf 55 = .ok (.ldc 44, 2) := by decide +kernel
theorem dX0_wordOf_57 : decode cX0_wordOf 57 = .ok (.areturn, 1) := by decide +kernel
theorem dX0_wordOf_58 : decode cX0_wordOf 58 = .ok (.ldc 46, 2) := by decide +kernel
theorem dX0_wordOf_60 : decode cX0_wordOf 60 = .ok (.areturn, 1) := by decide +kernel
theorem dX0_wordOf_61 : decode cX0_wordOf 61 = .ok (.ldc 48, 2) := by decide +kernel
theorem dX0_wordOf_63 : decode cX0_wordOf 63 = .ok (.areturn, 1) := by decide +kernel
theorem dX0_wordOf_64 : decode cX0_wordOf 64 = .ok (.ldc 50, 2) := by decide +kernel
theorem dX0_wordOf_66 : decode cX0_wordOf 66 = .ok (.areturn, 1) := by decide +kernel
theorem dX0_wordOf_67 : decode cX0_wordOf 67 = .ok (.ldc 52, 2) := by decide +kernel
theorem dX0_wordOf_69 : decode cX0_wordOf 69 = .ok (.areturn, 1) := by decide +kernel
theorem dX0_wordOf_70 : decode cX0_wordOf 70 = .ok (.ldc 54, 2) := by decide +kernel
theorem dX0_wordOf_72 : decode cX0_wordOf 72 = .ok (.areturn, 1) := by decide +kernel
theorem dX0_wordOf_73 : decode cX0_wordOf 73 = .ok (.ldc 56, 2) := by decide +kernel
theorem dX0_wordOf_75 : decode cX0_wordOf 75 = .ok (.areturn, 1) := by decide +kernel
theorem dX0_wordOf_76 : decode cX0_wordOf 76 = .ok (.ldc 58, 2) := by decide +kernel
theorem dX0_wordOf_78 : decode cX0_wordOf 78 = .ok (.areturn, 1) := by decide +kernel
theorem dX0_wordOf_79 : decode cX0_wordOf 79 = .ok (.ldc 60, 2) := by decide +kernel
theorem dX0_wordOf_81 : decode cX0_wordOf 81 = .ok (.areturn, 1) := by decide +kernel
theorem dX1_init_0 : decode cX1_init 0 = .ok (.aload_n 0, 1) := by decide +kernel
theorem dX1_init_1 : decode cX1_init 1 = .ok (.invokespecial 3, 3) := by decide +kernel
theorem dX1_init_4 : decode cX1_init 4 = .ok (.aload_n 0, 1) := by decide +kernel
theorem dX1_init_5 : decode cX1_init 5 = .ok (.bipush 64, 2) := by decide +kernel
theorem dX1_init_7 : decode cX1_init 7 = .ok (.newarray .byte, 2) := by decide +kernel
theorem dX1_init_9 : decode cX1_init 9 = .ok (.putfield 9, 3) := by decide +kernel
theorem dX1_init_12 : decode cX1_init 12 = .ok (.aload_n 0, 1) := by decide +kernel
theorem dX1_init_13 : decode cX1_init 13 = .ok (.iconst 0, 1) := by decide +kernel
theorem dX1_init_14 : decode cX1_init 14 = .ok (.putfield 15, 3) := by decide +kernel
theorem dX1_init_17 : decode cX1_init 17 = .ok (.return_, 1) := by decide +kernel
theorem dX1_clear_0 : decode cX1_clear 0 = .ok (.aload_n 0, 1) := by decide +kernel
theorem dX1_clear_1 : decode cX1_clear 1 = .ok (.iconst 0, 1) := by decide +kernel
theorem dX1_clear_2 : decode cX1_clear 2 = .ok (.putfield 15, 3) := by decide +kernel
theorem dX1_clear_5 : decode cX1_clear 5 = .ok (.return_, 1) := by decide +kernel
theorem dX1_length_0 : decode cX1_length 0 = .ok (.aload_n 0, 1) := by decide +kernel
theorem dX1_length_1 : decode cX1_length 1 = .ok (.getfield 15, 3) := by decide +kernel
theorem dX1_length_4 : decode cX1_length 4 = .ok (.ireturn, 1) := by decide +kernel
theorem dX1_byteAt_0 : decode cX1_byteAt 0 = .ok (.iload_n 1, 1) := by decide +kernel
theorem dX1_byteAt_1 : decode cX1_byteAt 1 = .ok (.ifCond .lt 29, 3) := by decide +kernel
theorem dX1_byteAt_4 : decode cX1_byteAt 4 = .ok (.iload_n 1, 1) := by decide +kernel
theorem dX1_byteAt_5 : decode cX1_byteAt 5 = .ok (.aload_n 0, 1) := by decide +kernel
theorem dX1_byteAt_6 : decode cX1_byteAt 6 = .ok (.getfield 15, 3) := by decide +kernel
theorem dX1_byteAt_9 : decode cX1_byteAt 9 = .ok (.if_icmp .ge 21, 3) := by decide +kernel
theorem dX1_byteAt_12 : decode cX1_byteAt 12 = .ok (.iload_n 1, 1) := by decide +kernel
theorem dX1_byteAt_13 : decode cX1_byteAt 13 = .ok (.aload_n 0, 1) := by decide +kernel
theorem dX1_byteAt_14 : decode cX1_byteAt 14 = .ok (.getfield 9, 3) := by decide +kernel
theorem dX1_byteAt_17 : decode cX1_byteAt 17 = .ok (.arraylength, 1) := by decide +kernel
theorem dX1_byteAt_18 : decode cX1_byteAt 18 = .ok (.if_icmp .ge 12, 3) := by decide +kernel
theorem dX1_byteAt_21 : decode cX1_byteAt 21 = .ok (.aload_n 0, 1) := by decide +kernel
theorem dX1_byteAt_22 : decode cX1_byteAt 22 = .ok (.getfield 9, 3) := by decide +kernel
theorem dX1_byteAt_25 : decode cX1_byteAt 25 = .ok (.iload_n 1, 1) := by decide +kernel
theorem dX1_byteAt_26 : decode cX1_byteAt 26 = .ok (.baload, 1) := by decide +kernel
theorem dX1_byteAt_27 : decode cX1_byteAt 27 = .ok (.goto 4, 3) := by decide +kernel
theorem dX1_byteAt_30 : decode cX1_byteAt 30 = .ok (.iconst (-1), 1) := by decide +kernel
theorem dX1_byteAt_31 : decode cX1_byteAt 31 = .ok (.ireturn, 1) := by decide +kernel
theorem dX1_putWord_0 : decode cX1_putWord 0 = .ok (.iconst 0, 1) := by decide +kernel
theorem dX1_putWord_1 : decode cX1_putWord 1 = .ok (.istore_n 2, 1) := by decide +kernel
theorem dX1_putWord_2 : decode cX1_putWord 2 = .ok (.iload_n 2, 1) := by decide +kernel
theorem dX1_putWord_3 : decode cX1_putWord 3 = .ok (.aload_n 1, 1) := by decide +kernel
theorem dX1_putWord_4 : decode cX1_putWord 4 = .ok (.invokevirtual 19, 3) := by decide +kernel
theorem dX1_putWord_7 : decode cX1_putWord 7 = .ok (.if_icmp .ge 18, 3) := by decide +kernel
theorem dX1_putWord_10 : decode cX1_putWord 10 = .ok (.aload_n 0, 1) := by decide +kernel
theorem dX1_putWord_11 : decode cX1_putWord 11 = .ok (.aload_n 1, 1) := by decide +kernel
theorem dX1_putWord_12 : decode cX1_putWord 12 = .ok (.iload_n 2, 1) := by decide +kernel
theorem dX1_putWord_13 : decode cX1_putWord 13 = .ok (.invokevirtual 24, 3) := by decide +kernel
theorem dX1_putWord_16 : decode cX1_putWord 16 = .ok (.invokevirtual 28, 3) := by decide +kernel
theorem dX1_putWord_19 : decode cX1_putWord 19 = .ok (.iinc 2 1, 3) := by decide +kernel
theorem dX1_putWord_22 : decode cX1_putWord 22 = .ok (.goto (-20), 3) := by decide +kernel
theorem dX1_putWord_25 : decode cX1_putWord 25 = .ok (.return_, 1) := by decide +kernel
theorem dX1_putNumber_0 : decode cX1_putNumber 0 = .ok (.ldc 32, 2) := by decide +kernel
theorem dX1_putNumber_2 : decode cX1_putNumber 2 = .ok (.istore_n 2, 1) := by decide +kernel
theorem dX1_putNumber_3 : decode cX1_putNumber 3 = .ok (.iload_n 2, 1) := by decide +kernel
theorem dX1_putNumber_4 : decode cX1_putNumber 4 = .ok (.ifCond .le 34, 3) := by decide +kernel
theorem dX1_putNumber_7 : decode cX1_putNumber 7 = .ok (.iload_n 2, 1) := by decide +kernel
theorem dX1_putNumber_8 : decode cX1_putNumber 8 = .ok (.iload_n 1, 1) := by decide +kernel
theorem dX1_putNumber_9 : decode cX1_putNumber 9 = .ok (.if_icmp .le 8, 3) := by decide +kernel
theorem dX1_putNumber_12 : decode cX1_putNumber 12 = .ok (.iload_n 2, 1) := by decide +kernel
theorem dX1_putNumber_13 : decode cX1_putNumber 13 = .ok (.iconst 1, 1) := by decide +kernel
theorem dX1_putNumber_14 : decode cX1_putNumber 14 = .ok (.if_icmp .ne 16, 3) := by decide +kernel
theorem dX1_putNumber_17 : decode cX1_putNumber 17 = .ok (.aload_n 0, 1) := by decide +kernel
theorem dX1_putNumber_18 : decode cX1_putNumber 18 = .ok (.bipush 48, 2) := by decide +kernel
theorem dX1_putNumber_20 : decode cX1_putNumber 20 = .ok (.iload_n 1, 1) := by decide +kernel
theorem dX1_putNumber_21 : decode cX1_putNumber 21 = .ok (.iload_n 2, 1) := by decide +kernel
theorem dX1_putNumber_22 : decode cX1_putNumber 22 = .ok (.idiv, 1) := by decide +kernel
theorem dX1_putNumber_23 : decode cX1_putNumber 23 = .ok (.bipush 10, 2) := by decide +kernel
theorem dX1_putNumber_25 : decode cX1_putNumber 25 = .ok (.irem, 1) := by decide +kernel
theorem dX1_putNumber_26 : decode cX1_putNumber 26 = .ok (.iadd, 1) := by decide +kernel
theorem dX1_putNumber_27 : decode cX1_putNumber 27 = .ok (.invokevirtual 28, 3) := by decide +kernel
theorem dX1_putNumber_30 : decode cX1_putNumber 30 = .ok (.iload_n 2, 1) := by decide +kernel
theorem dX1_putNumber_31 : decode cX1_putNumber 31 = .ok (.bipush 10, 2) := by decide +kernel
theorem dX1_putNumber_33 : decode cX1_putNumber 33 = .ok (.idiv, 1) := by decide +kernel
theorem dX1_putNumber_34 : decode cX1_putNumber 34 = .ok (.istore_n 2, 1) := by decide +kernel
theorem dX1_putNumber_35 : decode cX1_putNumber 35 = .ok (.goto (-32), 3) := by decide +kernel
theorem dX1_putNumber_38 : decode cX1_putNumber 38 = .ok (.return_, 1) := by decide +kernel
theorem dX1_put_0 : decode cX1_put 0 = .ok (.aload_n 0, 1) := by decide +kernel
theorem dX1_put_1 : decode cX1_put 1 = .ok (.getfield 15, 3) := by decide +kernel
theorem dX1_put_4 : decode cX1_put 4 = .ok (.ifCond .lt 36, 3) := by decide +kernel
theorem dX1_put_7 : decode cX1_put 7 = .ok (.aload_n 0, 1) := by decide +kernel
theorem dX1_put_8 : decode cX1_put 8 = .ok (.getfield 15, 3) := by decide +kernel
theorem dX1_put_11 : decode cX1_put 11 = .ok (.aload_n 0, 1) := by decide +kernel
theorem dX1_put_12 : decode cX1_put 12 = .ok (.getfield 9, 3) := by decide +kernel
theorem dX1_put_15 : decode cX1_put 15 = .ok (.arraylength, 1) := by decide +kernel
theorem dX1_put_16 : decode cX1_put 16 = .ok (.if_icmp .ge 24, 3) := by decide +kernel
theorem dX1_put_19 : decode cX1_put 19 = .ok (.aload_n 0, 1) := by decide +kernel
theorem dX1_put_20 : decode cX1_put 20 = .ok (.getfield 9, 3) := by decide +kernel
theorem dX1_put_23 : decode cX1_put 23 = .ok (.aload_n 0, 1) := by decide +kernel
theorem dX1_put_24 : decode cX1_put 24 = .ok (.getfield 15, 3) := by decide +kernel
theorem dX1_put_27 : decode cX1_put 27 = .ok (.iload_n 1, 1) := by decide +kernel
theorem dX1_put_28 : decode cX1_put 28 = .ok (.i2b, 1) := by decide +kernel
theorem dX1_put_29 : decode cX1_put 29 = .ok (.bastore, 1) := by decide +kernel
theorem dX1_put_30 : decode cX1_put 30 = .ok (.aload_n 0, 1) := by decide +kernel
theorem dX1_put_31 : decode cX1_put 31 = .ok (.dup, 1) := by decide +kernel
theorem dX1_put_32 : decode cX1_put 32 = .ok (.getfield 15, 3) := by decide +kernel
theorem dX1_put_35 : decode cX1_put 35 = .ok (.iconst 1, 1) := by decide +kernel
theorem dX1_put_36 : decode cX1_put 36 = .ok (.iadd, 1) := by decide +kernel
theorem dX1_put_37 : decode cX1_put 37 = .ok (.putfield 15, 3) := by decide +kernel
theorem dX1_put_40 : decode cX1_put 40 = .ok (.return_, 1) := by decide +kernel
theorem dX2_init_0 : decode cX2_init 0 = .ok (.aload_n 0, 1) := by decide +kernel
theorem dX2_init_1 : decode cX2_init 1 = .ok (.invokespecial 3, 3) := by decide +kernel
theorem dX2_init_4 : decode cX2_init 4 = .ok (.aload_n 0, 1) := by decide +kernel
theorem dX2_init_5 : decode cX2_init 5 = .ok (.new 9, 3) := by decide +kernel
theorem dX2_init_8 : decode cX2_init 8 = .ok (.dup, 1) := by decide +kernel
theorem dX2_init_9 : decode cX2_init 9 = .ok (.bipush 8, 2) := by decide +kernel
theorem dX2_init_11 : decode cX2_init 11 = .ok (.bipush 10, 2) := by decide +kernel
theorem dX2_init_13 : decode cX2_init 13 = .ok (.invokespecial 11, 3) := by decide +kernel
theorem dX2_init_16 : decode cX2_init 16 = .ok (.putfield 14, 3) := by decide +kernel
theorem dX2_init_19 : decode cX2_init 19 = .ok (.aload_n 0, 1) := by decide +kernel
theorem dX2_init_20 : decode cX2_init 20 = .ok (.new 9, 3) := by decide +kernel
theorem dX2_init_23 : decode cX2_init 23 = .ok (.dup, 1) := by decide +kernel
theorem dX2_init_24 : decode cX2_init 24 = .ok (.bipush 16, 2) := by decide +kernel
theorem dX2_init_26 : decode cX2_init 26 = .ok (.bipush 9, 2) := by decide +kernel
theorem dX2_init_28 : decode cX2_init 28 = .ok (.invokespecial 11, 3) := by decide +kernel
theorem dX2_init_31 : decode cX2_init 31 = .ok (.putfield 20, 3) := by decide +kernel
theorem dX2_init_34 : decode cX2_init 34 = .ok (.aload_n 0, 1) := by decide +kernel
theorem dX2_init_35 : decode cX2_init 35 = .ok (.new 9, 3) := by decide +kernel
theorem dX2_init_38 : decode cX2_init 38 = .ok (.dup, 1) := by decide +kernel
theorem dX2_init_39 : decode cX2_init 39 = .ok (.bipush 24, 2) := by decide +kernel
theorem dX2_init_41 : decode cX2_init 41 = .ok (.bipush 12, 2) := by decide +kernel
theorem dX2_init_43 : decode cX2_init 43 = .ok (.invokespecial 11, 3) := by decide +kernel
theorem dX2_init_46 : decode cX2_init 46 = .ok (.putfield 23, 3) := by decide +kernel
theorem dX2_init_49 : decode cX2_init 49 = .ok (.aload_n 0, 1) := by decide +kernel
theorem dX2_init_50 : decode cX2_init 50 = .ok (.new 9, 3) := by decide +kernel
theorem dX2_init_53 : decode cX2_init 53 = .ok (.dup, 1) := by decide +kernel
theorem dX2_init_54 : decode cX2_init 54 = .ok (.sipush 192, 3) := by decide +kernel
theorem dX2_init_57 : decode cX2_init 57 = .ok (.iconst 5, 1) := by decide +kernel
theorem dX2_init_58 : decode cX2_init 58 = .ok (.invokespecial 11, 3) := by decide +kernel
theorem dX2_init_61 : decode cX2_init 61 = .ok (.putfield 26, 3) := by decide +kernel
theorem dX2_init_64 : decode cX2_init 64 = .ok (.aload_n 0, 1) := by decide +kernel
theorem dX2_init_65 : decode cX2_init 65 = .ok (.new 29, 3) := by decide +kernel
theorem dX2_init_68 : decode cX2_init 68 = .ok (.dup, 1) := by decide +kernel
theorem dX2_init_69 : decode cX2_init 69 = .ok (.invokespecial 31, 3) := by decide +kernel
theorem dX2_init_72 : decode cX2_init 72 = .ok (.putfield 32, 3) := by decide +kernel
theorem dX2_init_75 : decode cX2_init 75 = .ok (.aload_n 0, 1) := by decide +kernel
theorem dX2_init_76 : decode cX2_init 76 = .ok (.new 36, 3) := by decide +kernel
theorem dX2_init_79 : decode cX2_init 79 = .ok (.dup, 1) := by decide +kernel
theorem dX2_init_80 : decode cX2_init 80 = .ok (.invokespecial 38, 3) := by decide +kernel
theorem dX2_init_83 : decode cX2_init 83 = .ok (.putfield 39, 3) := by decide +kernel
theorem dX2_init_86 : decode cX2_init 86 = .ok (.aload_n 0, 1) := by decide +kernel
theorem dX2_init_87 : decode cX2_init 87 = .ok (.new 9, 3) := by decide +kernel
theorem dX2_init_90 : decode cX2_init 90 = .ok (.dup, 1) := by decide +kernel
theorem dX2_init_91 : decode cX2_init 91 = .ok (.bipush 9, 2) := by decide +kernel
theorem dX2_init_93 : decode cX2_init 93 = .ok (.iconst 2, 1) := by decide +kernel
theorem dX2_init_94 : decode cX2_init 94 = .ok (.invokespecial 11, 3) := by decide +kernel
theorem dX2_init_97 : decode cX2_init 97 = .ok (.putfield 43, 3) := by decide +kernel
theorem dX2_init_100 : decode cX2_init 100 = .ok (.aload_n 0, 1) := by decide +kernel
theorem dX2_init_101 : decode cX2_init 101 = .ok (.iconst 0, 1) := by decide +kernel
theorem dX2_init_102 : decode cX2_init 102 = .ok (.putfield 46, 3) := by decide +kernel
theorem dX2_init_105 : decode cX2_init 105 = .ok (.aload_n 0, 1) := by decide +kernel
theorem dX2_init_106 : decode cX2_init 106 = .ok (.iconst 0, 1) := by decide +kernel
theorem dX2_init_107 : decode cX2_init 107 = .ok (.putfield 50, 3) := by decide +kernel
theorem dX2_init_110 : decode cX2_init 110 = .ok (.aload_n 0, 1) := by decide +kernel
theorem dX2_init_111 : decode cX2_init 111 = .ok (.iconst 0, 1) := by decide +kernel
theorem dX2_init_112 : decode cX2_init 112 = .ok (.putfield 53, 3) := by decide +kernel
theorem dX2_init_115 : decode cX2_init 115 = .ok (.aload_n 0, 1) := by decide +kernel
theorem dX2_init_116 : decode cX2_init 116 = .ok (.iconst 0, 1) := by decide +kernel
theorem dX2_init_117 : decode cX2_init 117 = .ok (.putfield 56, 3) := by decide +kernel
theorem dX2_init_120 : decode cX2_init 120 = .ok (.aload_n 0, 1) := by decide +kernel
theorem dX2_init_121 : decode cX2_init 121 = .ok (.bipush 48, 2) := by decide +kernel
theorem dX2_init_123 : decode cX2_init 123 = .ok (.putfield 59, 3) := by decide +kernel
theorem dX2_init_126 : decode cX2_init 126 = .ok (.aload_n 0, 1) := by decide +kernel
theorem dX2_init_127 : decode cX2_init 127 = .ok (.iconst 3, 1) := by decide +kernel
theorem dX2_init_128 : decode cX2_init 128 = .ok (.putfield 62, 3) := by decide +kernel
theorem dX2_init_131 : decode cX2_init 131 = .ok (.aload_n 0, 1) := by decide +kernel
theorem dX2_init_132 : decode cX2_init 132 = .ok (.iconst 1, 1) := by decide +kernel
theorem dX2_init_133 : decode cX2_init 133 = .ok (.putfield 65, 3) := by decide +kernel
theorem dX2_init_136 : decode cX2_init 136 = .ok (.return_, 1) := by decide +kernel
theorem dX2_clear_0 : decode cX2_clear 0 = .ok (.aload_n 0, 1) := by decide +kernel
theorem dX2_clear_1 : decode cX2_clear 1 = .ok (.getfield 14, 3) := by decide +kernel
theorem dX2_clear_4 : decode cX2_clear 4 = .ok (.invokevirtual 68, 3) := by decide +kernel
theorem dX2_clear_7 : decode cX2_clear 7 = .ok (.aload_n 0, 1) := by decide +kernel
theorem dX2_clear_8 : decode cX2_clear 8 = .ok (.getfield 20, 3) := by decide +kernel
theorem dX2_clear_11 : decode cX2_clear 11 = .ok (.invokevirtual 68, 3) := by decide +kernel
theorem dX2_clear_14 : decode cX2_clear 14 = .ok (.aload_n 0, 1) := by decide +kernel
theorem dX2_clear_15 : decode cX2_clear 15 = .ok (.getfield 23, 3) := by decide +kernel
theorem dX2_clear_18 : decode cX2_clear 18 = .ok (.invokevirtual 68, 3) := by decide +kernel
theorem dX2_clear_21 : decode cX2_clear 21 = .ok (.aload_n 0, 1) := by decide +kernel
theorem dX2_clear_22 : decode cX2_clear 22 = .ok (.getfield 26, 3) := by decide +kernel
theorem dX2_clear_25 : decode cX2_clear 25 = .ok (.invokevirtual 68, 3) := by decide +kernel
theorem dX2_clear_28 : decode cX2_clear 28 = .ok (.aload_n 0, 1) := by decide +kernel
theorem dX2_clear_29 : decode cX2_clear 29 = .ok (.getfield 32, 3) := by decide +kernel
theorem dX2_clear_32 : decode cX2_clear 32 = .ok (.invokevirtual 71, 3) := by decide +kernel
theorem dX2_clear_35 : decode cX2_clear 35 = .ok (.aload_n 0, 1) := by decide +kernel
theorem dX2_clear_36 : decode cX2_clear 36 = .ok (.getfield 39, 3) := by decide +kernel
theorem dX2_clear_39 : decode cX2_clear 39 = .ok (.invokevirtual 72, 3) := by decide +kernel
theorem dX2_clear_42 : decode cX2_clear 42 = .ok (.aload_n 0, 1) := by decide +kernel
theorem dX2_clear_43 : decode cX2_clear 43 = .ok (.iconst 0, 1) := by decide +kernel
theorem dX2_clear_44 : decode cX2_clear 44 = .ok (.putfield 46, 3) := by decide +kernel
theorem dX2_clear_47 : decode cX2_clear 47 = .ok (.aload_n 0, 1) := by decide +kernel
theorem dX2_clear_48 : decode cX2_clear 48 = .ok (.iconst 0, 1) := by decide +kernel
theorem dX2_clear_49 : decode cX2_clear 49 = .ok (.putfield 50, 3) := by decide +kernel
theorem dX2_clear_52 : decode cX2_clear 52 = .ok (.aload_n 0, 1) := by decide +kernel
theorem dX2_clear_53 : decode cX2_clear 53 = .ok (.iconst 0, 1) := by decide +kernel
theorem dX2_clear_54 : decode cX2_clear 54 = .ok (.putfield 53, 3) := by decide +kernel
theorem dX2_clear_57 : decode cX2_clear 57 = .ok (.aload_n 0, 1) := by decide +kernel
theorem dX2_clear_58 : decode cX2_clear 58 = .ok (.iconst 0, 1) := by decide +kernel
theorem dX2_clear_59 : decode cX2_clear 59 = .ok (.putfield 56, 3) := by decide +kernel
theorem dX2_clear_62 : decode cX2_clear 62 = .ok (.aload_n 0, 1) := by decide +kernel
theorem dX2_clear_63 : decode cX2_clear 63 = .ok (.bipush 48, 2) := by decide +kernel
theorem dX2_clear_65 : decode cX2_clear 65 = .ok (.putfield 59, 3) := by decide +kernel
theorem dX2_clear_68 : decode cX2_clear 68 = .ok (.aload_n 0, 1) := by decide +kernel
theorem dX2_clear_69 : decode cX2_clear 69 = .ok (.iconst 3, 1) := by decide +kernel
theorem dX2_clear_70 : decode cX2_clear 70 = .ok (.putfield 62, 3) := by decide +kernel
theorem dX2_clear_73 : decode cX2_clear 73 = .ok (.aload_n 0, 1) := by decide +kernel
theorem dX2_clear_74 : decode cX2_clear 74 = .ok (.iconst 1, 1) := by decide +kernel
theorem dX2_clear_75 : decode cX2_clear 75 = .ok (.putfield 65, 3) := by decide +kernel
theorem dX2_clear_78 : decode cX2_clear 78 = .ok (.return_, 1) := by decide +kernel
theorem dX2_takeFrom_0 : decode cX2_takeFrom 0 = .ok (.aload_n 0, 1) := by decide +kernel
theorem dX2_takeFrom_1 : decode cX2_takeFrom 1 = .ok (.getfield 14, 3) := by decide +kernel
theorem dX2_takeFrom_4 : decode cX2_takeFrom 4 = .ok (.aload_n 1, 1) := by decide +kernel
theorem dX2_takeFrom_5 : decode cX2_takeFrom 5 = .ok (.getfield 14, 3) := by decide +kernel
theorem dX2_takeFrom_8 : decode cX2_takeFrom 8 = .ok (.invokevirtual 73, 3) := by decide +kernel
theorem dX2_takeFrom_11 : decode cX2_takeFrom 11 = .ok (.aload_n 0, 1) := by decide +kernel
theorem dX2_takeFrom_12 : decode cX2_takeFrom 12 = .ok (.getfield 20, 3) := by decide +kernel
theorem dX2_takeFrom_15 : decode cX2_takeFrom 15 = .ok (.aload_n 1, 1) := by decide +kernel
theorem dX2_takeFrom_16 : decode cX2_takeFrom 16 = .ok (.getfield 20, 3) := by decide +kernel
theorem dX2_takeFrom_19 : decode cX2_takeFrom 19 = .ok (.invokevirtual 73, 3) := by decide +kernel
theorem dX2_takeFrom_22 : decode cX2_takeFrom 22 = .ok (.aload_n 0, 1) := by decide +kernel
theorem dX2_takeFrom_23 : decode cX2_takeFrom 23 = .ok (.getfield 23, 3) := by decide +kernel
theorem dX2_takeFrom_26 : decode cX2_takeFrom 26 = .ok (.aload_n 1, 1) := by decide +kernel
theorem dX2_takeFrom_27 : decode cX2_takeFrom 27 = .ok (.getfield 23, 3) := by decide +kernel
theorem dX2_takeFrom_30 : decode cX2_takeFrom 30 = .ok (.invokevirtual 73, 3) := by decide +kernel
theorem dX2_takeFrom_33 : decode cX2_takeFrom 33 = .ok (.aload_n 0, 1) := by decide +kernel
theorem dX2_takeFrom_34 : decode cX2_takeFrom 34 = .ok (.getfield 26, 3) := by decide +kernel
theorem dX2_takeFrom_37 : decode cX2_takeFrom 37 = .ok (.aload_n 1, 1) := by decide +kernel
theorem dX2_takeFrom_38 : decode cX2_takeFrom 38 = .ok (.getfield 26, 3) := by decide +kernel
theorem dX2_takeFrom_41 : decode cX2_takeFrom 41 = .ok (.invokevirtual 73, 3) := by decide +kernel
theorem dX2_takeFrom_44 : decode cX2_takeFrom 44 = .ok (.aload_n 0, 1) := by decide +kernel
theorem dX2_takeFrom_45 : decode cX2_takeFrom 45 = .ok (.getfield 32, 3) := by decide +kernel
theorem dX2_takeFrom_48 : decode cX2_takeFrom 48 = .ok (.aload_n 1, 1) := by decide +kernel
theorem dX2_takeFrom_49 : decode cX2_takeFrom 49 = .ok (.getfield 32, 3) := by decide +kernel
theorem dX2_takeFrom_52 : decode cX2_takeFrom 52 = .ok (.invokevirtual 77, 3) := by decide +kernel
theorem dX2_takeFrom_55 : decode cX2_takeFrom 55 = .ok (.aload_n 0, 1) := by decide +kernel
theorem dX2_takeFrom_56 : decode cX2_takeFrom 56 = .ok (.getfield 39, 3) := by decide +kernel
theorem dX2_takeFrom_59 : decode cX2_takeFrom 59 = .ok (.aload_n 1, 1) := by decide +kernel
theorem dX2_takeFrom_60 : decode cX2_takeFrom 60 = .ok (.getfield 39, 3) := by decide +kernel
theorem dX2_takeFrom_63 : decode cX2_takeFrom 63 = .ok (.invokevirtual 80, 3) := by decide +kernel
theorem dX2_takeFrom_66 : decode cX2_takeFrom 66 = .ok (.aload_n 0, 1) := by decide +kernel
theorem dX2_takeFrom_67 : decode cX2_takeFrom 67 = .ok (.aload_n 1, 1) := by decide +kernel
theorem dX2_takeFrom_68 : decode cX2_takeFrom 68 = .ok (.getfield 46, 3) := by decide +kernel
theorem dX2_takeFrom_71 : decode cX2_takeFrom 71 = .ok (.putfield 46, 3) := by decide +kernel
theorem dX2_takeFrom_74 : decode cX2_takeFrom 74 = .ok (.aload_n 0, 1) := by decide +kernel
theorem dX2_takeFrom_75 : decode cX2_takeFrom 75 = .ok (.aload_n 1, 1) := by decide +kernel
theorem dX2_takeFrom_76 : decode cX2_takeFrom 76 = .ok (.getfield 50, 3) := by decide +kernel
theorem dX2_takeFrom_79 : decode cX2_takeFrom 79 = .ok (.putfield 50, 3) := by decide +kernel
theorem dX2_takeFrom_82 : decode cX2_takeFrom 82 = .ok (.aload_n 0, 1) := by decide +kernel
theorem dX2_takeFrom_83 : decode cX2_takeFrom 83 = .ok (.aload_n 1, 1) := by decide +kernel
theorem dX2_takeFrom_84 : decode cX2_takeFrom 84 = .ok (.getfield 53, 3) := by decide +kernel
theorem dX2_takeFrom_87 : decode cX2_takeFrom 87 = .ok (.putfield 53, 3) := by decide +kernel
theorem dX2_takeFrom_90 : decode cX2_takeFrom 90 = .ok (.aload_n 0, 1) := by decide +kernel
theorem dX2_takeFrom_91 : decode cX2_takeFrom 91 = .ok (.aload_n 1, 1) := by decide +kernel
theorem dX2_takeFrom_92 : decode cX2_takeFrom 92 = .ok (.getfield 56, 3) := by decide +kernel
theorem dX2_takeFrom_95 : decode cX2_takeFrom 95 = .ok (.putfield 56, 3) := by decide +kernel
theorem dX2_takeFrom_98 : decode cX2_takeFrom 98 = .ok (.aload_n 0, 1) := by decide +kernel
theorem dX2_takeFrom_99 : decode cX2_takeFrom 99 = .ok (.aload_n 1, 1) := by decide +kernel
theorem dX2_takeFrom_100 : decode cX2_takeFrom 100 = .ok (.getfield 59, 3) := by decide +kernel
theorem dX2_takeFrom_103 : decode cX2_takeFrom 103 = .ok (.putfield 59, 3) := by decide +kernel
theorem dX2_takeFrom_106 : decode cX2_takeFrom 106 = .ok (.aload_n 0, 1) := by decide +kernel
theorem dX2_takeFrom_107 : decode cX2_takeFrom 107 = .ok (.aload_n 1, 1) := by decide +kernel
theorem dX2_takeFrom_108 : decode cX2_takeFrom 108 = .ok (.getfield 62, 3) := by decide +kernel
theorem dX2_takeFrom_111 : decode cX2_takeFrom 111 = .ok (.putfield 62, 3) := by decide +kernel
theorem dX2_takeFrom_114 : decode cX2_takeFrom 114 = .ok (.aload_n 0, 1) := by decide +kernel
theorem dX2_takeFrom_115 : decode cX2_takeFrom 115 = .ok (.aload_n 1, 1) := by decide +kernel
theorem dX2_takeFrom_116 : decode cX2_takeFrom 116 = .ok (.getfield 65, 3) := by decide +kernel
theorem dX2_takeFrom_119 : decode cX2_takeFrom 119 = .ok (.putfield 65, 3) := by decide +kernel
theorem dX2_takeFrom_122 : decode cX2_takeFrom 122 = .ok (.return_, 1) := by decide +kernel
theorem dX2_stationCount_0 : decode cX2_stationCount 0 = .ok (.aload_n 0, 1) := by decide +kernel
theorem dX2_stationCount_1 : decode cX2_stationCount 1 = .ok (.getfield 46, 3) := by decide +kernel
theorem dX2_stationCount_4 : decode cX2_stationCount 4 = .ok (.ireturn, 1) := by decide +kernel
theorem dX2_linkCount_0 : decode cX2_linkCount 0 = .ok (.aload_n 0, 1) := by decide +kernel
theorem dX2_linkCount_1 : decode cX2_linkCount 1 = .ok (.getfield 50, 3) := by decide +kernel
theorem dX2_linkCount_4 : decode cX2_linkCount 4 = .ok (.ireturn, 1) := by decide +kernel
theorem dX2_messageCount_0 : decode cX2_messageCount 0 = .ok (.aload_n 0, 1) := by decide +kernel
theorem dX2_messageCount_1 : decode cX2_messageCount 1 = .ok (.getfield 53, 3) := by decide +kernel
theorem dX2_messageCount_4 : decode cX2_messageCount 4 = .ok (.ireturn, 1) := by decide +kernel
theorem dX2_eventCount_0 : decode cX2_eventCount 0 = .ok (.aload_n 0, 1) := by decide +kernel
theorem dX2_eventCount_1 : decode cX2_eventCount 1 = .ok (.getfield 32, 3) := by decide +kernel
theorem dX2_eventCount_4 : decode cX2_eventCount 4 = .ok (.invokevirtual 83, 3) := by decide +kernel
theorem dX2_eventCount_7 : decode cX2_eventCount 7 = .ok (.ireturn, 1) := by decide +kernel
theorem dX2_eventNumber_0 : decode cX2_eventNumber 0 = .ok (.aload_n 0, 1) := by decide +kernel
theorem dX2_eventNumber_1 : decode cX2_eventNumber 1 = .ok (.getfield 32, 3) := by decide +kernel
theorem dX2_eventNumber_4 : decode cX2_eventNumber 4 = .ok (.iload_n 1, 1) := by decide +kernel
theorem dX2_eventNumber_5 : decode cX2_eventNumber 5 = .ok (.iload_n 2, 1) := by decide +kernel
theorem dX2_eventNumber_6 : decode cX2_eventNumber 6 = .ok (.invokevirtual 87, 3) := by decide +kernel
theorem dX2_eventNumber_9 : decode cX2_eventNumber 9 = .ok (.ireturn, 1) := by decide +kernel
theorem dX2_setLife_0 : decode cX2_setLife 0 = .ok (.aload_n 0, 1) := by decide +kernel
theorem dX2_setLife_1 : decode cX2_setLife 1 = .ok (.iload_n 1, 1) := by decide +kernel
theorem dX2_setLife_2 : decode cX2_setLife 2 = .ok (.putfield 59, 3) := by decide +kernel
theorem dX2_setLife_5 : decode cX2_setLife 5 = .ok (.return_, 1) := by decide +kernel
theorem dX2_setTries_0 : decode cX2_setTries 0 = .ok (.aload_n 0, 1) := by decide +kernel
theorem dX2_setTries_1 : decode cX2_setTries 1 = .ok (.iload_n 1, 1) := by decide +kernel
theorem dX2_setTries_2 : decode cX2_setTries 2 = .ok (.putfield 62, 3) := by decide +kernel
theorem dX2_setTries_5 : decode cX2_setTries 5 = .ok (.return_, 1) := by decide +kernel
theorem dX2_setX_0 : decode cX2_setX 0 = .ok (.aload_n 0, 1) := by decide +kernel
theorem dX2_setX_1 : decode cX2_setX 1 = .ok (.iload_n 1, 1) := by decide +kernel
theorem dX2_setX_2 : decode cX2_setX 2 = .ok (.putfield 65, 3) := by decide +kernel
theorem dX2_setX_5 : decode cX2_setX 5 = .ok (.return_, 1) := by decide +kernel
theorem dX2_newStation_0 : decode cX2_newStation 0 = .ok (.aload_n 0, 1) := by decide +kernel
theorem dX2_newStation_1 : decode cX2_newStation 1 = .ok (.getfield 46, 3) := by decide +kernel
theorem dX2_newStation_4 : decode cX2_newStation 4 = .ok (.istore 4, 2) := by decide +kernel
theorem dX2_newStation_6 : decode cX2_newStation 6 = .ok (.aload_n 0, 1) := by decide +kernel
theorem dX2_newStation_7 : decode cX2_newStation 7 = .ok (.getfield 14, 3) := by decide +kernel
theorem dX2_newStation_10 : decode cX2_newStation 10 = .ok (.iload 4, 2) := by decide +kernel
theorem dX2_newStation_12 : decode cX2_newStation 12 = .ok (.iconst 0, 1) := by decide +kernel
theorem dX2_newStation_13 : decode cX2_newStation 13 = .ok (.iload_n 1, 1) := by decide +kernel
theorem dX2_newStation_14 : decode cX2_newStation 14 = .ok (.invokevirtual 91, 3) := by decide +kernel
theorem dX2_newStation_17 : decode cX2_newStation 17 = .ok (.aload_n 0, 1) := by decide +kernel
theorem dX2_newStation_18 : decode cX2_newStation 18 = .ok (.getfield 14, 3) := by decide +kernel
theorem dX2_newStation_21 : decode cX2_newStation 21 = .ok (.iload 4, 2) := by decide +kernel
theorem dX2_newStation_23 : decode cX2_newStation 23 = .ok (.iconst 1, 1) := by decide +kernel
theorem dX2_newStation_24 : decode cX2_newStation 24 = .ok (.iload_n 2, 1) := by decide +kernel
theorem dX2_newStation_25 : decode cX2_newStation 25 = .ok (.invokevirtual 91, 3) := by decide +kernel
theorem dX2_newStation_28 : decode cX2_newStation 28 = .ok (.aload_n 0, 1) := by decide +kernel
theorem dX2_newStation_29 : decode cX2_newStation 29 = .ok (.getfield 14, 3) := by decide +kernel
theorem dX2_newStation_32 : decode cX2_newStation 32 = .ok (.iload 4, 2) := by decide +kernel
theorem dX2_newStation_34 : decode cX2_newStation 34 = .ok (.iconst 2, 1) := by decide +kernel
theorem dX2_newStation_35 : decode cX2_newStation 35 = .ok (.iload_n 3, 1) := by decide +kernel
theorem dX2_newStation_36 : decode cX2_newStation 36 = .ok (.invokevirtual 91, 3) := by decide +kernel
theorem dX2_newStation_39 : decode cX2_newStation 39 = .ok (.aload_n 0, 1) := by decide +kernel
theorem dX2_newStation_40 : decode cX2_newStation 40 = .ok (.dup, 1) := by decide +kernel
theorem dX2_newStation_41 : decode cX2_newStation 41 = .ok (.getfield 46, 3) := by decide +kernel
theorem dX2_newStation_44 : decode cX2_newStation 44 = .ok (.iconst 1, 1) := by decide +kernel
theorem dX2_newStation_45 : decode cX2_newStation 45 = .ok (.iadd, 1) := by decide +kernel
theorem dX2_newStation_46 : decode cX2_newStation 46 = .ok (.putfield 46, 3) := by decide +kernel
theorem dX2_newStation_49 : decode cX2_newStation 49 = .ok (.iload 4, 2) := by decide +kernel
theorem dX2_newStation_51 : decode cX2_newStation 51 = .ok (.ireturn, 1) := by decide +kernel
theorem dX2_newLink_0 : decode cX2_newLink 0 = .ok (.aload_n 0, 1) := by decide +kernel
theorem dX2_newLink_1 : decode cX2_newLink 1 = .ok (.getfield 50, 3) := by decide +kernel
theorem dX2_newLink_4 : decode cX2_newLink 4 = .ok (.istore 6, 2) := by decide +kernel
theorem dX2_newLink_6 : decode cX2_newLink 6 = .ok (.aload_n 0, 1) := by decide +kernel
theorem dX2_newLink_7 : decode cX2_newLink 7 = .ok (.getfield 20, 3) := by decide +kernel
theorem dX2_newLink_10 : decode cX2_newLink 10 = .ok (.iload 6, 2) := by decide +kernel
theorem dX2_newLink_12 : decode cX2_newLink 12 = .ok (.iconst 0, 1) := by decide +kernel
theorem dX2_newLink_13 : decode cX2_newLink 13 = .ok (.iload_n 1, 1) := by decide +kernel
theorem dX2_newLink_14 : decode cX2_newLink 14 = .ok (.invokevirtual 91, 3) := by decide +kernel
theorem dX2_newLink_17 : decode cX2_newLink 17 = .ok (.aload_n 0, 1) := by decide +kernel
theorem dX2_newLink_18 : decode cX2_newLink 18 = .ok (.getfield 20, 3) := by decide +kernel
theorem dX2_newLink_21 : decode cX2_newLink 21 = .ok (.iload 6, 2) := by decide +kernel
theorem dX2_newLink_23 : decode cX2_newLink 23 = .ok (.iconst 1, 1) := by decide +kernel
theorem dX2_newLink_24 : decode cX2_newLink 24 = .ok (.iload_n 2, 1) := by decide +kernel
theorem dX2_newLink_25 : decode cX2_newLink 25 = .ok (.invokevirtual 91, 3) := by decide +kernel
theorem dX2_newLink_28 : decode cX2_newLink 28 = .ok (.aload_n 0, 1) := by decide +kernel
theorem dX2_newLink_29 : decode cX2_newLink 29 = .ok (.getfield 20, 3) := by decide +kernel
theorem dX2_newLink_32 : decode cX2_newLink 32 = .ok (.iload 6, 2) := by decide +kernel
theorem dX2_newLink_34 : decode cX2_newLink 34 = .ok (.iconst 2, 1) := by decide +kernel
theorem dX2_newLink_35 : decode cX2_newLink 35 = .ok (.iload_n 3, 1) := by decide +kernel
theorem dX2_newLink_36 : decode cX2_newLink 36 = .ok (.invokevirtual 91, 3) := by decide +kernel
theorem dX2_newLink_39 : decode cX2_newLink 39 = .ok (.aload_n 0, 1) := by decide +kernel
theorem dX2_newLink_40 : decode cX2_newLink 40 = .ok (.getfield 20, 3) := by decide +kernel
theorem dX2_newLink_43 : decode cX2_newLink 43 = .ok (.iload 6, 2) := by decide +kernel
theorem dX2_newLink_45 : decode cX2_newLink 45 = .ok (.iconst 3, 1) := by decide +kernel
theorem dX2_newLink_46 : decode cX2_newLink 46 = .ok (.iload 4, 2) := by decide +kernel
theorem dX2_newLink_48 : decode cX2_newLink 48 = .ok (.invokevirtual 91, 3) := by decide +kernel
theorem dX2_newLink_51 : decode cX2_newLink 51 = .ok (.aload_n 0, 1) := by decide +kernel
theorem dX2_newLink_52 : decode cX2_newLink 52 = .ok (.getfield 20, 3) := by decide +kernel
theorem dX2_newLink_55 : decode cX2_newLink 55 = .ok (.iload 6, 2) := by decide +kernel
theorem dX2_newLink_57 : decode cX2_newLink 57 = .ok (.iconst 4, 1) := by decide +kernel
theorem dX2_newLink_58 : decode cX2_newLink 58 = .ok (.iload 5, 2) := by decide +kernel
theorem dX2_newLink_60 : decode cX2_newLink 60 = .ok (.invokevirtual 91, 3) := by decide +kernel
theorem dX2_newLink_63 : decode cX2_newLink 63 = .ok (.aload_n 0, 1) := by decide +kernel
theorem dX2_newLink_64 : decode cX2_newLink 64 = .ok (.dup, 1) := by decide +kernel
theorem dX2_newLink_65 : decode cX2_newLink 65 = .ok (.getfield 50, 3) := by decide +kernel
theorem dX2_newLink_68 : decode cX2_newLink 68 = .ok (.iconst 1, 1) := by decide +kernel
theorem dX2_newLink_69 : decode cX2_newLink 69 = .ok (.iadd, 1) := by decide +kernel
theorem dX2_newLink_70 : decode cX2_newLink 70 = .ok (.putfield 50, 3) := by decide +kernel
theorem dX2_newLink_73 : decode cX2_newLink 73 = .ok (.iload 6, 2) := by decide +kernel
theorem dX2_newLink_75 : decode cX2_newLink 75 = .ok (.ireturn, 1) := by decide +kernel
theorem dX2_newMessage_0 : decode cX2_newMessage 0 = .ok (.aload_n 0, 1) := by decide +kernel
theorem dX2_newMessage_1 : decode cX2_newMessage 1 = .ok (.getfield 53, 3) := by decide +kernel
theorem dX2_newMessage_4 : decode cX2_newMessage 4 = .ok (.istore 4, 2) := by decide +kernel
theorem dX2_newMessage_6 : decode cX2_newMessage 6 = .ok (.aload_n 0, 1) := by decide +kernel
theorem dX2_newMessage_7 : decode cX2_newMessage 7 = .ok (.getfield 23, 3) := by decide +kernel
theorem dX2_newMessage_10 : decode cX2_newMessage 10 = .ok (.iload 4, 2) := by decide +kernel
theorem dX2_newMessage_12 : decode cX2_newMessage 12 = .ok (.iconst 0, 1) := by decide +kernel
theorem dX2_newMessage_13 : decode cX2_newMessage 13 = .ok (.iload_n 1, 1) := by decide +kernel
theorem dX2_newMessage_14 : decode cX2_newMessage 14 = .ok (.invokevirtual 91, 3) := by decide +kernel
theorem dX2_newMessage_17 : decode cX2_newMessage 17 = .ok (.aload_n 0, 1) := by decide +kernel
theorem dX2_newMessage_18 : decode cX2_newMessage 18 = .ok (.getfield 23, 3) := by decide +kernel
theorem dX2_newMessage_21 : decode cX2_newMessage 21 = .ok (.iload 4, 2) := by decide +kernel
theorem dX2_newMessage_23 : decode cX2_newMessage 23 = .ok (.iconst 1, 1) := by decide +kernel
theorem dX2_newMessage_24 : decode cX2_newMessage 24 = .ok (.iload_n 2, 1) := by decide +kernel
theorem dX2_newMessage_25 : decode cX2_newMessage 25 = .ok (.invokevirtual 91, 3) := by decide +kernel
theorem dX2_newMessage_28 : decode cX2_newMessage 28 = .ok (.aload_n 0, 1) := by decide +kernel
theorem dX2_newMessage_29 : decode cX2_newMessage 29 = .ok (.getfield 23, 3) := by decide +kernel
theorem dX2_newMessage_32 : decode cX2_newMessage 32 = .ok (.iload 4, 2) := by decide +kernel
theorem dX2_newMessage_34 : decode cX2_newMessage 34 = .ok (.iconst 2, 1) := by decide +kernel
theorem dX2_newMessage_35 : decode cX2_newMessage 35 = .ok (.iload_n 3, 1) := by decide +kernel
theorem dX2_newMessage_36 : decode cX2_newMessage 36 = .ok (.invokevirtual 91, 3) := by decide +kernel
theorem dX2_newMessage_39 : decode cX2_newMessage 39 = .ok (.aload_n 0, 1) := by decide +kernel
theorem dX2_newMessage_40 : decode cX2_newMessage 40 = .ok (.getfield 23, 3) := by decide +kernel
theorem dX2_newMessage_43 : decode cX2_newMessage 43 = .ok (.iload 4, 2) := by decide +kernel
theorem dX2_newMessage_45 : decode cX2_newMessage 45 = .ok (.iconst 3, 1) := by decide +kernel
theorem dX2_newMessage_46 : decode cX2_newMessage 46 = .ok (.aload_n 0, 1) := by decide +kernel
theorem dX2_newMessage_47 : decode cX2_newMessage 47 = .ok (.getfield 56, 3) := by decide +kernel
theorem dX2_newMessage_50 : decode cX2_newMessage 50 = .ok (.invokevirtual 91, 3) := by decide +kernel
theorem dX2_newMessage_53 : decode cX2_newMessage 53 = .ok (.aload_n 0, 1) := by decide +kernel
theorem dX2_newMessage_54 : decode cX2_newMessage 54 = .ok (.getfield 23, 3) := by decide +kernel
theorem dX2_newMessage_57 : decode cX2_newMessage 57 = .ok (.iload 4, 2) := by decide +kernel
theorem dX2_newMessage_59 : decode cX2_newMessage 59 = .ok (.iconst 5, 1) := by decide +kernel
theorem dX2_newMessage_60 : decode cX2_newMessage 60 = .ok (.iconst (-1), 1) := by decide +kernel
theorem dX2_newMessage_61 : decode cX2_newMessage 61 = .ok (.invokevirtual 91, 3) := by decide +kernel
theorem dX2_newMessage_64 : decode cX2_newMessage 64 = .ok (.aload_n 0, 1) := by decide +kernel
theorem dX2_newMessage_65 : decode cX2_newMessage 65 = .ok (.getfield 23, 3) := by decide +kernel
theorem dX2_newMessage_68 : decode cX2_newMessage 68 = .ok (.iload 4, 2) := by decide +kernel
theorem dX2_newMessage_70 : decode cX2_newMessage 70 = .ok (.bipush 6, 2) := by decide +kernel
theorem dX2_newMessage_72 : decode cX2_newMessage 72 = .ok (.iconst (-1), 1) := by decide +kernel
theorem dX2_newMessage_73 : decode cX2_newMessage 73 = .ok (.invokevirtual 91, 3) := by decide +kernel
theorem dX2_newMessage_76 : decode cX2_newMessage 76 = .ok (.aload_n 0, 1) := by decide +kernel
theorem dX2_newMessage_77 : decode cX2_newMessage 77 = .ok (.iload 4, 2) := by decide +kernel
theorem dX2_newMessage_79 : decode cX2_newMessage 79 = .ok (.iconst (-1), 1) := by decide +kernel
theorem dX2_newMessage_80 : decode cX2_newMessage 80 = .ok (.iconst (-1), 1) := by decide +kernel
theorem dX2_newMessage_81 : decode cX2_newMessage 81 = .ok (.invokevirtual 95, 3) := by decide +kernel
theorem dX2_newMessage_84 : decode cX2_newMessage 84 = .ok (.iload 4, 2) := by decide +kernel
theorem dX2_newMessage_86 : decode cX2_newMessage 86 = .ok (.iload_n 1, 1) := by decide +kernel
theorem dX2_newMessage_87 : decode cX2_newMessage 87 = .ok (.invokestatic 98, 3) := by decide +kernel
theorem dX2_newMessage_90 : decode cX2_newMessage 90 = .ok (.istore 5, 2) := by decide +kernel
theorem dX2_newMessage_92 : decode cX2_newMessage 92 = .ok (.aload_n 0, 1) := by decide +kernel
theorem dX2_newMessage_93 : decode cX2_newMessage 93 = .ok (.getfield 26, 3) := by decide +kernel
theorem dX2_newMessage_96 : decode cX2_newMessage 96 = .ok (.iload 5, 2) := by decide +kernel
theorem dX2_newMessage_98 : decode cX2_newMessage 98 = .ok (.iconst 0, 1) := by decide +kernel
theorem dX2_newMessage_99 : decode cX2_newMessage 99 = .ok (.iconst 1, 1) := by decide +kernel
theorem dX2_newMessage_100 : decode cX2_newMessage 100 = .ok (.invokevirtual 91, 3) := by decide +kernel
theorem dX2_newMessage_103 : decode cX2_newMessage 103 = .ok (.aload_n 0, 1) := by decide +kernel
theorem dX2_newMessage_104 : decode cX2_newMessage 104 = .ok (.getfield 26, 3) := by decide +kernel
theorem dX2_newMessage_107 : decode cX2_newMessage 107 = .ok (.iload 5, 2) := by decide +kernel
theorem dX2_newMessage_109 : decode cX2_newMessage 109 = .ok (.iconst 2, 1) := by decide +kernel
theorem dX2_newMessage_110 : decode cX2_newMessage 110 = .ok (.aload_n 0, 1) := by decide +kernel
theorem dX2_newMessage_111 : decode cX2_newMessage 111 = .ok (.getfield 56, 3) := by decide +kernel
theorem dX2_newMessage_114 : decode cX2_newMessage 114 = .ok (.invokevirtual 91, 3) := by decide +kernel
theorem dX2_newMessage_117 : decode cX2_newMessage 117 = .ok (.aload_n 0, 1) := by decide +kernel
theorem dX2_newMessage_118 : decode cX2_newMessage 118 = .ok (.getfield 26, 3) := by decide +kernel
theorem dX2_newMessage_121 : decode cX2_newMessage 121 = .ok (.iload 5, 2) := by decide +kernel
theorem dX2_newMessage_123 : decode cX2_newMessage 123 = .ok (.iconst 3, 1) := by decide +kernel
theorem dX2_newMessage_124 : decode cX2_newMessage 124 = .ok (.iconst 1, 1) := by decide +kernel
theorem dX2_newMessage_125 : decode cX2_newMessage 125 = .ok (.invokevirtual 91, 3) := by decide +kernel
theorem dX2_newMessage_128 : decode cX2_newMessage 128 = .ok (.aload_n 0, 1) := by decide +kernel
theorem dX2_newMessage_129 : decode cX2_newMessage 129 = .ok (.getfield 26, 3) := by decide +kernel
theorem dX2_newMessage_132 : decode cX2_newMessage 132 = .ok (.iload 5, 2) := by decide +kernel
theorem dX2_newMessage_134 : decode cX2_newMessage 134 = .ok (.iconst 4, 1) := by decide +kernel
theorem dX2_newMessage_135 : decode cX2_newMessage 135 = .ok (.iload_n 1, 1) := by decide +kernel
theorem dX2_newMessage_136 : decode cX2_newMessage 136 = .ok (.invokevirtual 91, 3) := by decide +kernel
theorem dX2_newMessage_139 : decode cX2_newMessage 139 = .ok (.aload_n 0, 1) := by decide +kernel
theorem dX2_newMessage_140 : decode cX2_newMessage 140 = .ok (.dup, 1) := by decide +kernel
theorem dX2_newMessage_141 : decode cX2_newMessage 141 = .ok (.getfield 53, 3) := by decide +kernel
theorem dX2_newMessage_144 : decode cX2_newMessage 144 = .ok (.iconst 1, 1) := by decide +kernel
theorem dX2_newMessage_145 : decode cX2_newMessage 145 = .ok (.iadd, 1) := by decide +kernel
theorem dX2_newMessage_146 : decode cX2_newMessage 146 = .ok (.putfield 53, 3) := by decide +kernel
theorem dX2_newMessage_149 : decode cX2_newMessage 149 = .ok (.aload_n 0, 1) := by decide +kernel
theorem dX2_newMessage_150 : decode cX2_newMessage 150 = .ok (.getfield 32, 3) := by decide +kernel
theorem dX2_newMessage_153 : decode cX2_newMessage 153 = .ok (.aload_n 0, 1) := by decide +kernel
theorem dX2_newMessage_154 : decode cX2_newMessage 154 = .ok (.getfield 56, 3) := by decide +kernel
theorem dX2_newMessage_157 : decode cX2_newMessage 157 = .ok (.iconst 0, 1) := by decide +kernel
theorem dX2_newMessage_158 : decode cX2_newMessage 158 = .ok (.iload 4, 2) := by decide +kernel
theorem dX2_newMessage_160 : decode cX2_newMessage 160 = .ok (.iload_n 1, 1) := by decide +kernel
theorem dX2_newMessage_161 : decode cX2_newMessage 161 = .ok (.iconst (-1), 1) := by decide +kernel
theorem dX2_newMessage_162 : decode cX2_newMessage 162 = .ok (.invokevirtual 101, 3) := by decide +kernel
theorem dX2_newMessage_165 : decode cX2_newMessage 165 = .ok (.iload 4, 2) := by decide +kernel
theorem dX2_newMessage_167 : decode cX2_newMessage 167 = .ok (.ireturn, 1) := by decide +kernel
theorem dX2_changeStation_0 : decode cX2_changeStation 0 = .ok (.aload_n 0, 1) := by decide +kernel
theorem dX2_changeStation_1 : decode cX2_changeStation 1 = .ok (.getfield 14, 3) := by decide +kernel
theorem dX2_changeStation_4 : decode cX2_changeStation 4 = .ok (.iload_n 1, 1) := by decide +kernel
theorem dX2_changeStation_5 : decode cX2_changeStation 5 = .ok (.iload_n 2, 1) := by decide +kernel
theorem dX2_changeStation_6 : decode cX2_changeStation 6 = .ok (.invokevirtual 105, 3) := by decide +kernel
theorem dX2_changeStation_9 : decode cX2_changeStation 9 = .ok (.istore 4, 2) := by decide +kernel
theorem dX2_changeStation_11 : decode cX2_changeStation 11 = .ok (.aload_n 0, 1) := by decide +kernel
theorem dX2_changeStation_12 : decode cX2_changeStation 12 = .ok (.getfield 14, 3) := by decide +kernel
theorem dX2_changeStation_15 : decode cX2_changeStation 15 = .ok (.iload_n 1, 1) := by decide +kernel
theorem dX2_changeStation_16 : decode cX2_changeStation 16 = .ok (.iload_n 2, 1) := by decide +kernel
theorem dX2_changeStation_17 : decode cX2_changeStation 17 = .ok (.iload_n 3, 1) := by decide +kernel
theorem dX2_changeStation_18 : decode cX2_changeStation 18 = .ok (.invokevirtual 91, 3) := by decide +kernel
theorem dX2_changeStation_21 : decode cX2_changeStation 21 = .ok (.aload_n 0, 1) := by decide +kernel
theorem dX2_changeStation_22 : decode cX2_changeStation 22 = .ok (.invokevirtual 108, 3) := by decide +kernel
theorem dX2_changeStation_25 : decode cX2_changeStation 25 = .ok (.iload 4, 2) := by decide +kernel
theorem dX2_changeStation_27 : decode cX2_changeStation 27 = .ok (.ireturn, 1) := by decide +kernel
theorem dX2_changeLink_0 : decode cX2_changeLink 0 = .ok (.aload_n 0, 1) := by decide +kernel
theorem dX2_changeLink_1 : decode cX2_changeLink 1 = .ok (.getfield 20, 3) := by decide +kernel
theorem dX2_changeLink_4 : decode cX2_changeLink 4 = .ok (.iload_n 1, 1) := by decide +kernel
theorem dX2_changeLink_5 : decode cX2_changeLink 5 = .ok (.iload_n 2, 1) := by decide +kernel
theorem dX2_changeLink_6 : decode cX2_changeLink 6 = .ok (.invokevirtual 105, 3) := by decide +kernel
theorem dX2_changeLink_9 : decode cX2_changeLink 9 = .ok (.istore 4, 2) := by decide +kernel
theorem dX2_changeLink_11 : decode cX2_changeLink 11 = .ok (.aload_n 0, 1) := by decide +kernel
theorem dX2_changeLink_12 : decode cX2_changeLink 12 = .ok (.getfield 20, 3) := by decide +kernel
theorem dX2_changeLink_15 : decode cX2_changeLink 15 = .ok (.iload_n 1, 1) := by decide +kernel
theorem dX2_changeLink_16 : decode cX2_changeLink 16 = .ok (.iload_n 2, 1) := by decide +kernel
theorem dX2_changeLink_17 : decode cX2_changeLink 17 = .ok (.iload_n 3, 1) := by decide +kernel
theorem dX2_changeLink_18 : decode cX2_changeLink 18 = .ok (.invokevirtual 91, 3) := by decide +kernel
theorem dX2_changeLink_21 : decode cX2_changeLink 21 = .ok (.aload_n 0, 1) := by decide +kernel
theorem dX2_changeLink_22 : decode cX2_changeLink 22 = .ok (.invokevirtual 108, 3) := by decide +kernel
theorem dX2_changeLink_25 : decode cX2_changeLink 25 = .ok (.iload 4, 2) := by decide +kernel
theorem dX2_changeLink_27 : decode cX2_changeLink 27 = .ok (.ireturn, 1) := by decide +kernel
theorem dX2_changePriority_0 : decode cX2_changePriority 0 = .ok (.aload_n 0, 1) := by decide +kernel
theorem dX2_changePriority_1 : decode cX2_changePriority 1 = .ok (.getfield 23, 3) := by decide +kernel
theorem dX2_changePriority_4 : decode cX2_changePriority 4 = .ok (.iload_n 1, 1) := by decide +kernel
theorem dX2_changePriority_5 : decode cX2_changePriority 5 = .ok (.iconst 2, 1) := by decide +kernel
theorem dX2_changePriority_6 : decode cX2_changePriority 6 = .ok (.invokevirtual 105, 3) := by decide +kernel
theorem dX2_changePriority_9 : decode cX2_changePriority 9 = .ok (.istore_n 3, 1) := by decide +kernel
theorem dX2_changePriority_10 : decode cX2_changePriority 10 = .ok (.aload_n 0, 1) := by decide +kernel
theorem dX2_changePriority_11 : decode cX2_changePriority 11 = .ok (.getfield 23, 3) := by decide +kernel
theorem dX2_changePriority_14 : decode cX2_changePriority 14 = .ok (.iload_n 1, 1) := by decide +kernel
theorem dX2_changePriority_15 : decode cX2_changePriority 15 = .ok (.iconst 2, 1) := by decide +kernel
theorem dX2_changePriority_16 : decode cX2_changePriority 16 = .ok (.iload_n 2, 1) := by decide +kernel
theorem dX2_changePriority_17 : decode cX2_changePriority 17 = .ok (.invokevirtual 91, 3) := by decide +kernel
theorem dX2_changePriority_20 : decode cX2_changePriority 20 = .ok (.iload_n 3, 1) := by decide +kernel
theorem dX2_changePriority_21 : decode cX2_changePriority 21 = .ok (.ireturn, 1) := by decide +kernel
theorem dX2_linkBetween_0 : decode cX2_linkBetween 0 = .ok (.iconst 0, 1) := by decide +kernel
theorem dX2_linkBetween_1 : decode cX2_linkBetween 1 = .ok (.istore_n 3, 1) := by decide +kernel
theorem dX2_linkBetween_2 : decode cX2_linkBetween 2 = .ok (.iload_n 3, 1) := by decide +kernel
theorem dX2_linkBetween_3 : decode cX2_linkBetween 3 = .ok (.aload_n 0, 1) := by decide +kernel
theorem dX2_linkBetween_4 : decode cX2_linkBetween 4 = .ok (.getfield 50, 3) := by decide +kernel
theorem dX2_linkBetween_7 : decode cX2_linkBetween 7 = .ok (.if_icmp .ge 57, 3) := by decide +kernel
theorem dX2_linkBetween_10 : decode cX2_linkBetween 10 = .ok (.aload_n 0, 1) := by decide +kernel
theorem dX2_linkBetween_11 : decode cX2_linkBetween 11 = .ok (.getfield 20, 3) := by decide +kernel
theorem dX2_linkBetween_14 : decode cX2_linkBetween 14 = .ok (.iload_n 3, 1) := by decide +kernel
theorem dX2_linkBetween_15 : decode cX2_linkBetween 15 = .ok (.iconst 0, 1) := by decide +kernel
theorem dX2_linkBetween_16 : decode cX2_linkBetween 16 = .ok (.invokevirtual 105, 3) := by decide +kernel
theorem dX2_linkBetween_19 : decode cX2_linkBetween 19 = .ok (.istore 4, 2) := by decide +kernel
theorem dX2_linkBetween_21 : decode cX2_linkBetween 21 = .ok (.aload_n 0, 1) := by decide +kernel
theorem dX2_linkBetween_22 : decode cX2_linkBetween 22 = .ok (.getfield 20, 3) := by decide +kernel
theorem dX2_linkBetween_25 : decode cX2_linkBetween 25 = .ok (.iload_n 3, 1) := by decide +kernel
theorem dX2_linkBetween_26 : decode cX2_linkBetween 26 = .ok (.iconst 1, 1) := by decide +kernel
theorem dX2_linkBetween_27 : decode cX2_linkBetween 27 = .ok (.invokevirtual 105, 3) := by decide +kernel
theorem dX2_linkBetween_30 : decode cX2_linkBetween 30 = .ok (.istore 5, 2) := by decide +kernel
theorem dX2_linkBetween_32 : decode cX2_linkBetween 32 = .ok (.iload 4, 2) := by decide +kernel
theorem dX2_linkBetween_34 : decode cX2_linkBetween 34 = .ok (.iload_n 1, 1) := by decide +kernel
theorem dX2_linkBetween_35 : decode cX2_linkBetween 35 = .ok (.if_icmp .ne 9, 3) := by decide +kernel
theorem dX2_linkBetween_38 : decode cX2_linkBetween 38 = .ok (.iload 5, 2) := by decide +kernel
theorem dX2_linkBetween_40 : decode cX2_linkBetween 40 = .ok (.iload_n 2, 1) := by decide +kernel
theorem dX2_linkBetween_41 : decode cX2_linkBetween 41 = .ok (.if_icmp .eq 15, 3) := by decide +kernel
theorem dX2_linkBetween_44 : decode cX2_linkBetween 44 = .ok (.iload 4, 2) := by decide +kernel
theorem dX2_linkBetween_46 : decode cX2_linkBetween 46 = .ok (.iload_n 2, 1) := by decide +kernel
theorem dX2_linkBetween_47 : decode cX2_linkBetween 47 = .ok (.if_icmp .ne 11, 3) := by decide +kernel
theorem dX2_linkBetween_50 : decode cX2_linkBetween 50 = .ok (.iload 5, 2) := by decide +kernel
theorem dX2_linkBetween_52 : decode cX2_linkBetween 52 = .ok (.iload_n 1, 1) := by decide +kernel
theorem dX2_linkBetween_53 : decode cX2_linkBetween 53 = .ok (.if_icmp .ne 5, 3) := by decide +kernel
theorem dX2_linkBetween_56 : decode cX2_linkBetween 56 = .ok (.iload_n 3, 1) := by decide +kernel
theorem dX2_linkBetween_57 : decode cX2_linkBetween 57 = .ok (.ireturn, 1) := by decide +kernel
theorem dX2_linkBetween_58 : decode cX2_linkBetween 58 = .ok (.iinc 3 1, 3) := by decide +kernel
theorem dX2_linkBetween_61 : decode cX2_linkBetween 61 = .ok (.goto (-59), 3) := by decide +kernel
theorem dX2_linkBetween_64 : decode cX2_linkBetween 64 = .ok (.iconst (-1), 1) := by decide +kernel
theorem dX2_linkBetween_65 : decode cX2_linkBetween 65 = .ok (.ireturn, 1) := by decide +kernel
theorem dX2_findOpenLinks_0 : decode cX2_findOpenLinks 0 = .ok (.aload_n 0, 1) := by decide +kernel
theorem dX2_findOpenLinks_1 : decode cX2_findOpenLinks 1 = .ok (.getfield 39, 3) := by decide +kernel
theorem dX2_findOpenLinks_4 : decode cX2_findOpenLinks 4 = .ok (.invokevirtual 72, 3) := by decide +kernel
theorem dX2_findOpenLinks_7 : decode cX2_findOpenLinks 7 = .ok (.iconst 0, 1) := by decide +kernel
theorem dX2_findOpenLinks_8 : decode cX2_findOpenLinks 8 = .ok (.istore_n 1, 1) := by decide +kernel
theorem dX2_findOpenLinks_9 : decode cX2_findOpenLinks 9 = .ok (.iload_n 1, 1) := by decide +kernel
theorem dX2_findOpenLinks_10 : decode cX2_findOpenLinks 10 = .ok (.aload_n 0, 1) := by decide +kernel
theorem dX2_findOpenLinks_11 : decode cX2_findOpenLinks 11 = .ok (.getfield 50, 3) := by decide +kernel
theorem dX2_findOpenLinks_14 : decode cX2_findOpenLinks 14 = .ok (.if_icmp .ge 58, 3) := by decide +kernel
theorem dX2_findOpenLinks_17 : decode cX2_findOpenLinks 17 = .ok (.iconst 0, 1) := by decide +kernel
theorem dX2_findOpenLinks_18 : decode cX2_findOpenLinks 18 = .ok (.istore_n 2, 1) := by decide +kernel
theorem dX2_findOpenLinks_19 : decode cX2_findOpenLinks 19 = .ok (.iload_n 2, 1) := by decide +kernel
theorem dX2_findOpenLinks_20 : decode cX2_findOpenLinks 20 = .ok (.bipush 24, 2) := by decide +kernel
theorem dX2_findOpenLinks_22 : decode cX2_findOpenLinks 22 = .ok (.if_icmp .ge 44, 3) := by decide +kernel
theorem dX2_findOpenLinks_25 : decode cX2_findOpenLinks 25 = .ok (.aload_n 0, 1) := by decide +kernel
theorem dX2_findOpenLinks_26 : decode cX2_findOpenLinks 26 = .ok (.iload_n 1, 1) := by decide +kernel
theorem dX2_findOpenLinks_27 : decode cX2_findOpenLinks 27 = .ok (.iload_n 2, 1) := by decide +kernel
theorem dX2_findOpenLinks_28 : decode cX2_findOpenLinks 28 = .ok (.invokevirtual 111, 3) := by decide +kernel
theorem dX2_findOpenLinks_31 : decode cX2_findOpenLinks 31 = .ok (.ifCond .eq 29, 3) := by decide +kernel
theorem dX2_findOpenLinks_34 : decode cX2_findOpenLinks 34 = .ok (.aload_n 0, 1) := by decide +kernel
theorem dX2_findOpenLinks_35 : decode cX2_findOpenLinks 35 = .ok (.getfield 39, 3) := by decide +kernel
theorem dX2_findOpenLinks_38 : decode cX2_findOpenLinks 38 = .ok (.iload_n 2, 1) := by decide +kernel
theorem dX2_findOpenLinks_39 : decode cX2_findOpenLinks 39 = .ok (.aload_n 0, 1) := by decide +kernel
theorem dX2_findOpenLinks_40 : decode cX2_findOpenLinks 40 = .ok (.getfield 20, 3) := by decide +kernel
theorem dX2_findOpenLinks_43 : decode cX2_findOpenLinks 43 = .ok (.iload_n 1, 1) := by decide +kernel
theorem dX2_findOpenLinks_44 : decode cX2_findOpenLinks 44 = .ok (.iconst 0, 1) := by decide +kernel
theorem dX2_findOpenLinks_45 : decode cX2_findOpenLinks 45 = .ok (.invokevirtual 105, 3) := by decide +kernel
theorem dX2_findOpenLinks_48 : decode cX2_findOpenLinks 48 = .ok (.aload_n 0, 1) := by decide +kernel
theorem dX2_findOpenLinks_49 : decode cX2_findOpenLinks 49 = .ok (.getfield 20, 3) := by decide +kernel
theorem dX2_findOpenLinks_52 : decode cX2_findOpenLinks 52 = .ok (.iload_n 1, 1) := by decide +kernel
theorem dX2_findOpenLinks_53 : decode cX2_findOpenLinks 53 = .ok (.iconst 1, 1) := by decide +kernel
theorem dX2_findOpenLinks_54 : decode cX2_findOpenLinks 54 = .ok (.invokevirtual 105, 3) := by decide +kernel
theorem dX2_findOpenLinks_57 : decode cX2_findOpenLinks 57 = .ok (.invokevirtual 115, 3) := by decide +kernel
theorem dX2_findOpenLinks_60 : decode cX2_findOpenLinks 60 = .ok (.iinc 2 1, 3) := by decide +kernel
theorem dX2_findOpenLinks_63 : decode cX2_findOpenLinks 63 = .ok (.goto (-44), 3) := by decide +kernel
theorem dX2_findOpenLinks_66 : decode cX2_findOpenLinks 66 = .ok (.iinc 1 1, 3) := by decide +kernel
theorem dX2_findOpenLinks_69 : decode cX2_findOpenLinks 69 = .ok (.goto (-60), 3) := by decide +kernel
theorem dX2_findOpenLinks_72 : decode cX2_findOpenLinks 72 = .ok (.return_, 1) := by decide +kernel
theorem dX2_stationNumber_0 : decode cX2_stationNumber 0 = .ok (.iload_n 2, 1) := by decide +kernel
theorem dX2_stationNumber_1 : decode cX2_stationNumber 1 = .ok (.lookupswitch 73 #[(3, 35), (4, 53), (9, 67)], 35) := by decide +kernel
theorem dX2_stationNumber_36 : decode cX2_stationNumber 36 = .ok (.aload_n 0, 1) := by decide +kernel
theorem dX2_stationNumber_37 : decode cX2_stationNumber 37 = .ok (.iload_n 1, 1) := by decide +kernel
theorem dX2_stationNumber_38 : decode cX2_stationNumber 38 = .ok (.aload_n 0, 1) := by decide +kernel
theorem dX2_stationNumber_39 : decode cX2_stationNumber 39 = .ok (.invokevirtual 118, 3) := by decide +kernel
theorem dX2_stationNumber_42 : decode cX2_stationNumber 42 = .ok (.invokevirtual 121, 3) := by decide +kernel
theorem dX2_stationNumber_45 : decode cX2_stationNumber 45 = .ok (.ifCond .eq 7, 3) := by decide +kernel
theorem dX2_stationNumber_48 : decode cX2_stationNumber 48 = .ok (.iconst 1, 1) := by decide +kernel
theorem dX2_stationNumber_49 : decode cX2_stationNumber 49 = .ok (.goto 4, 3) := by decide +kernel
theorem dX2_stationNumber_52 : decode cX2_stationNumber 52 = .ok (.iconst 0, 1) := by decide +kernel
theorem dX2_stationNumber_53 : decode cX2_stationNumber 53 = .ok (.ireturn, 1) := by decide +kernel
theorem dX2_stationNumber_54 : decode cX2_stationNumber 54 = .ok (.aload_n 0, 1) := by decide +kernel
theorem dX2_stationNumber_55 : decode cX2_stationNumber 55 = .ok (.iconst 0, 1) := by decide +kernel
theorem dX2_stationNumber_56 : decode cX2_stationNumber 56 = .ok (.aload_n 0, 1) := by decide +kernel
theorem dX2_stationNumber_57 : decode cX2_stationNumber 57 = .ok (.getfield 53, 3) := by decide +kernel
theorem dX2_stationNumber_60 : decode cX2_stationNumber 60 = .ok (.iload_n 1, 1) := by decide +kernel
theorem dX2_stationNumber_61 : decode cX2_stationNumber 61 = .ok (.iload_n 1, 1) := by decide +kernel
theorem dX2_stationNumber_62 : decode cX2_stationNumber 62 = .ok (.iconst 1, 1) := by decide +kernel
theorem dX2_stationNumber_63 : decode cX2_stationNumber 63 = .ok (.iadd, 1) := by decide +kernel
theorem dX2_stationNumber_64 : decode cX2_stationNumber 64 = .ok (.invokevirtual 124, 3) := by decide +kernel
theorem dX2_stationNumber_67 : decode cX2_stationNumber 67 = .ok (.ireturn, 1) := by decide +kernel
theorem dX2_stationNumber_68 : decode cX2_stationNumber 68 = .ok (.aload_n 0, 1) := by decide +kernel
theorem dX2_stationNumber_69 : decode cX2_stationNumber 69 = .ok (.iload_n 1, 1) := by decide +kernel
theorem dX2_stationNumber_70 : decode cX2_stationNumber 70 = .ok (.invokevirtual 128, 3) := by decide +kernel
theorem dX2_stationNumber_73 : decode cX2_stationNumber 73 = .ok (.ireturn, 1) := by decide +kernel
theorem dX2_stationNumber_74 : decode cX2_stationNumber 74 = .ok (.aload_n 0, 1) := by decide +kernel
theorem dX2_stationNumber_75 : decode cX2_stationNumber 75 = .ok (.getfield 14, 3) := by decide +kernel
theorem dX2_stationNumber_78 : decode cX2_stationNumber 78 = .ok (.iload_n 1, 1) := by decide +kernel
theorem dX2_stationNumber_79 : decode cX2_stationNumber 79 = .ok (.iload_n 2, 1) := by decide +kernel
theorem dX2_stationNumber_80 : decode cX2_stationNumber 80 = .ok (.invokevirtual 105, 3) := by decide +kernel
theorem dX2_stationNumber_83 : decode cX2_stationNumber 83 = .ok (.ireturn, 1) := by decide +kernel
theorem dX2_linkNumber_0 : decode cX2_linkNumber 0 = .ok (.iload_n 2, 1) := by decide +kernel
theorem dX2_linkNumber_1 : decode cX2_linkNumber 1 = .ok (.iconst 5, 1) := by decide +kernel
theorem dX2_linkNumber_2 : decode cX2_linkNumber 2 = .ok (.if_icmp .ne 21, 3) := by decide +kernel
theorem dX2_linkNumber_5 : decode cX2_linkNumber 5 = .ok (.aload_n 0, 1) := by decide +kernel
theorem dX2_linkNumber_6 : decode cX2_linkNumber 6 = .ok (.iload_n 1, 1) := by decide +kernel
theorem dX2_linkNumber_7 : decode cX2_linkNumber 7 = .ok (.aload_n 0, 1) := by decide +kernel
theorem dX2_linkNumber_8 : decode cX2_linkNumber 8 = .ok (.invokevirtual 118, 3) := by decide +kernel
theorem dX2_linkNumber_11 : decode cX2_linkNumber 11 = .ok (.invokevirtual 111, 3) := by decide +kernel
theorem dX2_linkNumber_14 : decode cX2_linkNumber 14 = .ok (.ifCond .eq 7, 3) := by decide +kernel
theorem dX2_linkNumber_17 : decode cX2_linkNumber 17 = .ok (.iconst 1, 1) := by decide +kernel
theorem dX2_linkNumber_18 : decode cX2_linkNumber 18 = .ok (.goto 4, 3) := by decide +kernel
theorem dX2_linkNumber_21 : decode cX2_linkNumber 21 = .ok (.iconst 0, 1) := by decide +kernel
theorem dX2_linkNumber_22 : decode cX2_linkNumber 22 = .ok (.ireturn, 1) := by decide +kernel
theorem dX2_linkNumber_23 : decode cX2_linkNumber 23 = .ok (.aload_n 0, 1) := by decide +kernel
theorem dX2_linkNumber_24 : decode cX2_linkNumber 24 = .ok (.getfield 20, 3) := by decide +kernel
theorem dX2_linkNumber_27 : decode cX2_linkNumber 27 = .ok (.iload_n 1, 1) := by decide +kernel
theorem dX2_linkNumber_28 : decode cX2_linkNumber 28 = .ok (.iload_n 2, 1) := by decide +kernel
theorem dX2_linkNumber_29 : decode cX2_linkNumber 29 = .ok (.invokevirtual 105, 3) := by decide +kernel
theorem dX2_linkNumber_32 : decode cX2_linkNumber 32 = .ok (.ireturn, 1) := by decide +kernel
theorem dX2_countNumber_0 : decode cX2_countNumber 0 = .ok (.iload_n 1, 1) := by decide +kernel
theorem dX2_countNumber_1 : decode cX2_countNumber 1 = .ok (.tableswitch 162 0 13 #[71, 76, 81, 86, 91, 96, 101, 106, 112, 118, 124, 139, 144, 154], 71) := by decide +kernel
theorem dX2_countNumber_72 : decode cX2_countNumber 72 = .ok (.aload_n 0, 1) := by decide +kernel
theorem dX2_countNumber_73 : decode cX2_countNumber 73 = .ok (.getfield 46, 3) := by decide +kernel
theorem dX2_countNumber_76 : decode cX2_countNumber 76 = .ok (.ireturn, 1) := by decide +kernel
theorem dX2_countNumber_77 : decode cX2_countNumber 77 = .ok (.aload_n 0, 1) := by decide +kernel
theorem dX2_countNumber_78 : decode cX2_countNumber 78 = .ok (.getfield 50, 3) := by decide +kernel
theorem dX2_countNumber_81 : decode cX2_countNumber 81 = .ok (.ireturn, 1) := by decide +kernel
theorem dX2_countNumber_82 : decode cX2_countNumber 82 = .ok (.aload_n 0, 1) := by decide +kernel
theorem dX2_countNumber_83 : decode cX2_countNumber 83 = .ok (.getfield 53, 3) := by decide +kernel
theorem dX2_countNumber_86 : decode cX2_countNumber 86 = .ok (.ireturn, 1) := by decide +kernel
theorem dX2_countNumber_87 : decode cX2_countNumber 87 = .ok (.aload_n 0, 1) := by decide +kernel
theorem dX2_countNumber_88 : decode cX2_countNumber 88 = .ok (.getfield 56, 3) := by decide +kernel
theorem dX2_countNumber_91 : decode cX2_countNumber 91 = .ok (.ireturn, 1) := by decide +kernel
theorem dX2_countNumber_92 : decode cX2_countNumber 92 = .ok (.aload_n 0, 1) := by decide +kernel
theorem dX2_countNumber_93 : decode cX2_countNumber 93 = .ok (.getfield 59, 3) := by decide +kernel
theorem dX2_countNumber_96 : decode cX2_countNumber 96 = .ok (.ireturn, 1) := by decide +kernel
theorem dX2_countNumber_97 : decode cX2_countNumber 97 = .ok (.aload_n 0, 1) := by decide +kernel
theorem dX2_countNumber_98 : decode cX2_countNumber 98 = .ok (.getfield 62, 3) := by decide +kernel
theorem dX2_countNumber_101 : decode cX2_countNumber 101 = .ok (.ireturn, 1) := by decide +kernel
theorem dX2_countNumber_102 : decode cX2_countNumber 102 = .ok (.aload_n 0, 1) := by decide +kernel
theorem dX2_countNumber_103 : decode cX2_countNumber 103 = .ok (.getfield 65, 3) := by decide +kernel
theorem dX2_countNumber_106 : decode cX2_countNumber 106 = .ok (.ireturn, 1) := by decide +kernel
theorem dX2_countNumber_107 : decode cX2_countNumber 107 = .ok (.aload_n 0, 1) := by decide +kernel
theorem dX2_countNumber_108 : decode cX2_countNumber 108 = .ok (.iconst 0, 1) := by decide +kernel
theorem dX2_countNumber_109 : decode cX2_countNumber 109 = .ok (.invokevirtual 132, 3) := by decide +kernel
theorem dX2_countNumber_112 : decode cX2_countNumber 112 = .ok (.ireturn, 1) := by decide +kernel
theorem dX2_countNumber_113 : decode cX2_countNumber 113 = .ok (.aload_n 0, 1) := by decide +kernel
theorem dX2_countNumber_114 : decode cX2_countNumber 114 = .ok (.iconst 1, 1) := by decide +kernel
theorem dX2_countNumber_115 : decode cX2_countNumber 115 = .ok (.invokevirtual 132, 3) := by decide +kernel
theorem dX2_countNumber_118 : decode cX2_countNumber 118 = .ok (.ireturn, 1) := by decide +kernel
theorem dX2_countNumber_119 : decode cX2_countNumber 119 = .ok (.aload_n 0, 1) := by decide +kernel
theorem dX2_countNumber_120 : decode cX2_countNumber 120 = .ok (.iconst 2, 1) := by decide +kernel
theorem dX2_countNumber_121 : decode cX2_countNumber 121 = .ok (.invokevirtual 132, 3) := by decide +kernel
theorem dX2_countNumber_124 : decode cX2_countNumber 124 = .ok (.ireturn, 1) := by decide +kernel
theorem dX2_countNumber_125 : decode cX2_countNumber 125 = .ok (.aload_n 0, 1) := by decide +kernel
theorem dX2_countNumber_126 : decode cX2_countNumber 126 = .ok (.iconst 0, 1) := by decide +kernel
theorem dX2_countNumber_127 : decode cX2_countNumber 127 = .ok (.aload_n 0, 1) := by decide +kernel
theorem dX2_countNumber_128 : decode cX2_countNumber 128 = .ok (.getfield 53, 3) := by decide +kernel
theorem dX2_countNumber_131 : decode cX2_countNumber 131 = .ok (.iconst 0, 1) := by decide +kernel
theorem dX2_countNumber_132 : decode cX2_countNumber 132 = .ok (.aload_n 0, 1) := by decide +kernel
theorem dX2_countNumber_133 : decode cX2_countNumber 133 = .ok (.getfield 46, 3) := by decide +kernel
theorem dX2_countNumber_136 : decode cX2_countNumber 136 = .ok (.invokevirtual 124, 3) := by decide +kernel
theorem dX2_countNumber_139 : decode cX2_countNumber 139 = .ok (.ireturn, 1) := by decide +kernel
theorem dX2_countNumber_140 : decode cX2_countNumber 140 = .ok (.aload_n 0, 1) := by decide +kernel
theorem dX2_countNumber_141 : decode cX2_countNumber 141 = .ok (.invokevirtual 135, 3) := by decide +kernel
theorem dX2_countNumber_144 : decode cX2_countNumber 144 = .ok (.ireturn, 1) := by decide +kernel
theorem dX2_countNumber_145 : decode cX2_countNumber 145 = .ok (.aload_n 0, 1) := by decide +kernel
theorem dX2_countNumber_146 : decode cX2_countNumber 146 = .ok (.getfield 14, 3) := by decide +kernel
theorem dX2_countNumber_149 : decode cX2_countNumber 149 = .ok (.bipush 7, 2) := by decide +kernel
theorem dX2_countNumber_151 : decode cX2_countNumber 151 = .ok (.invokevirtual 138, 3) := by decide +kernel
theorem dX2_countNumber_154 : decode cX2_countNumber 154 = .ok (.ireturn, 1) := by decide +kernel
theorem dX2_countNumber_155 : decode cX2_countNumber 155 = .ok (.aload_n 0, 1) := by decide +kernel
theorem dX2_countNumber_156 : decode cX2_countNumber 156 = .ok (.getfield 32, 3) := by decide +kernel
theorem dX2_countNumber_159 : decode cX2_countNumber 159 = .ok (.invokevirtual 83, 3) := by decide +kernel
theorem dX2_countNumber_162 : decode cX2_countNumber 162 = .ok (.ireturn, 1) := by decide +kernel
theorem dX2_countNumber_163 : decode cX2_countNumber 163 = .ok (.iconst (-1), 1) := by decide +kernel
theorem dX2_countNumber_164 : decode cX2_countNumber 164 = .ok (.ireturn, 1) := by decide +kernel
theorem dX2_wayNumber_0 : decode cX2_wayNumber 0 = .ok (.aload_n 0, 1) := by decide +kernel
theorem dX2_wayNumber_1 : decode cX2_wayNumber 1 = .ok (.getfield 39, 3) := by decide +kernel
theorem dX2_wayNumber_4 : decode cX2_wayNumber 4 = .ok (.iload_n 1, 1) := by decide +kernel
theorem dX2_wayNumber_5 : decode cX2_wayNumber 5 = .ok (.iload_n 2, 1) := by decide +kernel
theorem dX2_wayNumber_6 : decode cX2_wayNumber 6 = .ok (.iload_n 3, 1) := by decide +kernel
theorem dX2_wayNumber_7 : decode cX2_wayNumber 7 = .ok (.iconst 0, 1) := by decide +kernel
theorem dX2_wayNumber_8 : decode cX2_wayNumber 8 = .ok (.invokevirtual 141, 3) := by decide +kernel
theorem dX2_wayNumber_11 : decode cX2_wayNumber 11 = .ok (.ifCond .ne 5, 3) := by decide +kernel
theorem dX2_wayNumber_14 : decode cX2_wayNumber 14 = .ok (.iconst (-1), 1) := by decide +kernel
theorem dX2_wayNumber_15 : decode cX2_wayNumber 15 = .ok (.ireturn, 1) := by decide +kernel
theorem dX2_wayNumber_16 : decode cX2_wayNumber 16 = .ok (.iload 4, 2) := by decide +kernel
theorem dX2_wayNumber_18 : decode cX2_wayNumber 18 = .ok (.lookupswitch 42 #[(0, 26), (1, 34)], 26) := by decide +kernel
theorem dX2_wayNumber_44 : decode cX2_wayNumber 44 = .ok (.aload_n 0, 1) := by decide +kernel
theorem dX2_wayNumber_45 : decode cX2_wayNumber 45 = .ok (.getfield 39, 3) := by decide +kernel
theorem dX2_wayNumber_48 : decode cX2_wayNumber 48 = .ok (.invokevirtual 145, 3) := by decide +kernel
theorem dX2_wayNumber_51 : decode cX2_wayNumber 51 = .ok (.ireturn, 1) := by decide +kernel
theorem dX2_wayNumber_52 : decode cX2_wayNumber 52 = .ok (.aload_n 0, 1) := by decide +kernel
theorem dX2_wayNumber_53 : decode cX2_wayNumber 53 = .ok (.getfield 39, 3) := by decide +kernel
theorem dX2_wayNumber_56 : decode cX2_wayNumber 56 = .ok (.invokevirtual 148, 3) := by decide +kernel
theorem dX2_wayNumber_59 : decode cX2_wayNumber 59 = .ok (.ireturn, 1) := by decide +kernel
theorem dX2_wayNumber_60 : decode cX2_wayNumber 60 = .ok (.aload_n 0, 1) := by decide +kernel
theorem dX2_wayNumber_61 : decode cX2_wayNumber 61 = .ok (.getfield 39, 3) := by decide +kernel
theorem dX2_wayNumber_64 : decode cX2_wayNumber 64 = .ok (.invokevirtual 151, 3) := by decide +kernel
theorem dX2_wayNumber_67 : decode cX2_wayNumber 67 = .ok (.ireturn, 1) := by decide +kernel
theorem dX2_reachablePairs_0 : decode cX2_reachablePairs 0 = .ok (.iconst 0, 1) := by decide +kernel
theorem dX2_reachablePairs_1 : decode cX2_reachablePairs 1 = .ok (.istore_n 2, 1) := by decide +kernel
theorem dX2_reachablePairs_2 : decode cX2_reachablePairs 2 = .ok (.iconst 0, 1) := by decide +kernel
theorem dX2_reachablePairs_3 : decode cX2_reachablePairs 3 = .ok (.istore_n 3, 1) := by decide +kernel
theorem dX2_reachablePairs_4 : decode cX2_reachablePairs 4 = .ok (.iload_n 3, 1) := by decide +kernel
theorem dX2_reachablePairs_5 : decode cX2_reachablePairs 5 = .ok (.aload_n 0, 1) := by decide +kernel
theorem dX2_reachablePairs_6 : decode cX2_reachablePairs 6 = .ok (.getfield 46, 3) := by decide +kernel
theorem dX2_reachablePairs_9 : decode cX2_reachablePairs 9 = .ok (.if_icmp .ge 33, 3) := by decide +kernel
theorem dX2_reachablePairs_12 : decode cX2_reachablePairs 12 = .ok (.iload_n 1, 1) := by decide +kernel
theorem dX2_reachablePairs_13 : decode cX2_reachablePairs 13 = .ok (.iload_n 3, 1) := by decide +kernel
theorem dX2_reachablePairs_14 : decode cX2_reachablePairs 14 = .ok (.ishr, 1) := by decide +kernel
theorem dX2_reachablePairs_15 : decode cX2_reachablePairs 15 = .ok (.iconst 1, 1) := by decide +kernel
theorem dX2_reachablePairs_16 : decode cX2_reachablePairs 16 = .ok (.iand, 1) := by decide +kernel
theorem dX2_reachablePairs_17 : decode cX2_reachablePairs 17 = .ok (.ifCond .ne 19, 3) := by decide +kernel
theorem dX2_reachablePairs_20 : decode cX2_reachablePairs 20 = .ok (.iload_n 2, 1) := by decide +kernel
theorem dX2_reachablePairs_21 : decode cX2_reachablePairs 21 = .ok (.aload_n 0, 1) := by decide +kernel
theorem dX2_reachablePairs_22 : decode cX2_reachablePairs 22 = .ok (.getfield 39, 3) := by decide +kernel
theorem dX2_reachablePairs_25 : decode cX2_reachablePairs 25 = .ok (.iload_n 3, 1) := by decide +kernel
theorem dX2_reachablePairs_26 : decode cX2_reachablePairs 26 = .ok (.aload_n 0, 1) := by decide +kernel
theorem dX2_reachablePairs_27 : decode cX2_reachablePairs 27 = .ok (.getfield 56, 3) := by decide +kernel
theorem dX2_reachablePairs_30 : decode cX2_reachablePairs 30 = .ok (.iload_n 1, 1) := by decide +kernel
theorem dX2_reachablePairs_31 : decode cX2_reachablePairs 31 = .ok (.invokevirtual 154, 3) := by decide +kernel
theorem dX2_reachablePairs_34 : decode cX2_reachablePairs 34 = .ok (.iadd, 1) := by decide +kernel
theorem dX2_reachablePairs_35 : decode cX2_reachablePairs 35 = .ok (.istore_n 2, 1) := by decide +kernel
theorem dX2_reachablePairs_36 : decode cX2_reachablePairs 36 = .ok (.iinc 3 1, 3) := by decide +kernel
theorem dX2_reachablePairs_39 : decode cX2_reachablePairs 39 = .ok (.goto (-35), 3) := by decide +kernel
theorem dX2_reachablePairs_42 : decode cX2_reachablePairs 42 = .ok (.iload_n 2, 1) := by decide +kernel
theorem dX2_reachablePairs_43 : decode cX2_reachablePairs 43 = .ok (.ireturn, 1) := by decide +kernel
theorem dX2_messageNumber_0 : decode cX2_messageNumber 0 = .ok (.iload_n 2, 1) := by decide +kernel
theorem dX2_messageNumber_1 : decode cX2_messageNumber 1 = .ok (.lookupswitch 47 #[(4, 27), (9, 33)], 27) := by decide +kernel
theorem dX2_messageNumber_28 : decode cX2_messageNumber 28 = .ok (.aload_n 0, 1) := by decide +kernel
theorem dX2_messageNumber_29 : decode cX2_messageNumber 29 = .ok (.iload_n 1, 1) := by decide +kernel
theorem dX2_messageNumber_30 : decode cX2_messageNumber 30 = .ok (.invokevirtual 158, 3) := by decide +kernel
theorem dX2_messageNumber_33 : decode cX2_messageNumber 33 = .ok (.ireturn, 1) := by decide +kernel
theorem dX2_messageNumber_34 : decode cX2_messageNumber 34 = .ok (.aload_n 0, 1) := by decide +kernel
theorem dX2_messageNumber_35 : decode cX2_messageNumber 35 = .ok (.iload_n 1, 1) := by decide +kernel
theorem dX2_messageNumber_36 : decode cX2_messageNumber 36 = .ok (.iload_n 1, 1) := by decide +kernel
theorem dX2_messageNumber_37 : decode cX2_messageNumber 37 = .ok (.iconst 1, 1) := by decide +kernel
theorem dX2_messageNumber_38 : decode cX2_messageNumber 38 = .ok (.iadd, 1) := by decide +kernel
theorem dX2_messageNumber_39 : decode cX2_messageNumber 39 = .ok (.iconst 0, 1) := by decide +kernel
theorem dX2_messageNumber_40 : decode cX2_messageNumber 40 = .ok (.aload_n 0, 1) := by decide +kernel
theorem dX2_messageNumber_41 : decode cX2_messageNumber 41 = .ok (.getfield 46, 3) := by decide +kernel
theorem dX2_messageNumber_44 : decode cX2_messageNumber 44 = .ok (.invokevirtual 124, 3) := by decide +kernel
theorem dX2_messageNumber_47 : decode cX2_messageNumber 47 = .ok (.ireturn, 1) := by decide +kernel
theorem dX2_messageNumber_48 : decode cX2_messageNumber 48 = .ok (.aload_n 0, 1) := by decide +kernel
theorem dX2_messageNumber_49 : decode cX2_messageNumber 49 = .ok (.getfield 23, 3) := by decide +kernel
theorem dX2_messageNumber_52 : decode cX2_messageNumber 52 = .ok (.iload_n 1, 1) := by decide +kernel
theorem dX2_messageNumber_53 : decode cX2_messageNumber 53 = .ok (.iload_n 2, 1) := by decide +kernel
theorem dX2_messageNumber_54 : decode cX2_messageNumber 54 = .ok (.invokevirtual 105, 3) := by decide +kernel
theorem dX2_messageNumber_57 : decode cX2_messageNumber 57 = .ok (.ireturn, 1) := by decide +kernel
theorem dX2_messageState_0 : decode cX2_messageState 0 = .ok (.aload_n 0, 1) := by decide +kernel
theorem dX2_messageState_1 : decode cX2_messageState 1 = .ok (.getfield 23, 3) := by decide +kernel
theorem dX2_messageState_4 : decode cX2_messageState 4 = .ok (.iload_n 1, 1) := by decide +kernel
theorem dX2_messageState_5 : decode cX2_messageState 5 = .ok (.iconst 5, 1) := by decide +kernel
theorem dX2_messageState_6 : decode cX2_messageState 6 = .ok (.invokevirtual 105, 3) := by decide +kernel
theorem dX2_messageState_9 : decode cX2_messageState 9 = .ok (.iconst (-1), 1) := by decide +kernel
theorem dX2_messageState_10 : decode cX2_messageState 10 = .ok (.if_icmp .eq 5, 3) := by decide +kernel
theorem dX2_messageState_13 : decode cX2_messageState 13 = .ok (.iconst 1, 1) := by decide +kernel
theorem dX2_messageState_14 : decode cX2_messageState 14 = .ok (.ireturn, 1) := by decide +kernel
theorem dX2_messageState_15 : decode cX2_messageState 15 = .ok (.aload_n 0, 1) := by decide +kernel
theorem dX2_messageState_16 : decode cX2_messageState 16 = .ok (.iload_n 1, 1) := by decide +kernel
theorem dX2_messageState_17 : decode cX2_messageState 17 = .ok (.iload_n 1, 1) := by decide +kernel
theorem dX2_messageState_18 : decode cX2_messageState 18 = .ok (.iconst 1, 1) := by decide +kernel
theorem dX2_messageState_19 : decode cX2_messageState 19 = .ok (.iadd, 1) := by decide +kernel
theorem dX2_messageState_20 : decode cX2_messageState 20 = .ok (.iconst 0, 1) := by decide +kernel
theorem dX2_messageState_21 : decode cX2_messageState 21 = .ok (.aload_n 0, 1) := by decide +kernel
theorem dX2_messageState_22 : decode cX2_messageState 22 = .ok (.getfield 46, 3) := by decide +kernel
theorem dX2_messageState_25 : decode cX2_messageState 25 = .ok (.invokevirtual 124, 3) := by decide +kernel
theorem dX2_messageState_28 : decode cX2_messageState 28 = .ok (.ifCond .le 7, 3) := by decide +kernel
theorem dX2_messageState_31 : decode cX2_messageState 31 = .ok (.iconst 0, 1) := by decide +kernel
theorem dX2_messageState_32 : decode cX2_messageState 32 = .ok (.goto 4, 3) := by decide +kernel
theorem dX2_messageState_35 : decode cX2_messageState 35 = .ok (.iconst 2, 1) := by decide +kernel
theorem dX2_messageState_36 : decode cX2_messageState 36 = .ok (.ireturn, 1) := by decide +kernel
theorem dX2_messagesInState_0 : decode cX2_messagesInState 0 = .ok (.iconst 0, 1) := by decide +kernel
theorem dX2_messagesInState_1 : decode cX2_messagesInState 1 = .ok (.istore_n 2, 1) := by decide +kernel
theorem dX2_messagesInState_2 : decode cX2_messagesInState 2 = .ok (.iconst 0, 1) := by decide +kernel
theorem dX2_messagesInState_3 : decode cX2_messagesInState 3 = .ok (.istore_n 3, 1) := by decide +kernel
theorem dX2_messagesInState_4 : decode cX2_messagesInState 4 = .ok (.iload_n 3, 1) := by decide +kernel
theorem dX2_messagesInState_5 : decode cX2_messagesInState 5 = .ok (.aload_n 0, 1) := by decide +kernel
theorem dX2_messagesInState_6 : decode cX2_messagesInState 6 = .ok (.getfield 53, 3) := by decide +kernel
theorem dX2_messagesInState_9 : decode cX2_messagesInState 9 = .ok (.if_icmp .ge 21, 3) := by decide +kernel
theorem dX2_messagesInState_12 : decode cX2_messagesInState 12 = .ok (.aload_n 0, 1) := by decide +kernel
theorem dX2_messagesInState_13 : decode cX2_messagesInState 13 = .ok (.iload_n 3, 1) := by decide +kernel
theorem dX2_messagesInState_14 : decode cX2_messagesInState 14 = .ok (.invokevirtual 158, 3) := by decide +kernel
theorem dX2_messagesInState_17 : decode cX2_messagesInState 17 = .ok (.iload_n 1, 1) := by decide +kernel
theorem dX2_messagesInState_18 : decode cX2_messagesInState 18 = .ok (.if_icmp .ne 6, 3) := by decide +kernel
theorem dX2_messagesInState_21 : decode cX2_messagesInState 21 = .ok (.iinc 2 1, 3) := by decide +kernel
theorem dX2_messagesInState_24 : decode cX2_messagesInState 24 = .ok (.iinc 3 1, 3) := by decide +kernel
theorem dX2_messagesInState_27 : decode cX2_messagesInState 27 = .ok (.goto (-23), 3) := by decide +kernel
theorem dX2_messagesInState_30 : decode cX2_messagesInState 30 = .ok (.iload_n 2, 1) := by decide +kernel
theorem dX2_messagesInState_31 : decode cX2_messagesInState 31 = .ok (.ireturn, 1) := by decide +kernel
theorem dX2_copyNumber_0 : decode cX2_copyNumber 0 = .ok (.iload_n 1, 1) := by decide +kernel
theorem dX2_copyNumber_1 : decode cX2_copyNumber 1 = .ok (.iload_n 2, 1) := by decide +kernel
theorem dX2_copyNumber_2 : decode cX2_copyNumber 2 = .ok (.invokestatic 98, 3) := by decide +kernel
theorem dX2_copyNumber_5 : decode cX2_copyNumber 5 = .ok (.istore 4, 2) := by decide +kernel
theorem dX2_copyNumber_7 : decode cX2_copyNumber 7 = .ok (.iload_n 3, 1) := by decide +kernel
theorem dX2_copyNumber_8 : decode cX2_copyNumber 8 = .ok (.ifCond .eq 18, 3) := by decide +kernel
theorem dX2_copyNumber_11 : decode cX2_copyNumber 11 = .ok (.aload_n 0, 1) := by decide +kernel
theorem dX2_copyNumber_12 : decode cX2_copyNumber 12 = .ok (.getfield 26, 3) := by decide +kernel
theorem dX2_copyNumber_15 : decode cX2_copyNumber 15 = .ok (.iload 4, 2) := by decide +kernel
theorem dX2_copyNumber_17 : decode cX2_copyNumber 17 = .ok (.iconst 0, 1) := by decide +kernel
theorem dX2_copyNumber_18 : decode cX2_copyNumber 18 = .ok (.invokevirtual 105, 3) := by decide +kernel
theorem dX2_copyNumber_21 : decode cX2_copyNumber 21 = .ok (.ifCond .ne 5, 3) := by decide +kernel
theorem dX2_copyNumber_24 : decode cX2_copyNumber 24 = .ok (.iconst (-1), 1) := by decide +kernel
theorem dX2_copyNumber_25 : decode cX2_copyNumber 25 = .ok (.ireturn, 1) := by decide +kernel
theorem dX2_copyNumber_26 : decode cX2_copyNumber 26 = .ok (.iload_n 3, 1) := by decide +kernel
theorem dX2_copyNumber_27 : decode cX2_copyNumber 27 = .ok (.iconst 4, 1) := by decide +kernel
theorem dX2_copyNumber_28 : decode cX2_copyNumber 28 = .ok (.if_icmp .ne 12, 3) := by decide +kernel
theorem dX2_copyNumber_31 : decode cX2_copyNumber 31 = .ok (.aload_n 0, 1) := by decide +kernel
theorem dX2_copyNumber_32 : decode cX2_copyNumber 32 = .ok (.iload_n 1, 1) := by decide +kernel
theorem dX2_copyNumber_33 : decode cX2_copyNumber 33 = .ok (.iload_n 2, 1) := by decide +kernel
theorem dX2_copyNumber_34 : decode cX2_copyNumber 34 = .ok (.invokevirtual 161, 3) := by decide +kernel
theorem dX2_copyNumber_37 : decode cX2_copyNumber 37 = .ok (.goto 13, 3) := by decide +kernel
theorem dX2_copyNumber_40 : decode cX2_copyNumber 40 = .ok (.aload_n 0, 1) := by decide +kernel
theorem dX2_copyNumber_41 : decode cX2_copyNumber 41 = .ok (.getfield 26, 3) := by decide +kernel
theorem dX2_copyNumber_44 : decode cX2_copyNumber 44 = .ok (.iload 4, 2) := by decide +kernel
theorem dX2_copyNumber_46 : decode cX2_copyNumber 46 = .ok (.iload_n 3, 1) := by decide +kernel
theorem dX2_copyNumber_47 : decode cX2_copyNumber 47 = .ok (.invokevirtual 105, 3) := by decide +kernel
theorem dX2_copyNumber_50 : decode cX2_copyNumber 50 = .ok (.ireturn, 1) := by decide +kernel
theorem dX2_pathStation_0 : decode cX2_pathStation 0 = .ok (.iload_n 1, 1) := by decide +kernel
theorem dX2_pathStation_1 : decode cX2_pathStation 1 = .ok (.iload_n 2, 1) := by decide +kernel
theorem dX2_pathStation_2 : decode cX2_pathStation 2 = .ok (.invokestatic 98, 3) := by decide +kernel
theorem dX2_pathStation_5 : decode cX2_pathStation 5 = .ok (.istore 4, 2) := by decide +kernel
theorem dX2_pathStation_7 : decode cX2_pathStation 7 = .ok (.aload_n 0, 1) := by decide +kernel
theorem dX2_pathStation_8 : decode cX2_pathStation 8 = .ok (.getfield 26, 3) := by decide +kernel
theorem dX2_pathStation_11 : decode cX2_pathStation 11 = .ok (.iload 4, 2) := by decide +kernel
theorem dX2_pathStation_13 : decode cX2_pathStation 13 = .ok (.iconst 0, 1) := by decide +kernel
theorem dX2_pathStation_14 : decode cX2_pathStation 14 = .ok (.invokevirtual 105, 3) := by decide +kernel
theorem dX2_pathStation_17 : decode cX2_pathStation 17 = .ok (.ifCond .eq 21, 3) := by decide +kernel
theorem dX2_pathStation_20 : decode cX2_pathStation 20 = .ok (.iload_n 3, 1) := by decide +kernel
theorem dX2_pathStation_21 : decode cX2_pathStation 21 = .ok (.ifCond .lt 17, 3) := by decide +kernel
theorem dX2_pathStation_24 : decode cX2_pathStation 24 = .ok (.iload_n 3, 1) := by decide +kernel
theorem dX2_pathStation_25 : decode cX2_pathStation 25 = .ok (.aload_n 0, 1) := by decide +kernel
theorem dX2_pathStation_26 : decode cX2_pathStation 26 = .ok (.getfield 26, 3) := by decide +kernel
theorem dX2_pathStation_29 : decode cX2_pathStation 29 = .ok (.iload 4, 2) := by decide +kernel
theorem dX2_pathStation_31 : decode cX2_pathStation 31 = .ok (.iconst 3, 1) := by decide +kernel
theorem dX2_pathStation_32 : decode cX2_pathStation 32 = .ok (.invokevirtual 105, 3) := by decide +kernel
theorem dX2_pathStation_35 : decode cX2_pathStation 35 = .ok (.if_icmp .lt 5, 3) := by decide +kernel
theorem dX2_pathStation_38 : decode cX2_pathStation 38 = .ok (.iconst (-1), 1) := by decide +kernel
theorem dX2_pathStation_39 : decode cX2_pathStation 39 = .ok (.ireturn, 1) := by decide +kernel
theorem dX2_pathStation_40 : decode cX2_pathStation 40 = .ok (.aload_n 0, 1) := by decide +kernel
theorem dX2_pathStation_41 : decode cX2_pathStation 41 = .ok (.getfield 26, 3) := by decide +kernel
theorem dX2_pathStation_44 : decode cX2_pathStation 44 = .ok (.iload 4, 2) := by decide +kernel
theorem dX2_pathStation_46 : decode cX2_pathStation 46 = .ok (.iconst 4, 1) := by decide +kernel
theorem dX2_pathStation_47 : decode cX2_pathStation 47 = .ok (.invokevirtual 105, 3) := by decide +kernel
theorem dX2_pathStation_50 : decode cX2_pathStation 50 = .ok (.iload_n 3, 1) := by decide +kernel
theorem dX2_pathStation_51 : decode cX2_pathStation 51 = .ok (.iconst 3, 1) := by decide +kernel
theorem dX2_pathStation_52 : decode cX2_pathStation 52 = .ok (.imul, 1) := by decide +kernel
theorem dX2_pathStation_53 : decode cX2_pathStation 53 = .ok (.ishr, 1) := by decide +kernel
theorem dX2_pathStation_54 : decode cX2_pathStation 54 = .ok (.bipush 7, 2) := by decide +kernel
theorem dX2_pathStation_56 : decode cX2_pathStation 56 = .ok (.iand, 1) := by decide +kernel
theorem dX2_pathStation_57 : decode cX2_pathStation 57 = .ok (.ireturn, 1) := by decide +kernel
theorem dX2_messageToSend_0 : decode cX2_messageToSend 0 = .ok (.iload_n 2, 1) := by decide +kernel
theorem dX2_messageToSend_1 : decode cX2_messageToSend 1 = .ok (.aload_n 0, 1) := by decide +kernel
theorem dX2_messageToSend_2 : decode cX2_messageToSend 2 = .ok (.iload_n 1, 1) := by decide +kernel
theorem dX2_messageToSend_3 : decode cX2_messageToSend 3 = .ok (.invokevirtual 164, 3) := by decide +kernel
theorem dX2_messageToSend_6 : decode cX2_messageToSend 6 = .ok (.if_icmp .ge 15, 3) := by decide +kernel
theorem dX2_messageToSend_9 : decode cX2_messageToSend 9 = .ok (.aload_n 0, 1) := by decide +kernel
theorem dX2_messageToSend_10 : decode cX2_messageToSend 10 = .ok (.getfield 43, 3) := by decide +kernel
theorem dX2_messageToSend_13 : decode cX2_messageToSend 13 = .ok (.iload_n 2, 1) := by decide +kernel
theorem dX2_messageToSend_14 : decode cX2_messageToSend 14 = .ok (.iconst 0, 1) := by decide +kernel
theorem dX2_messageToSend_15 : decode cX2_messageToSend 15 = .ok (.invokevirtual 105, 3) := by decide +kernel
theorem dX2_messageToSend_18 : decode cX2_messageToSend 18 = .ok (.goto 4, 3) := by decide +kernel
theorem dX2_messageToSend_21 : decode cX2_messageToSend 21 = .ok (.iconst (-1), 1) := by decide +kernel
theorem dX2_messageToSend_22 : decode cX2_messageToSend 22 = .ok (.ireturn, 1) := by decide +kernel
theorem dX2_takeCopiesBack_0 : decode cX2_takeCopiesBack 0 = .ok (.iconst 0, 1) := by decide +kernel
theorem dX2_takeCopiesBack_1 : decode cX2_takeCopiesBack 1 = .ok (.istore_n 2, 1) := by decide +kernel
theorem dX2_takeCopiesBack_2 : decode cX2_takeCopiesBack 2 = .ok (.iconst 0, 1) := by decide +kernel
theorem dX2_takeCopiesBack_3 : decode cX2_takeCopiesBack 3 = .ok (.istore_n 3, 1) := by decide +kernel
theorem dX2_takeCopiesBack_4 : decode cX2_takeCopiesBack 4 = .ok (.iload_n 3, 1) := by decide +kernel
theorem dX2_takeCopiesBack_5 : decode cX2_takeCopiesBack 5 = .ok (.aload_n 0, 1) := by decide +kernel
theorem dX2_takeCopiesBack_6 : decode cX2_takeCopiesBack 6 = .ok (.getfield 46, 3) := by decide +kernel
theorem dX2_takeCopiesBack_9 : decode cX2_takeCopiesBack 9 = .ok (.if_icmp .ge 31, 3) := by decide +kernel
theorem dX2_takeCopiesBack_12 : decode cX2_takeCopiesBack 12 = .ok (.aload_n 0, 1) := by decide +kernel
theorem dX2_takeCopiesBack_13 : decode cX2_takeCopiesBack 13 = .ok (.iload_n 1, 1) := by decide +kernel
theorem dX2_takeCopiesBack_14 : decode cX2_takeCopiesBack 14 = .ok (.iload_n 3, 1) := by decide +kernel
theorem dX2_takeCopiesBack_15 : decode cX2_takeCopiesBack 15 = .ok (.invokevirtual 167, 3) := by decide +kernel
theorem dX2_takeCopiesBack_18 : decode cX2_takeCopiesBack 18 = .ok (.ifCond .eq 16, 3) := by decide +kernel
theorem dX2_takeCopiesBack_21 : decode cX2_takeCopiesBack 21 = .ok (.aload_n 0, 1) := by decide +kernel
theorem dX2_takeCopiesBack_22 : decode cX2_takeCopiesBack 22 = .ok (.iload_n 1, 1) := by decide +kernel
theorem dX2_takeCopiesBack_23 : decode cX2_takeCopiesBack 23 = .ok (.iload_n 3, 1) := by decide +kernel
theorem dX2_takeCopiesBack_24 : decode cX2_takeCopiesBack 24 = .ok (.iconst (-1), 1) := by decide +kernel
theorem dX2_takeCopiesBack_25 : decode cX2_takeCopiesBack 25 = .ok (.iconst 3, 1) := by decide +kernel
theorem dX2_takeCopiesBack_26 : decode cX2_takeCopiesBack 26 = .ok (.bipush 8, 2) := by decide +kernel
theorem dX2_takeCopiesBack_28 : decode cX2_takeCopiesBack 28 = .ok (.invokevirtual 170, 3) := by decide +kernel
theorem dX2_takeCopiesBack_31 : decode cX2_takeCopiesBack 31 = .ok (.iinc 2 1, 3) := by decide +kernel
theorem dX2_takeCopiesBack_34 : decode cX2_takeCopiesBack 34 = .ok (.iinc 3 1, 3) := by decide +kernel
theorem dX2_takeCopiesBack_37 : decode cX2_takeCopiesBack 37 = .ok (.goto (-33), 3) := by decide +kernel
theorem dX2_takeCopiesBack_40 : decode cX2_takeCopiesBack 40 = .ok (.iload_n 2, 1) := by decide +kernel
theorem dX2_takeCopiesBack_41 : decode cX2_takeCopiesBack 41 = .ok (.ireturn, 1) := by decide +kernel
theorem dX2_hoursOfDelivered_0 : decode cX2_hoursOfDelivered 0 = .ok (.iconst 0, 1) := by decide +kernel
theorem dX2_hoursOfDelivered_1 : decode cX2_hoursOfDelivered 1 = .ok (.istore_n 1, 1) := by decide +kernel
theorem dX2_hoursOfDelivered_2 : decode cX2_hoursOfDelivered 2 = .ok (.iconst 0, 1) := by decide +kernel
theorem dX2_hoursOfDelivered_3 : decode cX2_hoursOfDelivered 3 = .ok (.istore_n 2, 1) := by decide +kernel
theorem dX2_hoursOfDelivered_4 : decode cX2_hoursOfDelivered 4 = .ok (.iload_n 2, 1) := by decide +kernel
theorem dX2_hoursOfDelivered_5 : decode cX2_hoursOfDelivered 5 = .ok (.aload_n 0, 1) := by decide +kernel
theorem dX2_hoursOfDelivered_6 : decode cX2_hoursOfDelivered 6 = .ok (.getfield 53, 3) := by decide +kernel
theorem dX2_hoursOfDelivered_9 : decode cX2_hoursOfDelivered 9 = .ok (.if_icmp .ge 40, 3) := by decide +kernel
theorem dX2_hoursOfDelivered_12 : decode cX2_hoursOfDelivered 12 = .ok (.aload_n 0, 1) := by decide +kernel
theorem dX2_hoursOfDelivered_13 : decode cX2_hoursOfDelivered 13 = .ok (.iload_n 2, 1) := by decide +kernel
theorem dX2_hoursOfDelivered_14 : decode cX2_hoursOfDelivered 14 = .ok (.invokevirtual 158, 3) := by decide +kernel
theorem dX2_hoursOfDelivered_17 : decode cX2_hoursOfDelivered 17 = .ok (.iconst 1, 1) := by decide +kernel
theorem dX2_hoursOfDelivered_18 : decode cX2_hoursOfDelivered 18 = .ok (.if_icmp .ne 25, 3) := by decide +kernel
theorem dX2_hoursOfDelivered_21 : decode cX2_hoursOfDelivered 21 = .ok (.iload_n 1, 1) := by decide +kernel
theorem dX2_hoursOfDelivered_22 : decode cX2_hoursOfDelivered 22 = .ok (.aload_n 0, 1) := by decide +kernel
theorem dX2_hoursOfDelivered_23 : decode cX2_hoursOfDelivered 23 = .ok (.getfield 23, 3) := by decide +kernel
theorem dX2_hoursOfDelivered_26 : decode cX2_hoursOfDelivered 26 = .ok (.iload_n 2, 1) := by decide +kernel
theorem dX2_hoursOfDelivered_27 : decode cX2_hoursOfDelivered 27 = .ok (.iconst 5, 1) := by decide +kernel
theorem dX2_hoursOfDelivered_28 : decode cX2_hoursOfDelivered 28 = .ok (.invokevirtual 105, 3) := by decide +kernel
theorem dX2_hoursOfDelivered_31 : decode cX2_hoursOfDelivered 31 = .ok (.aload_n 0, 1) := by decide +kernel
theorem dX2_hoursOfDelivered_32 : decode cX2_hoursOfDelivered 32 = .ok (.getfield 23, 3) := by decide +kernel
theorem dX2_hoursOfDelivered_35 : decode cX2_hoursOfDelivered 35 = .ok (.iload_n 2, 1) := by decide +kernel
theorem dX2_hoursOfDelivered_36 : decode cX2_hoursOfDelivered 36 = .ok (.iconst 3, 1) := by decide +kernel
theorem dX2_hoursOfDelivered_37 : decode cX2_hoursOfDelivered 37 = .ok (.invokevirtual 105, 3) := by decide +kernel
theorem dX2_hoursOfDelivered_40 : decode cX2_hoursOfDelivered 40 = .ok (.isub, 1) := by decide +kernel
theorem dX2_hoursOfDelivered_41 : decode cX2_hoursOfDelivered 41 = .ok (.iadd, 1) := by decide +kernel
theorem dX2_hoursOfDelivered_42 : decode cX2_hoursOfDelivered 42 = .ok (.istore_n 1, 1) := by decide +kernel
theorem dX2_hoursOfDelivered_43 : decode cX2_hoursOfDelivered 43 = .ok (.iinc 2 1, 3) := by decide +kernel
theorem dX2_hoursOfDelivered_46 : decode cX2_hoursOfDelivered 46 = .ok (.goto (-42), 3) := by decide +kernel
theorem dX2_hoursOfDelivered_49 : decode cX2_hoursOfDelivered 49 = .ok (.iload_n 1, 1) := by decide +kernel
theorem dX2_hoursOfDelivered_50 : decode cX2_hoursOfDelivered 50 = .ok (.ireturn, 1) := by decide +kernel
theorem dX2_framesSent_0 : decode cX2_framesSent 0 = .ok (.aload_n 0, 1) := by decide +kernel
theorem dX2_framesSent_1 : decode cX2_framesSent 1 = .ok (.getfield 20, 3) := by decide +kernel
theorem dX2_framesSent_4 : decode cX2_framesSent 4 = .ok (.bipush 6, 2) := by decide +kernel
theorem dX2_framesSent_6 : decode cX2_framesSent 6 = .ok (.invokevirtual 138, 3) := by decide +kernel
theorem dX2_framesSent_9 : decode cX2_framesSent 9 = .ok (.ireturn, 1) := by decide +kernel
theorem dX2_framesOrAnswersLost_0 : decode cX2_framesOrAnswersLost 0 = .ok (.aload_n 0, 1) := by decide +kernel
theorem dX2_framesOrAnswersLost_1 : decode cX2_framesOrAnswersLost 1 = .ok (.getfield 20, 3) := by decide +kernel
theorem dX2_framesOrAnswersLost_4 : decode cX2_framesOrAnswersLost 4 = .ok (.bipush 7, 2) := by decide +kernel
theorem dX2_framesOrAnswersLost_6 : decode cX2_framesOrAnswersLost 6 = .ok (.invokevirtual 138, 3) := by decide +kernel
theorem dX2_framesOrAnswersLost_9 : decode cX2_framesOrAnswersLost 9 = .ok (.aload_n 0, 1) := by decide +kernel
theorem dX2_framesOrAnswersLost_10 : decode cX2_framesOrAnswersLost 10 = .ok (.getfield 20, 3) := by decide +kernel
theorem dX2_framesOrAnswersLost_13 : decode cX2_framesOrAnswersLost 13 = .ok (.bipush 8, 2) := by decide +kernel
theorem dX2_framesOrAnswersLost_15 : decode cX2_framesOrAnswersLost 15 = .ok (.invokevirtual 138, 3) := by decide +kernel
theorem dX2_framesOrAnswersLost_18 : decode cX2_framesOrAnswersLost 18 = .ok (.iadd, 1) := by decide +kernel
theorem dX2_framesOrAnswersLost_19 : decode cX2_framesOrAnswersLost 19 = .ok (.ireturn, 1) := by decide +kernel
theorem dX2_passHour_0 : decode cX2_passHour 0 = .ok (.aload_n 0, 1) := by decide +kernel
theorem dX2_passHour_1 : decode cX2_passHour 1 = .ok (.invokevirtual 173, 3) := by decide +kernel
theorem dX2_passHour_4 : decode cX2_passHour 4 = .ok (.iconst 0, 1) := by decide +kernel
theorem dX2_passHour_5 : decode cX2_passHour 5 = .ok (.istore_n 1, 1) := by decide +kernel
theorem dX2_passHour_6 : decode cX2_passHour 6 = .ok (.iload_n 1, 1) := by decide +kernel
theorem dX2_passHour_7 : decode cX2_passHour 7 = .ok (.aload_n 0, 1) := by decide +kernel
theorem dX2_passHour_8 : decode cX2_passHour 8 = .ok (.getfield 46, 3) := by decide +kernel
theorem dX2_passHour_11 : decode cX2_passHour 11 = .ok (.if_icmp .ge 51, 3) := by decide +kernel
theorem dX2_passHour_14 : decode cX2_passHour 14 = .ok (.aload_n 0, 1) := by decide +kernel
theorem dX2_passHour_15 : decode cX2_passHour 15 = .ok (.iload_n 1, 1) := by decide +kernel
theorem dX2_passHour_16 : decode cX2_passHour 16 = .ok (.invokevirtual 164, 3) := by decide +kernel
theorem dX2_passHour_19 : decode cX2_passHour 19 = .ok (.istore_n 2, 1) := by decide +kernel
theorem dX2_passHour_20 : decode cX2_passHour 20 = .ok (.iconst 0, 1) := by decide +kernel
theorem dX2_passHour_21 : decode cX2_passHour 21 = .ok (.istore_n 3, 1) := by decide +kernel
theorem dX2_passHour_22 : decode cX2_passHour 22 = .ok (.iload_n 3, 1) := by decide +kernel
theorem dX2_passHour_23 : decode cX2_passHour 23 = .ok (.iload_n 2, 1) := by decide +kernel
theorem dX2_passHour_24 : decode cX2_passHour 24 = .ok (.if_icmp .ge 32, 3) := by decide +kernel
theorem dX2_passHour_27 : decode cX2_passHour 27 = .ok (.aload_n 0, 1) := by decide +kernel
theorem dX2_passHour_28 : decode cX2_passHour 28 = .ok (.aload_n 0, 1) := by decide +kernel
theorem dX2_passHour_29 : decode cX2_passHour 29 = .ok (.getfield 43, 3) := by decide +kernel
theorem dX2_passHour_32 : decode cX2_passHour 32 = .ok (.iload_n 3, 1) := by decide +kernel
theorem dX2_passHour_33 : decode cX2_passHour 33 = .ok (.iconst 0, 1) := by decide +kernel
theorem dX2_passHour_34 : decode cX2_passHour 34 = .ok (.invokevirtual 105, 3) := by decide +kernel
theorem dX2_passHour_37 : decode cX2_passHour 37 = .ok (.iload_n 1, 1) := by decide +kernel
theorem dX2_passHour_38 : decode cX2_passHour 38 = .ok (.aload_n 0, 1) := by decide +kernel
theorem dX2_passHour_39 : decode cX2_passHour 39 = .ok (.getfield 43, 3) := by decide +kernel
theorem dX2_passHour_42 : decode cX2_passHour 42 = .ok (.iload_n 3, 1) := by decide +kernel
theorem dX2_passHour_43 : decode cX2_passHour 43 = .ok (.iconst 1, 1) := by decide +kernel
theorem dX2_passHour_44 : decode cX2_passHour 44 = .ok (.invokevirtual 105, 3) := by decide +kernel
theorem dX2_passHour_47 : decode cX2_passHour 47 = .ok (.invokevirtual 176, 3) := by decide +kernel
theorem dX2_passHour_50 : decode cX2_passHour 50 = .ok (.iinc 3 1, 3) := by decide +kernel
theorem dX2_passHour_53 : decode cX2_passHour 53 = .ok (.goto (-31), 3) := by decide +kernel
theorem dX2_passHour_56 : decode cX2_passHour 56 = .ok (.iinc 1 1, 3) := by decide +kernel
theorem dX2_passHour_59 : decode cX2_passHour 59 = .ok (.goto (-53), 3) := by decide +kernel
theorem dX2_passHour_62 : decode cX2_passHour 62 = .ok (.aload_n 0, 1) := by decide +kernel
theorem dX2_passHour_63 : decode cX2_passHour 63 = .ok (.dup, 1) := by decide +kernel
theorem dX2_passHour_64 : decode cX2_passHour 64 = .ok (.getfield 56, 3) := by decide +kernel
theorem dX2_passHour_67 : decode cX2_passHour 67 = .ok (.iconst 1, 1) := by decide +kernel
theorem dX2_passHour_68 : decode cX2_passHour 68 = .ok (.iadd, 1) := by decide +kernel
theorem dX2_passHour_69 : decode cX2_passHour 69 = .ok (.putfield 56, 3) := by decide +kernel
theorem dX2_passHour_72 : decode cX2_passHour 72 = .ok (.return_, 1) := by decide +kernel
theorem dX2_expireCopies_0 : decode cX2_expireCopies 0 = .ok (.iconst 0, 1) := by decide +kernel
theorem dX2_expireCopies_1 : decode cX2_expireCopies 1 = .ok (.istore_n 1, 1) := by decide +kernel
theorem dX2_expireCopies_2 : decode cX2_expireCopies 2 = .ok (.iload_n 1, 1) := by decide +kernel
theorem dX2_expireCopies_3 : decode cX2_expireCopies 3 = .ok (.aload_n 0, 1) := by decide +kernel
theorem dX2_expireCopies_4 : decode cX2_expireCopies 4 = .ok (.getfield 53, 3) := by decide +kernel
theorem dX2_expireCopies_7 : decode cX2_expireCopies 7 = .ok (.if_icmp .ge 65, 3) := by decide +kernel
theorem dX2_expireCopies_10 : decode cX2_expireCopies 10 = .ok (.aload_n 0, 1) := by decide +kernel
theorem dX2_expireCopies_11 : decode cX2_expireCopies 11 = .ok (.getfield 56, 3) := by decide +kernel
theorem dX2_expireCopies_14 : decode cX2_expireCopies 14 = .ok (.aload_n 0, 1) := by decide +kernel
theorem dX2_expireCopies_15 : decode cX2_expireCopies 15 = .ok (.getfield 23, 3) := by decide +kernel
theorem dX2_expireCopies_18 : decode cX2_expireCopies 18 = .ok (.iload_n 1, 1) := by decide +kernel
theorem dX2_expireCopies_19 : decode cX2_expireCopies 19 = .ok (.iconst 3, 1) := by decide +kernel
theorem dX2_expireCopies_20 : decode cX2_expireCopies 20 = .ok (.invokevirtual 105, 3) := by decide +kernel
theorem dX2_expireCopies_23 : decode cX2_expireCopies 23 = .ok (.isub, 1) := by decide +kernel
theorem dX2_expireCopies_24 : decode cX2_expireCopies 24 = .ok (.aload_n 0, 1) := by decide +kernel
theorem dX2_expireCopies_25 : decode cX2_expireCopies 25 = .ok (.getfield 59, 3) := by decide +kernel
theorem dX2_expireCopies_28 : decode cX2_expireCopies 28 = .ok (.if_icmp .lt 38, 3) := by decide +kernel
theorem dX2_expireCopies_31 : decode cX2_expireCopies 31 = .ok (.iconst 0, 1) := by decide +kernel
theorem dX2_expireCopies_32 : decode cX2_expireCopies 32 = .ok (.istore_n 2, 1) := by decide +kernel
theorem dX2_expireCopies_33 : decode cX2_expireCopies 33 = .ok (.iload_n 2, 1) := by decide +kernel
theorem dX2_expireCopies_34 : decode cX2_expireCopies 34 = .ok (.aload_n 0, 1) := by decide +kernel
theorem dX2_expireCopies_35 : decode cX2_expireCopies 35 = .ok (.getfield 46, 3) := by decide +kernel
theorem dX2_expireCopies_38 : decode cX2_expireCopies 38 = .ok (.if_icmp .ge 28, 3) := by decide +kernel
theorem dX2_expireCopies_41 : decode cX2_expireCopies 41 = .ok (.aload_n 0, 1) := by decide +kernel
theorem dX2_expireCopies_42 : decode cX2_expireCopies 42 = .ok (.iload_n 1, 1) := by decide +kernel
theorem dX2_expireCopies_43 : decode cX2_expireCopies 43 = .ok (.iload_n 2, 1) := by decide +kernel
theorem dX2_expireCopies_44 : decode cX2_expireCopies 44 = .ok (.invokevirtual 167, 3) := by decide +kernel
theorem dX2_expireCopies_47 : decode cX2_expireCopies 47 = .ok (.ifCond .eq 13, 3) := by decide +kernel
theorem dX2_expireCopies_50 : decode cX2_expireCopies 50 = .ok (.aload_n 0, 1) := by decide +kernel
theorem dX2_expireCopies_51 : decode cX2_expireCopies 51 = .ok (.iload_n 1, 1) := by decide +kernel
theorem dX2_expireCopies_52 : decode cX2_expireCopies 52 = .ok (.iload_n 2, 1) := by decide +kernel
theorem dX2_expireCopies_53 : decode cX2_expireCopies 53 = .ok (.iconst (-1), 1) := by decide +kernel
theorem dX2_expireCopies_54 : decode cX2_expireCopies 54 = .ok (.iconst 4, 1) := by decide +kernel
theorem dX2_expireCopies_55 : decode cX2_expireCopies 55 = .ok (.bipush 7, 2) := by decide +kernel
theorem dX2_expireCopies_57 : decode cX2_expireCopies 57 = .ok (.invokevirtual 170, 3) := by decide +kernel
theorem dX2_expireCopies_60 : decode cX2_expireCopies 60 = .ok (.iinc 2 1, 3) := by decide +kernel
theorem dX2_expireCopies_63 : decode cX2_expireCopies 63 = .ok (.goto (-30), 3) := by decide +kernel
theorem dX2_expireCopies_66 : decode cX2_expireCopies 66 = .ok (.iinc 1 1, 3) := by decide +kernel
theorem dX2_expireCopies_69 : decode cX2_expireCopies 69 = .ok (.goto (-67), 3) := by decide +kernel
theorem dX2_expireCopies_72 : decode cX2_expireCopies 72 = .ok (.return_, 1) := by decide +kernel
theorem dX2_lineUp_0 : decode cX2_lineUp 0 = .ok (.aload_n 0, 1) := by decide +kernel
theorem dX2_lineUp_1 : decode cX2_lineUp 1 = .ok (.iload_n 1, 1) := by decide +kernel
theorem dX2_lineUp_2 : decode cX2_lineUp 2 = .ok (.aload_n 0, 1) := by decide +kernel
theorem dX2_lineUp_3 : decode cX2_lineUp 3 = .ok (.invokevirtual 118, 3) := by decide +kernel
theorem dX2_lineUp_6 : decode cX2_lineUp 6 = .ok (.invokevirtual 121, 3) := by decide +kernel
theorem dX2_lineUp_9 : decode cX2_lineUp 9 = .ok (.ifCond .ne 5, 3) := by decide +kernel
theorem dX2_lineUp_12 : decode cX2_lineUp 12 = .ok (.iconst 0, 1) := by decide +kernel
theorem dX2_lineUp_13 : decode cX2_lineUp 13 = .ok (.ireturn, 1) := by decide +kernel
theorem dX2_lineUp_14 : decode cX2_lineUp 14 = .ok (.aload_n 0, 1) := by decide +kernel
theorem dX2_lineUp_15 : decode cX2_lineUp 15 = .ok (.getfield 14, 3) := by decide +kernel
theorem dX2_lineUp_18 : decode cX2_lineUp 18 = .ok (.iload_n 1, 1) := by decide +kernel
theorem dX2_lineUp_19 : decode cX2_lineUp 19 = .ok (.iconst 2, 1) := by decide +kernel
theorem dX2_lineUp_20 : decode cX2_lineUp 20 = .ok (.invokevirtual 105, 3) := by decide +kernel
theorem dX2_lineUp_23 : decode cX2_lineUp 23 = .ok (.istore_n 2, 1) := by decide +kernel
theorem dX2_lineUp_24 : decode cX2_lineUp 24 = .ok (.iconst 0, 1) := by decide +kernel
theorem dX2_lineUp_25 : decode cX2_lineUp 25 = .ok (.istore_n 3, 1) := by decide +kernel
theorem dX2_lineUp_26 : decode cX2_lineUp 26 = .ok (.iconst 3, 1) := by decide +kernel
theorem dX2_lineUp_27 : decode cX2_lineUp 27 = .ok (.istore 4, 2) := by decide +kernel
theorem dX2_lineUp_29 : decode cX2_lineUp 29 = .ok (.iload 4, 2) := by decide +kernel
theorem dX2_lineUp_31 : decode cX2_lineUp 31 = .ok (.ifCond .lt 91, 3) := by decide +kernel
theorem dX2_lineUp_34 : decode cX2_lineUp 34 = .ok (.iconst 0, 1) := by decide +kernel
theorem dX2_lineUp_35 : decode cX2_lineUp 35 = .ok (.istore 5, 2) := by decide +kernel
theorem dX2_lineUp_37 : decode cX2_lineUp 37 = .ok (.iload 5, 2) := by decide +kernel
theorem dX2_lineUp_39 : decode cX2_lineUp 39 = .ok (.aload_n 0, 1) := by decide +kernel
theorem dX2_lineUp_40 : decode cX2_lineUp 40 = .ok (.getfield 53, 3) := by decide +kernel
theorem dX2_lineUp_43 : decode cX2_lineUp 43 = .ok (.if_icmp .ge 73, 3) := by decide +kernel
theorem dX2_lineUp_46 : decode cX2_lineUp 46 = .ok (.iload_n 3, 1) := by decide +kernel
theorem dX2_lineUp_47 : decode cX2_lineUp 47 = .ok (.iload_n 2, 1) := by decide +kernel
theorem dX2_lineUp_48 : decode cX2_lineUp 48 = .ok (.if_icmp .ge 68, 3) := by decide +kernel
theorem dX2_lineUp_51 : decode cX2_lineUp 51 = .ok (.aload_n 0, 1) := by decide +kernel
theorem dX2_lineUp_52 : decode cX2_lineUp 52 = .ok (.getfield 23, 3) := by decide +kernel
theorem dX2_lineUp_55 : decode cX2_lineUp 55 = .ok (.iload 5, 2) := by decide +kernel
theorem dX2_lineUp_57 : decode cX2_lineUp 57 = .ok (.iconst 2, 1) := by decide +kernel
theorem dX2_lineUp_58 : decode cX2_lineUp 58 = .ok (.invokevirtual 105, 3) := by decide +kernel
theorem dX2_lineUp_61 : decode cX2_lineUp 61 = .ok (.iload 4, 2) := by decide +kernel
theorem dX2_lineUp_63 : decode cX2_lineUp 63 = .ok (.if_icmp .ne 13, 3) := by decide +kernel
theorem dX2_lineUp_66 : decode cX2_lineUp 66 = .ok (.aload_n 0, 1) := by decide +kernel
theorem dX2_lineUp_67 : decode cX2_lineUp 67 = .ok (.iload 5, 2) := by decide +kernel
theorem dX2_lineUp_69 : decode cX2_lineUp 69 = .ok (.iload_n 1, 1) := by decide +kernel
theorem dX2_lineUp_70 : decode cX2_lineUp 70 = .ok (.invokevirtual 161, 3) := by decide +kernel
theorem dX2_lineUp_73 : decode cX2_lineUp 73 = .ok (.goto 4, 3) := by decide +kernel
theorem dX2_lineUp_76 : decode cX2_lineUp 76 = .ok (.iconst (-1), 1) := by decide +kernel
theorem dX2_lineUp_77 : decode cX2_lineUp 77 = .ok (.istore 6, 2) := by decide +kernel
theorem dX2_lineUp_79 : decode cX2_lineUp 79 = .ok (.iload 6, 2) := by decide +kernel
theorem dX2_lineUp_81 : decode cX2_lineUp 81 = .ok (.iconst (-1), 1) := by decide +kernel
theorem dX2_lineUp_82 : decode cX2_lineUp 82 = .ok (.if_icmp .eq 28, 3) := by decide +kernel
theorem dX2_lineUp_85 : decode cX2_lineUp 85 = .ok (.aload_n 0, 1) := by decide +kernel
theorem dX2_lineUp_86 : decode cX2_lineUp 86 = .ok (.getfield 43, 3) := by decide +kernel
theorem dX2_lineUp_89 : decode cX2_lineUp 89 = .ok (.iload_n 3, 1) := by decide +kernel
theorem dX2_lineUp_90 : decode cX2_lineUp 90 = .ok (.iconst 0, 1) := by decide +kernel
theorem dX2_lineUp_91 : decode cX2_lineUp 91 = .ok (.iload 5, 2) := by decide +kernel
theorem dX2_lineUp_93 : decode cX2_lineUp 93 = .ok (.invokevirtual 91, 3) := by decide +kernel
theorem dX2_lineUp_96 : decode cX2_lineUp 96 = .ok (.aload_n 0, 1) := by decide +kernel
theorem dX2_lineUp_97 : decode cX2_lineUp 97 = .ok (.getfield 43, 3) := by decide +kernel
theorem dX2_lineUp_100 : decode cX2_lineUp 100 = .ok (.iload_n 3, 1) := by decide +kernel
theorem dX2_lineUp_101 : decode cX2_lineUp 101 = .ok (.iconst 1, 1) := by decide +kernel
theorem dX2_lineUp_102 : decode cX2_lineUp 102 = .ok (.iload 6, 2) := by decide +kernel
theorem dX2_lineUp_104 : decode cX2_lineUp 104 = .ok (.invokevirtual 91, 3) := by decide +kernel
theorem dX2_lineUp_107 : decode cX2_lineUp 107 = .ok (.iinc 3 1, 3) := by decide +kernel
theorem dX2_lineUp_110 : decode cX2_lineUp 110 = .ok (.iinc 5 1, 3) := by decide +kernel
theorem dX2_lineUp_113 : decode cX2_lineUp 113 = .ok (.goto (-76), 3) := by decide +kernel
theorem dX2_lineUp_116 : decode cX2_lineUp 116 = .ok (.iinc 4 (-1), 3) := by decide +kernel
theorem dX2_lineUp_119 : decode cX2_lineUp 119 = .ok (.goto (-90), 3) := by decide +kernel
theorem dX2_lineUp_122 : decode cX2_lineUp 122 = .ok (.iload_n 3, 1) := by decide +kernel
theorem dX2_lineUp_123 : decode cX2_lineUp 123 = .ok (.ireturn, 1) := by decide +kernel
theorem dX2_nextOf_0 : decode cX2_nextOf 0 = .ok (.iload_n 1, 1) := by decide +kernel
theorem dX2_nextOf_1 : decode cX2_nextOf 1 = .ok (.iload_n 2, 1) := by decide +kernel
theorem dX2_nextOf_2 : decode cX2_nextOf 2 = .ok (.invokestatic 98, 3) := by decide +kernel
theorem dX2_nextOf_5 : decode cX2_nextOf 5 = .ok (.istore_n 3, 1) := by decide +kernel
theorem dX2_nextOf_6 : decode cX2_nextOf 6 = .ok (.aload_n 0, 1) := by decide +kernel
theorem dX2_nextOf_7 : decode cX2_nextOf 7 = .ok (.getfield 26, 3) := by decide +kernel
theorem dX2_nextOf_10 : decode cX2_nextOf 10 = .ok (.iload_n 3, 1) := by decide +kernel
theorem dX2_nextOf_11 : decode cX2_nextOf 11 = .ok (.iconst 0, 1) := by decide +kernel
theorem dX2_nextOf_12 : decode cX2_nextOf 12 = .ok (.invokevirtual 105, 3) := by decide +kernel
theorem dX2_nextOf_15 : decode cX2_nextOf 15 = .ok (.iconst 1, 1) := by decide +kernel
theorem dX2_nextOf_16 : decode cX2_nextOf 16 = .ok (.if_icmp .ne 19, 3) := by decide +kernel
theorem dX2_nextOf_19 : decode cX2_nextOf 19 = .ok (.aload_n 0, 1) := by decide +kernel
theorem dX2_nextOf_20 : decode cX2_nextOf 20 = .ok (.getfield 26, 3) := by decide +kernel
theorem dX2_nextOf_23 : decode cX2_nextOf 23 = .ok (.iload_n 3, 1) := by decide +kernel
theorem dX2_nextOf_24 : decode cX2_nextOf 24 = .ok (.iconst 2, 1) := by decide +kernel
theorem dX2_nextOf_25 : decode cX2_nextOf 25 = .ok (.invokevirtual 105, 3) := by decide +kernel
theorem dX2_nextOf_28 : decode cX2_nextOf 28 = .ok (.aload_n 0, 1) := by decide +kernel
theorem dX2_nextOf_29 : decode cX2_nextOf 29 = .ok (.getfield 56, 3) := by decide +kernel
theorem dX2_nextOf_32 : decode cX2_nextOf 32 = .ok (.if_icmp .le 5, 3) := by decide +kernel
theorem dX2_nextOf_35 : decode cX2_nextOf 35 = .ok (.iconst (-1), 1) := by decide +kernel
theorem dX2_nextOf_36 : decode cX2_nextOf 36 = .ok (.ireturn, 1) := by decide +kernel
theorem dX2_nextOf_37 : decode cX2_nextOf 37 = .ok (.aload_n 0, 1) := by decide +kernel
theorem dX2_nextOf_38 : decode cX2_nextOf 38 = .ok (.iload_n 3, 1) := by decide +kernel
theorem dX2_nextOf_39 : decode cX2_nextOf 39 = .ok (.invokevirtual 179, 3) := by decide +kernel
theorem dX2_nextOf_42 : decode cX2_nextOf 42 = .ok (.istore 4, 2) := by decide +kernel
theorem dX2_nextOf_44 : decode cX2_nextOf 44 = .ok (.aload_n 0, 1) := by decide +kernel
theorem dX2_nextOf_45 : decode cX2_nextOf 45 = .ok (.getfield 39, 3) := by decide +kernel
theorem dX2_nextOf_48 : decode cX2_nextOf 48 = .ok (.iload_n 2, 1) := by decide +kernel
theorem dX2_nextOf_49 : decode cX2_nextOf 49 = .ok (.aload_n 0, 1) := by decide +kernel
theorem dX2_nextOf_50 : decode cX2_nextOf 50 = .ok (.getfield 56, 3) := by decide +kernel
theorem dX2_nextOf_53 : decode cX2_nextOf 53 = .ok (.iload 4, 2) := by decide +kernel
theorem dX2_nextOf_55 : decode cX2_nextOf 55 = .ok (.invokevirtual 182, 3) := by decide +kernel
theorem dX2_nextOf_58 : decode cX2_nextOf 58 = .ok (.ifCond .ne 5, 3) := by decide +kernel
theorem dX2_nextOf_61 : decode cX2_nextOf 61 = .ok (.iconst (-1), 1) := by decide +kernel
theorem dX2_nextOf_62 : decode cX2_nextOf 62 = .ok (.ireturn, 1) := by decide +kernel
theorem dX2_nextOf_63 : decode cX2_nextOf 63 = .ok (.aload_n 0, 1) := by decide +kernel
theorem dX2_nextOf_64 : decode cX2_nextOf 64 = .ok (.getfield 39, 3) := by decide +kernel
theorem dX2_nextOf_67 : decode cX2_nextOf 67 = .ok (.iload_n 2, 1) := by decide +kernel
theorem dX2_nextOf_68 : decode cX2_nextOf 68 = .ok (.aload_n 0, 1) := by decide +kernel
theorem dX2_nextOf_69 : decode cX2_nextOf 69 = .ok (.getfield 23, 3) := by decide +kernel
theorem dX2_nextOf_72 : decode cX2_nextOf 72 = .ok (.iload_n 1, 1) := by decide +kernel
theorem dX2_nextOf_73 : decode cX2_nextOf 73 = .ok (.iconst 1, 1) := by decide +kernel
theorem dX2_nextOf_74 : decode cX2_nextOf 74 = .ok (.invokevirtual 105, 3) := by decide +kernel
theorem dX2_nextOf_77 : decode cX2_nextOf 77 = .ok (.aload_n 0, 1) := by decide +kernel
theorem dX2_nextOf_78 : decode cX2_nextOf 78 = .ok (.getfield 56, 3) := by decide +kernel
theorem dX2_nextOf_81 : decode cX2_nextOf 81 = .ok (.iload 4, 2) := by decide +kernel
theorem dX2_nextOf_83 : decode cX2_nextOf 83 = .ok (.invokevirtual 141, 3) := by decide +kernel
theorem dX2_nextOf_86 : decode cX2_nextOf 86 = .ok (.ifCond .eq 13, 3) := by decide +kernel
theorem dX2_nextOf_89 : decode cX2_nextOf 89 = .ok (.aload_n 0, 1) := by decide +kernel
theorem dX2_nextOf_90 : decode cX2_nextOf 90 = .ok (.getfield 39, 3) := by decide +kernel
theorem dX2_nextOf_93 : decode cX2_nextOf 93 = .ok (.invokevirtual 151, 3) := by decide +kernel
theorem dX2_nextOf_96 : decode cX2_nextOf 96 = .ok (.goto 4, 3) := by decide +kernel
theorem dX2_nextOf_99 : decode cX2_nextOf 99 = .ok (.iconst (-1), 1) := by decide +kernel
theorem dX2_nextOf_100 : decode cX2_nextOf 100 = .ok (.ireturn, 1) := by decide +kernel
theorem dX2_sendFrame_0 : decode cX2_sendFrame 0 = .ok (.aload_n 0, 1) := by decide +kernel
theorem dX2_sendFrame_1 : decode cX2_sendFrame 1 = .ok (.iload_n 2, 1) := by decide +kernel
theorem dX2_sendFrame_2 : decode cX2_sendFrame 2 = .ok (.iload_n 3, 1) := by decide +kernel
theorem dX2_sendFrame_3 : decode cX2_sendFrame 3 = .ok (.invokevirtual 186, 3) := by decide +kernel
theorem dX2_sendFrame_6 : decode cX2_sendFrame 6 = .ok (.istore 4, 2) := by decide +kernel
theorem dX2_sendFrame_8 : decode cX2_sendFrame 8 = .ok (.aload_n 0, 1) := by decide +kernel
theorem dX2_sendFrame_9 : decode cX2_sendFrame 9 = .ok (.getfield 20, 3) := by decide +kernel
theorem dX2_sendFrame_12 : decode cX2_sendFrame 12 = .ok (.iload 4, 2) := by decide +kernel
theorem dX2_sendFrame_14 : decode cX2_sendFrame 14 = .ok (.iconst 4, 1) := by decide +kernel
theorem dX2_sendFrame_15 : decode cX2_sendFrame 15 = .ok (.invokevirtual 105, 3) := by decide +kernel
theorem dX2_sendFrame_18 : decode cX2_sendFrame 18 = .ok (.istore 5, 2) := by decide +kernel
theorem dX2_sendFrame_20 : decode cX2_sendFrame 20 = .ok (.aload_n 0, 1) := by decide +kernel
theorem dX2_sendFrame_21 : decode cX2_sendFrame 21 = .ok (.getfield 14, 3) := by decide +kernel
theorem dX2_sendFrame_24 : decode cX2_sendFrame 24 = .ok (.iload_n 2, 1) := by decide +kernel
theorem dX2_sendFrame_25 : decode cX2_sendFrame 25 = .ok (.iconst 5, 1) := by decide +kernel
theorem dX2_sendFrame_26 : decode cX2_sendFrame 26 = .ok (.iconst 1, 1) := by decide +kernel
theorem dX2_sendFrame_27 : decode cX2_sendFrame 27 = .ok (.invokevirtual 189, 3) := by decide +kernel
theorem dX2_sendFrame_30 : decode cX2_sendFrame 30 = .ok (.aload_n 0, 1) := by decide +kernel
theorem dX2_sendFrame_31 : decode cX2_sendFrame 31 = .ok (.getfield 20, 3) := by decide +kernel
theorem dX2_sendFrame_34 : decode cX2_sendFrame 34 = .ok (.iload 4, 2) := by decide +kernel
theorem dX2_sendFrame_36 : decode cX2_sendFrame 36 = .ok (.bipush 6, 2) := by decide +kernel
theorem dX2_sendFrame_38 : decode cX2_sendFrame 38 = .ok (.iconst 1, 1) := by decide +kernel
theorem dX2_sendFrame_39 : decode cX2_sendFrame 39 = .ok (.invokevirtual 189, 3) := by decide +kernel
theorem dX2_sendFrame_42 : decode cX2_sendFrame 42 = .ok (.aload_n 0, 1) := by decide +kernel
theorem dX2_sendFrame_43 : decode cX2_sendFrame 43 = .ok (.getfield 23, 3) := by decide +kernel
theorem dX2_sendFrame_46 : decode cX2_sendFrame 46 = .ok (.iload_n 1, 1) := by decide +kernel
theorem dX2_sendFrame_47 : decode cX2_sendFrame 47 = .ok (.bipush 7, 2) := by decide +kernel
theorem dX2_sendFrame_49 : decode cX2_sendFrame 49 = .ok (.iconst 1, 1) := by decide +kernel
theorem dX2_sendFrame_50 : decode cX2_sendFrame 50 = .ok (.invokevirtual 189, 3) := by decide +kernel
theorem dX2_sendFrame_53 : decode cX2_sendFrame 53 = .ok (.aload_n 0, 1) := by decide +kernel
theorem dX2_sendFrame_54 : decode cX2_sendFrame 54 = .ok (.invokevirtual 191, 3) := by decide +kernel
theorem dX2_sendFrame_57 : decode cX2_sendFrame 57 = .ok (.iload 5, 2) := by decide +kernel
theorem dX2_sendFrame_59 : decode cX2_sendFrame 59 = .ok (.if_icmp .lt 38, 3) := by decide +kernel
theorem dX2_sendFrame_62 : decode cX2_sendFrame 62 = .ok (.aload_n 0, 1) := by decide +kernel
theorem dX2_sendFrame_63 : decode cX2_sendFrame 63 = .ok (.getfield 20, 3) := by decide +kernel
theorem dX2_sendFrame_66 : decode cX2_sendFrame 66 = .ok (.iload 4, 2) := by decide +kernel
theorem dX2_sendFrame_68 : decode cX2_sendFrame 68 = .ok (.bipush 7, 2) := by decide +kernel
theorem dX2_sendFrame_70 : decode cX2_sendFrame 70 = .ok (.iconst 1, 1) := by decide +kernel
theorem dX2_sendFrame_71 : decode cX2_sendFrame 71 = .ok (.invokevirtual 189, 3) := by decide +kernel
theorem dX2_sendFrame_74 : decode cX2_sendFrame 74 = .ok (.aload_n 0, 1) := by decide +kernel
theorem dX2_sendFrame_75 : decode cX2_sendFrame 75 = .ok (.getfield 32, 3) := by decide +kernel
theorem dX2_sendFrame_78 : decode cX2_sendFrame 78 = .ok (.aload_n 0, 1) := by decide +kernel
theorem dX2_sendFrame_79 : decode cX2_sendFrame 79 = .ok (.getfield 56, 3) := by decide +kernel
theorem dX2_sendFrame_82 : decode cX2_sendFrame 82 = .ok (.iconst 2, 1) := by decide +kernel
theorem dX2_sendFrame_83 : decode cX2_sendFrame 83 = .ok (.iload_n 1, 1) := by decide +kernel
theorem dX2_sendFrame_84 : decode cX2_sendFrame 84 = .ok (.iload_n 2, 1) := by decide +kernel
theorem dX2_sendFrame_85 : decode cX2_sendFrame 85 = .ok (.iload_n 3, 1) := by decide +kernel
theorem dX2_sendFrame_86 : decode cX2_sendFrame 86 = .ok (.invokevirtual 101, 3) := by decide +kernel
theorem dX2_sendFrame_89 : decode cX2_sendFrame 89 = .ok (.aload_n 0, 1) := by decide +kernel
theorem dX2_sendFrame_90 : decode cX2_sendFrame 90 = .ok (.iload_n 1, 1) := by decide +kernel
theorem dX2_sendFrame_91 : decode cX2_sendFrame 91 = .ok (.iload_n 2, 1) := by decide +kernel
theorem dX2_sendFrame_92 : decode cX2_sendFrame 92 = .ok (.iload_n 3, 1) := by decide +kernel
theorem dX2_sendFrame_93 : decode cX2_sendFrame 93 = .ok (.invokevirtual 194, 3) := by decide +kernel
theorem dX2_sendFrame_96 : decode cX2_sendFrame 96 = .ok (.return_, 1) := by decide +kernel
theorem dX2_sendFrame_97 : decode cX2_sendFrame 97 = .ok (.aload_n 0, 1) := by decide +kernel
theorem dX2_sendFrame_98 : decode cX2_sendFrame 98 = .ok (.iload_n 1, 1) := by decide +kernel
theorem dX2_sendFrame_99 : decode cX2_sendFrame 99 = .ok (.iload_n 2, 1) := by decide +kernel
theorem dX2_sendFrame_100 : decode cX2_sendFrame 100 = .ok (.iload_n 3, 1) := by decide +kernel
theorem dX2_sendFrame_101 : decode cX2_sendFrame 101 = .ok (.invokevirtual 197, 3) := by decide +kernel
theorem dX2_sendFrame_104 : decode cX2_sendFrame 104 = .ok (.aload_n 0, 1) := by decide +kernel
theorem dX2_sendFrame_105 : decode cX2_sendFrame 105 = .ok (.invokevirtual 191, 3) := by decide +kernel
theorem dX2_sendFrame_108 : decode cX2_sendFrame 108 = .ok (.iload 5, 2) := by decide +kernel
theorem dX2_sendFrame_110 : decode cX2_sendFrame 110 = .ok (.if_icmp .lt 38, 3) := by decide +kernel
theorem dX2_sendFrame_113 : decode cX2_sendFrame 113 = .ok (.aload_n 0, 1) := by decide +kernel
theorem dX2_sendFrame_114 : decode cX2_sendFrame 114 = .ok (.getfield 20, 3) := by decide +kernel
theorem dX2_sendFrame_117 : decode cX2_sendFrame 117 = .ok (.iload 4, 2) := by decide +kernel
theorem dX2_sendFrame_119 : decode cX2_sendFrame 119 = .ok (.bipush 8, 2) := by decide +kernel
theorem dX2_sendFrame_121 : decode cX2_sendFrame 121 = .ok (.iconst 1, 1) := by decide +kernel
theorem dX2_sendFrame_122 : decode cX2_sendFrame 122 = .ok (.invokevirtual 189, 3) := by decide +kernel
theorem dX2_sendFrame_125 : decode cX2_sendFrame 125 = .ok (.aload_n 0, 1) := by decide +kernel
theorem dX2_sendFrame_126 : decode cX2_sendFrame 126 = .ok (.getfield 32, 3) := by decide +kernel
theorem dX2_sendFrame_129 : decode cX2_sendFrame 129 = .ok (.aload_n 0, 1) := by decide +kernel
theorem dX2_sendFrame_130 : decode cX2_sendFrame 130 = .ok (.getfield 56, 3) := by decide +kernel
theorem dX2_sendFrame_133 : decode cX2_sendFrame 133 = .ok (.iconst 3, 1) := by decide +kernel
theorem dX2_sendFrame_134 : decode cX2_sendFrame 134 = .ok (.iload_n 1, 1) := by decide +kernel
theorem dX2_sendFrame_135 : decode cX2_sendFrame 135 = .ok (.iload_n 2, 1) := by decide +kernel
theorem dX2_sendFrame_136 : decode cX2_sendFrame 136 = .ok (.iload_n 3, 1) := by decide +kernel
theorem dX2_sendFrame_137 : decode cX2_sendFrame 137 = .ok (.invokevirtual 101, 3) := by decide +kernel
theorem dX2_sendFrame_140 : decode cX2_sendFrame 140 = .ok (.aload_n 0, 1) := by decide +kernel
theorem dX2_sendFrame_141 : decode cX2_sendFrame 141 = .ok (.iload_n 1, 1) := by decide +kernel
theorem dX2_sendFrame_142 : decode cX2_sendFrame 142 = .ok (.iload_n 2, 1) := by decide +kernel
theorem dX2_sendFrame_143 : decode cX2_sendFrame 143 = .ok (.iload_n 3, 1) := by decide +kernel
theorem dX2_sendFrame_144 : decode cX2_sendFrame 144 = .ok (.invokevirtual 194, 3) := by decide +kernel
theorem dX2_sendFrame_147 : decode cX2_sendFrame 147 = .ok (.return_, 1) := by decide +kernel
theorem dX2_sendFrame_148 : decode cX2_sendFrame 148 = .ok (.aload_n 0, 1) := by decide +kernel
theorem dX2_sendFrame_149 : decode cX2_sendFrame 149 = .ok (.getfield 26, 3) := by decide +kernel
theorem dX2_sendFrame_152 : decode cX2_sendFrame 152 = .ok (.iload_n 1, 1) := by decide +kernel
theorem dX2_sendFrame_153 : decode cX2_sendFrame 153 = .ok (.iload_n 2, 1) := by decide +kernel
theorem dX2_sendFrame_154 : decode cX2_sendFrame 154 = .ok (.invokestatic 98, 3) := by decide +kernel
theorem dX2_sendFrame_157 : decode cX2_sendFrame 157 = .ok (.iconst 0, 1) := by decide +kernel
theorem dX2_sendFrame_158 : decode cX2_sendFrame 158 = .ok (.iconst 2, 1) := by decide +kernel
theorem dX2_sendFrame_159 : decode cX2_sendFrame 159 = .ok (.invokevirtual 91, 3) := by decide +kernel
theorem dX2_sendFrame_162 : decode cX2_sendFrame 162 = .ok (.aload_n 0, 1) := by decide +kernel
theorem dX2_sendFrame_163 : decode cX2_sendFrame 163 = .ok (.getfield 32, 3) := by decide +kernel
theorem dX2_sendFrame_166 : decode cX2_sendFrame 166 = .ok (.aload_n 0, 1) := by decide +kernel
theorem dX2_sendFrame_167 : decode cX2_sendFrame 167 = .ok (.getfield 56, 3) := by decide +kernel
theorem dX2_sendFrame_170 : decode cX2_sendFrame 170 = .ok (.iconst 1, 1) := by decide +kernel
theorem dX2_sendFrame_171 : decode cX2_sendFrame 171 = .ok (.iload_n 1, 1) := by decide +kernel
theorem dX2_sendFrame_172 : decode cX2_sendFrame 172 = .ok (.iload_n 2, 1) := by decide +kernel
theorem dX2_sendFrame_173 : decode cX2_sendFrame 173 = .ok (.iload_n 3, 1) := by decide +kernel
theorem dX2_sendFrame_174 : decode cX2_sendFrame 174 = .ok (.invokevirtual 101, 3) := by decide +kernel
theorem dX2_sendFrame_177 : decode cX2_sendFrame 177 = .ok (.return_, 1) := by decide +kernel
theorem dX2_takeFrame_0 : decode cX2_takeFrame 0 = .ok (.aload_n 0, 1) := by decide +kernel
theorem dX2_takeFrame_1 : decode cX2_takeFrame 1 = .ok (.getfield 14, 3) := by decide +kernel
theorem dX2_takeFrame_4 : decode cX2_takeFrame 4 = .ok (.iload_n 3, 1) := by decide +kernel
theorem dX2_takeFrame_5 : decode cX2_takeFrame 5 = .ok (.bipush 6, 2) := by decide +kernel
theorem dX2_takeFrame_7 : decode cX2_takeFrame 7 = .ok (.iconst 1, 1) := by decide +kernel
theorem dX2_takeFrame_8 : decode cX2_takeFrame 8 = .ok (.invokevirtual 189, 3) := by decide +kernel
theorem dX2_takeFrame_11 : decode cX2_takeFrame 11 = .ok (.iload_n 1, 1) := by decide +kernel
theorem dX2_takeFrame_12 : decode cX2_takeFrame 12 = .ok (.iload_n 3, 1) := by decide +kernel
theorem dX2_takeFrame_13 : decode cX2_takeFrame 13 = .ok (.invokestatic 98, 3) := by decide +kernel
theorem dX2_takeFrame_16 : decode cX2_takeFrame 16 = .ok (.istore 4, 2) := by decide +kernel
theorem dX2_takeFrame_18 : decode cX2_takeFrame 18 = .ok (.aload_n 0, 1) := by decide +kernel
theorem dX2_takeFrame_19 : decode cX2_takeFrame 19 = .ok (.getfield 26, 3) := by decide +kernel
theorem dX2_takeFrame_22 : decode cX2_takeFrame 22 = .ok (.iload 4, 2) := by decide +kernel
theorem dX2_takeFrame_24 : decode cX2_takeFrame 24 = .ok (.iconst 0, 1) := by decide +kernel
theorem dX2_takeFrame_25 : decode cX2_takeFrame 25 = .ok (.invokevirtual 105, 3) := by decide +kernel
theorem dX2_takeFrame_28 : decode cX2_takeFrame 28 = .ok (.ifCond .eq 41, 3) := by decide +kernel
theorem dX2_takeFrame_31 : decode cX2_takeFrame 31 = .ok (.aload_n 0, 1) := by decide +kernel
theorem dX2_takeFrame_32 : decode cX2_takeFrame 32 = .ok (.getfield 14, 3) := by decide +kernel
theorem dX2_takeFrame_35 : decode cX2_takeFrame 35 = .ok (.iload_n 3, 1) := by decide +kernel
theorem dX2_takeFrame_36 : decode cX2_takeFrame 36 = .ok (.bipush 7, 2) := by decide +kernel
theorem dX2_takeFrame_38 : decode cX2_takeFrame 38 = .ok (.iconst 1, 1) := by decide +kernel
theorem dX2_takeFrame_39 : decode cX2_takeFrame 39 = .ok (.invokevirtual 189, 3) := by decide +kernel
theorem dX2_takeFrame_42 : decode cX2_takeFrame 42 = .ok (.aload_n 0, 1) := by decide +kernel
theorem dX2_takeFrame_43 : decode cX2_takeFrame 43 = .ok (.getfield 23, 3) := by decide +kernel
theorem dX2_takeFrame_46 : decode cX2_takeFrame 46 = .ok (.iload_n 1, 1) := by decide +kernel
theorem dX2_takeFrame_47 : decode cX2_takeFrame 47 = .ok (.bipush 8, 2) := by decide +kernel
theorem dX2_takeFrame_49 : decode cX2_takeFrame 49 = .ok (.iconst 1, 1) := by decide +kernel
theorem dX2_takeFrame_50 : decode cX2_takeFrame 50 = .ok (.invokevirtual 189, 3) := by decide +kernel
theorem dX2_takeFrame_53 : decode cX2_takeFrame 53 = .ok (.aload_n 0, 1) := by decide +kernel
theorem dX2_takeFrame_54 : decode cX2_takeFrame 54 = .ok (.getfield 32, 3) := by decide +kernel
theorem dX2_takeFrame_57 : decode cX2_takeFrame 57 = .ok (.aload_n 0, 1) := by decide +kernel
theorem dX2_takeFrame_58 : decode cX2_takeFrame 58 = .ok (.getfield 56, 3) := by decide +kernel
theorem dX2_takeFrame_61 : decode cX2_takeFrame 61 = .ok (.iconst 4, 1) := by decide +kernel
theorem dX2_takeFrame_62 : decode cX2_takeFrame 62 = .ok (.iload_n 1, 1) := by decide +kernel
theorem dX2_takeFrame_63 : decode cX2_takeFrame 63 = .ok (.iload_n 3, 1) := by decide +kernel
theorem dX2_takeFrame_64 : decode cX2_takeFrame 64 = .ok (.iload_n 2, 1) := by decide +kernel
theorem dX2_takeFrame_65 : decode cX2_takeFrame 65 = .ok (.invokevirtual 101, 3) := by decide +kernel
theorem dX2_takeFrame_68 : decode cX2_takeFrame 68 = .ok (.return_, 1) := by decide +kernel
theorem dX2_takeFrame_69 : decode cX2_takeFrame 69 = .ok (.iload_n 1, 1) := by decide +kernel
theorem dX2_takeFrame_70 : decode cX2_takeFrame 70 = .ok (.iload_n 2, 1) := by decide +kernel
theorem dX2_takeFrame_71 : decode cX2_takeFrame 71 = .ok (.invokestatic 98, 3) := by decide +kernel
theorem dX2_takeFrame_74 : decode cX2_takeFrame 74 = .ok (.istore 5, 2) := by decide +kernel
theorem dX2_takeFrame_76 : decode cX2_takeFrame 76 = .ok (.aload_n 0, 1) := by decide +kernel
theorem dX2_takeFrame_77 : decode cX2_takeFrame 77 = .ok (.getfield 26, 3) := by decide +kernel
theorem dX2_takeFrame_80 : decode cX2_takeFrame 80 = .ok (.iload 5, 2) := by decide +kernel
theorem dX2_takeFrame_82 : decode cX2_takeFrame 82 = .ok (.iconst 3, 1) := by decide +kernel
theorem dX2_takeFrame_83 : decode cX2_takeFrame 83 = .ok (.invokevirtual 105, 3) := by decide +kernel
theorem dX2_takeFrame_86 : decode cX2_takeFrame 86 = .ok (.istore 6, 2) := by decide +kernel
theorem dX2_takeFrame_88 : decode cX2_takeFrame 88 = .ok (.aload_n 0, 1) := by decide +kernel
theorem dX2_takeFrame_89 : decode cX2_takeFrame 89 = .ok (.getfield 23, 3) := by decide +kernel
theorem dX2_takeFrame_92 : decode cX2_takeFrame 92 = .ok (.iload_n 1, 1) := by decide +kernel
theorem dX2_takeFrame_93 : decode cX2_takeFrame 93 = .ok (.iconst 1, 1) := by decide +kernel
theorem dX2_takeFrame_94 : decode cX2_takeFrame 94 = .ok (.invokevirtual 105, 3) := by decide +kernel
theorem dX2_takeFrame_97 : decode cX2_takeFrame 97 = .ok (.iload_n 3, 1) := by decide +kernel
theorem dX2_takeFrame_98 : decode cX2_takeFrame 98 = .ok (.if_icmp .ne 7, 3) := by decide +kernel
theorem dX2_takeFrame_101 : decode cX2_takeFrame 101 = .ok (.iconst 1, 1) := by decide +kernel
theorem dX2_takeFrame_102 : decode cX2_takeFrame 102 = .ok (.goto 4, 3) := by decide +kernel
theorem dX2_takeFrame_105 : decode cX2_takeFrame 105 = .ok (.iconst 0, 1) := by decide +kernel
theorem dX2_takeFrame_106 : decode cX2_takeFrame 106 = .ok (.istore 7, 2) := by decide +kernel
theorem dX2_takeFrame_108 : decode cX2_takeFrame 108 = .ok (.aload_n 0, 1) := by decide +kernel
theorem dX2_takeFrame_109 : decode cX2_takeFrame 109 = .ok (.getfield 26, 3) := by decide +kernel
theorem dX2_takeFrame_112 : decode cX2_takeFrame 112 = .ok (.iload 4, 2) := by decide +kernel
theorem dX2_takeFrame_114 : decode cX2_takeFrame 114 = .ok (.iconst 0, 1) := by decide +kernel
theorem dX2_takeFrame_115 : decode cX2_takeFrame 115 = .ok (.iload 7, 2) := by decide +kernel
theorem dX2_takeFrame_117 : decode cX2_takeFrame 117 = .ok (.ifCond .eq 7, 3) := by decide +kernel
theorem dX2_takeFrame_120 : decode cX2_takeFrame 120 = .ok (.iconst 5, 1) := by decide +kernel
theorem dX2_takeFrame_121 : decode cX2_takeFrame 121 = .ok (.goto 4, 3) := by decide +kernel
theorem dX2_takeFrame_124 : decode cX2_takeFrame 124 = .ok (.iconst 1, 1) := by decide +kernel
theorem dX2_takeFrame_125 : decode cX2_takeFrame 125 = .ok (.invokevirtual 91, 3) := by decide +kernel
theorem dX2_takeFrame_128 : decode cX2_takeFrame 128 = .ok (.aload_n 0, 1) := by decide +kernel
theorem dX2_takeFrame_129 : decode cX2_takeFrame 129 = .ok (.getfield 26, 3) := by decide +kernel
theorem dX2_takeFrame_132 : decode cX2_takeFrame 132 = .ok (.iload 4, 2) := by decide +kernel
theorem dX2_takeFrame_134 : decode cX2_takeFrame 134 = .ok (.iconst 1, 1) := by decide +kernel
theorem dX2_takeFrame_135 : decode cX2_takeFrame 135 = .ok (.iconst 0, 1) := by decide +kernel
theorem dX2_takeFrame_136 : decode cX2_takeFrame 136 = .ok (.invokevirtual 91, 3) := by decide +kernel
theorem dX2_takeFrame_139 : decode cX2_takeFrame 139 = .ok (.aload_n 0, 1) := by decide +kernel
theorem dX2_takeFrame_140 : decode cX2_takeFrame 140 = .ok (.getfield 26, 3) := by decide +kernel
theorem dX2_takeFrame_143 : decode cX2_takeFrame 143 = .ok (.iload 4, 2) := by decide +kernel
theorem dX2_takeFrame_145 : decode cX2_takeFrame 145 = .ok (.iconst 2, 1) := by decide +kernel
theorem dX2_takeFrame_146 : decode cX2_takeFrame 146 = .ok (.aload_n 0, 1) := by decide +kernel
theorem dX2_takeFrame_147 : decode cX2_takeFrame 147 = .ok (.getfield 56, 3) := by decide +kernel
theorem dX2_takeFrame_150 : decode cX2_takeFrame 150 = .ok (.iconst 1, 1) := by decide +kernel
theorem dX2_takeFrame_151 : decode cX2_takeFrame 151 = .ok (.iadd, 1) := by decide +kernel
theorem dX2_takeFrame_152 : decode cX2_takeFrame 152 = .ok (.invokevirtual 91, 3) := by decide +kernel
theorem dX2_takeFrame_155 : decode cX2_takeFrame 155 = .ok (.aload_n 0, 1) := by decide +kernel
theorem dX2_takeFrame_156 : decode cX2_takeFrame 156 = .ok (.getfield 26, 3) := by decide +kernel
theorem dX2_takeFrame_159 : decode cX2_takeFrame 159 = .ok (.iload 4, 2) := by decide +kernel
theorem dX2_takeFrame_161 : decode cX2_takeFrame 161 = .ok (.iconst 3, 1) := by decide +kernel
theorem dX2_takeFrame_162 : decode cX2_takeFrame 162 = .ok (.iload 6, 2) := by decide +kernel
theorem dX2_takeFrame_164 : decode cX2_takeFrame 164 = .ok (.iconst 1, 1) := by decide +kernel
theorem dX2_takeFrame_165 : decode cX2_takeFrame 165 = .ok (.iadd, 1) := by decide +kernel
theorem dX2_takeFrame_166 : decode cX2_takeFrame 166 = .ok (.invokevirtual 91, 3) := by decide +kernel
theorem dX2_takeFrame_169 : decode cX2_takeFrame 169 = .ok (.aload_n 0, 1) := by decide +kernel
theorem dX2_takeFrame_170 : decode cX2_takeFrame 170 = .ok (.getfield 26, 3) := by decide +kernel
theorem dX2_takeFrame_173 : decode cX2_takeFrame 173 = .ok (.iload 4, 2) := by decide +kernel
theorem dX2_takeFrame_175 : decode cX2_takeFrame 175 = .ok (.iconst 4, 1) := by decide +kernel
theorem dX2_takeFrame_176 : decode cX2_takeFrame 176 = .ok (.aload_n 0, 1) := by decide +kernel
theorem dX2_takeFrame_177 : decode cX2_takeFrame 177 = .ok (.getfield 26, 3) := by decide +kernel
theorem dX2_takeFrame_180 : decode cX2_takeFrame 180 = .ok (.iload 5, 2) := by decide +kernel
theorem dX2_takeFrame_182 : decode cX2_takeFrame 182 = .ok (.iconst 4, 1) := by decide +kernel
theorem dX2_takeFrame_183 : decode cX2_takeFrame 183 = .ok (.invokevirtual 105, 3) := by decide +kernel
theorem dX2_takeFrame_186 : decode cX2_takeFrame 186 = .ok (.iload_n 3, 1) := by decide +kernel
theorem dX2_takeFrame_187 : decode cX2_takeFrame 187 = .ok (.iload 6, 2) := by decide +kernel
theorem dX2_takeFrame_189 : decode cX2_takeFrame 189 = .ok (.iconst 3, 1) := by decide +kernel
theorem dX2_takeFrame_190 : decode cX2_takeFrame 190 = .ok (.imul, 1) := by decide +kernel
theorem dX2_takeFrame_191 : decode cX2_takeFrame 191 = .ok (.ishl, 1) := by decide +kernel
theorem dX2_takeFrame_192 : decode cX2_takeFrame 192 = .ok (.ior, 1) := by decide +kernel
theorem dX2_takeFrame_193 : decode cX2_takeFrame 193 = .ok (.invokevirtual 91, 3) := by decide +kernel
theorem dX2_takeFrame_196 : decode cX2_takeFrame 196 = .ok (.iload 7, 2) := by decide +kernel
theorem dX2_takeFrame_198 : decode cX2_takeFrame 198 = .ok (.ifCond .eq 56, 3) := by decide +kernel
theorem dX2_takeFrame_201 : decode cX2_takeFrame 201 = .ok (.aload_n 0, 1) := by decide +kernel
theorem dX2_takeFrame_202 : decode cX2_takeFrame 202 = .ok (.getfield 23, 3) := by decide +kernel
theorem dX2_takeFrame_205 : decode cX2_takeFrame 205 = .ok (.iload_n 1, 1) := by decide +kernel
theorem dX2_takeFrame_206 : decode cX2_takeFrame 206 = .ok (.iconst 5, 1) := by decide +kernel
theorem dX2_takeFrame_207 : decode cX2_takeFrame 207 = .ok (.aload_n 0, 1) := by decide +kernel
theorem dX2_takeFrame_208 : decode cX2_takeFrame 208 = .ok (.getfield 56, 3) := by decide +kernel
theorem dX2_takeFrame_211 : decode cX2_takeFrame 211 = .ok (.iconst 1, 1) := by decide +kernel
theorem dX2_takeFrame_212 : decode cX2_takeFrame 212 = .ok (.iadd, 1) := by decide +kernel
theorem dX2_takeFrame_213 : decode cX2_takeFrame 213 = .ok (.invokevirtual 91, 3) := by decide +kernel
theorem dX2_takeFrame_216 : decode cX2_takeFrame 216 = .ok (.aload_n 0, 1) := by decide +kernel
theorem dX2_takeFrame_217 : decode cX2_takeFrame 217 = .ok (.getfield 23, 3) := by decide +kernel
theorem dX2_takeFrame_220 : decode cX2_takeFrame 220 = .ok (.iload_n 1, 1) := by decide +kernel
theorem dX2_takeFrame_221 : decode cX2_takeFrame 221 = .ok (.bipush 6, 2) := by decide +kernel
theorem dX2_takeFrame_223 : decode cX2_takeFrame 223 = .ok (.iload 6, 2) := by decide +kernel
theorem dX2_takeFrame_225 : decode cX2_takeFrame 225 = .ok (.invokevirtual 91, 3) := by decide +kernel
theorem dX2_takeFrame_228 : decode cX2_takeFrame 228 = .ok (.aload_n 0, 1) := by decide +kernel
theorem dX2_takeFrame_229 : decode cX2_takeFrame 229 = .ok (.getfield 14, 3) := by decide +kernel
theorem dX2_takeFrame_232 : decode cX2_takeFrame 232 = .ok (.iload_n 3, 1) := by decide +kernel
theorem dX2_takeFrame_233 : decode cX2_takeFrame 233 = .ok (.bipush 8, 2) := by decide +kernel
theorem dX2_takeFrame_235 : decode cX2_takeFrame 235 = .ok (.iconst 1, 1) := by decide +kernel
theorem dX2_takeFrame_236 : decode cX2_takeFrame 236 = .ok (.invokevirtual 189, 3) := by decide +kernel
theorem dX2_takeFrame_239 : decode cX2_takeFrame 239 = .ok (.aload_n 0, 1) := by decide +kernel
theorem dX2_takeFrame_240 : decode cX2_takeFrame 240 = .ok (.getfield 32, 3) := by decide +kernel
theorem dX2_takeFrame_243 : decode cX2_takeFrame 243 = .ok (.aload_n 0, 1) := by decide +kernel
theorem dX2_takeFrame_244 : decode cX2_takeFrame 244 = .ok (.getfield 56, 3) := by decide +kernel
theorem dX2_takeFrame_247 : decode cX2_takeFrame 247 = .ok (.iconst 5, 1) := by decide +kernel
theorem dX2_takeFrame_248 : decode cX2_takeFrame 248 = .ok (.iload_n 1, 1) := by decide +kernel
theorem dX2_takeFrame_249 : decode cX2_takeFrame 249 = .ok (.iload_n 3, 1) := by decide +kernel
theorem dX2_takeFrame_250 : decode cX2_takeFrame 250 = .ok (.iload_n 2, 1) := by decide +kernel
theorem dX2_takeFrame_251 : decode cX2_takeFrame 251 = .ok (.invokevirtual 101, 3) := by decide +kernel
theorem dX2_takeFrame_254 : decode cX2_takeFrame 254 = .ok (.return_, 1) := by decide +kernel
theorem dX2_addTry_0 : decode cX2_addTry 0 = .ok (.iload_n 1, 1) := by decide +kernel
theorem dX2_addTry_1 : decode cX2_addTry 1 = .ok (.iload_n 2, 1) := by decide +kernel
theorem dX2_addTry_2 : decode cX2_addTry 2 = .ok (.invokestatic 98, 3) := by decide +kernel
theorem dX2_addTry_5 : decode cX2_addTry 5 = .ok (.istore 4, 2) := by decide +kernel
theorem dX2_addTry_7 : decode cX2_addTry 7 = .ok (.aload_n 0, 1) := by decide +kernel
theorem dX2_addTry_8 : decode cX2_addTry 8 = .ok (.getfield 26, 3) := by decide +kernel
theorem dX2_addTry_11 : decode cX2_addTry 11 = .ok (.iload 4, 2) := by decide +kernel
theorem dX2_addTry_13 : decode cX2_addTry 13 = .ok (.iconst 1, 1) := by decide +kernel
theorem dX2_addTry_14 : decode cX2_addTry 14 = .ok (.iconst 1, 1) := by decide +kernel
theorem dX2_addTry_15 : decode cX2_addTry 15 = .ok (.invokevirtual 189, 3) := by decide +kernel
theorem dX2_addTry_18 : decode cX2_addTry 18 = .ok (.aload_n 0, 1) := by decide +kernel
theorem dX2_addTry_19 : decode cX2_addTry 19 = .ok (.getfield 26, 3) := by decide +kernel
theorem dX2_addTry_22 : decode cX2_addTry 22 = .ok (.iload 4, 2) := by decide +kernel
theorem dX2_addTry_24 : decode cX2_addTry 24 = .ok (.iconst 1, 1) := by decide +kernel
theorem dX2_addTry_25 : decode cX2_addTry 25 = .ok (.invokevirtual 105, 3) := by decide +kernel
theorem dX2_addTry_28 : decode cX2_addTry 28 = .ok (.aload_n 0, 1) := by decide +kernel
theorem dX2_addTry_29 : decode cX2_addTry 29 = .ok (.getfield 62, 3) := by decide +kernel
theorem dX2_addTry_32 : decode cX2_addTry 32 = .ok (.if_icmp .lt 13, 3) := by decide +kernel
theorem dX2_addTry_35 : decode cX2_addTry 35 = .ok (.aload_n 0, 1) := by decide +kernel
theorem dX2_addTry_36 : decode cX2_addTry 36 = .ok (.iload_n 1, 1) := by decide +kernel
theorem dX2_addTry_37 : decode cX2_addTry 37 = .ok (.iload_n 2, 1) := by decide +kernel
theorem dX2_addTry_38 : decode cX2_addTry 38 = .ok (.iload_n 3, 1) := by decide +kernel
theorem dX2_addTry_39 : decode cX2_addTry 39 = .ok (.iconst 3, 1) := by decide +kernel
theorem dX2_addTry_40 : decode cX2_addTry 40 = .ok (.bipush 6, 2) := by decide +kernel
theorem dX2_addTry_42 : decode cX2_addTry 42 = .ok (.invokevirtual 170, 3) := by decide +kernel
theorem dX2_addTry_45 : decode cX2_addTry 45 = .ok (.return_, 1) := by decide +kernel
theorem dX2_endCopy_0 : decode cX2_endCopy 0 = .ok (.aload_n 0, 1) := by decide +kernel
theorem dX2_endCopy_1 : decode cX2_endCopy 1 = .ok (.getfield 26, 3) := by decide +kernel
theorem dX2_endCopy_4 : decode cX2_endCopy 4 = .ok (.iload_n 1, 1) := by decide +kernel
theorem dX2_endCopy_5 : decode cX2_endCopy 5 = .ok (.iload_n 2, 1) := by decide +kernel
theorem dX2_endCopy_6 : decode cX2_endCopy 6 = .ok (.invokestatic 98, 3) := by decide +kernel
theorem dX2_endCopy_9 : decode cX2_endCopy 9 = .ok (.iconst 0, 1) := by decide +kernel
theorem dX2_endCopy_10 : decode cX2_endCopy 10 = .ok (.iload 4, 2) := by decide +kernel
theorem dX2_endCopy_12 : decode cX2_endCopy 12 = .ok (.invokevirtual 91, 3) := by decide +kernel
theorem dX2_endCopy_15 : decode cX2_endCopy 15 = .ok (.aload_n 0, 1) := by decide +kernel
theorem dX2_endCopy_16 : decode cX2_endCopy 16 = .ok (.iload_n 1, 1) := by decide +kernel
theorem dX2_endCopy_17 : decode cX2_endCopy 17 = .ok (.iload_n 2, 1) := by decide +kernel
theorem dX2_endCopy_18 : decode cX2_endCopy 18 = .ok (.iload_n 3, 1) := by decide +kernel
theorem dX2_endCopy_19 : decode cX2_endCopy 19 = .ok (.invokevirtual 95, 3) := by decide +kernel
theorem dX2_endCopy_22 : decode cX2_endCopy 22 = .ok (.aload_n 0, 1) := by decide +kernel
theorem dX2_endCopy_23 : decode cX2_endCopy 23 = .ok (.getfield 32, 3) := by decide +kernel
theorem dX2_endCopy_26 : decode cX2_endCopy 26 = .ok (.aload_n 0, 1) := by decide +kernel
theorem dX2_endCopy_27 : decode cX2_endCopy 27 = .ok (.getfield 56, 3) := by decide +kernel
theorem dX2_endCopy_30 : decode cX2_endCopy 30 = .ok (.iload 5, 2) := by decide +kernel
theorem dX2_endCopy_32 : decode cX2_endCopy 32 = .ok (.iload_n 1, 1) := by decide +kernel
theorem dX2_endCopy_33 : decode cX2_endCopy 33 = .ok (.iload_n 2, 1) := by decide +kernel
theorem dX2_endCopy_34 : decode cX2_endCopy 34 = .ok (.iload_n 3, 1) := by decide +kernel
theorem dX2_endCopy_35 : decode cX2_endCopy 35 = .ok (.invokevirtual 101, 3) := by decide +kernel
theorem dX2_endCopy_38 : decode cX2_endCopy 38 = .ok (.return_, 1) := by decide +kernel
theorem dX2_noteEnd_0 : decode cX2_noteEnd 0 = .ok (.aload_n 0, 1) := by decide +kernel
theorem dX2_noteEnd_1 : decode cX2_noteEnd 1 = .ok (.getfield 23, 3) := by decide +kernel
theorem dX2_noteEnd_4 : decode cX2_noteEnd 4 = .ok (.iload_n 1, 1) := by decide +kernel
theorem dX2_noteEnd_5 : decode cX2_noteEnd 5 = .ok (.bipush 10, 2) := by decide +kernel
theorem dX2_noteEnd_7 : decode cX2_noteEnd 7 = .ok (.iload_n 2, 1) := by decide +kernel
theorem dX2_noteEnd_8 : decode cX2_noteEnd 8 = .ok (.invokevirtual 91, 3) := by decide +kernel
theorem dX2_noteEnd_11 : decode cX2_noteEnd 11 = .ok (.aload_n 0, 1) := by decide +kernel
theorem dX2_noteEnd_12 : decode cX2_noteEnd 12 = .ok (.getfield 23, 3) := by decide +kernel
theorem dX2_noteEnd_15 : decode cX2_noteEnd 15 = .ok (.iload_n 1, 1) := by decide +kernel
theorem dX2_noteEnd_16 : decode cX2_noteEnd 16 = .ok (.bipush 11, 2) := by decide +kernel
theorem dX2_noteEnd_18 : decode cX2_noteEnd 18 = .ok (.iload_n 3, 1) := by decide +kernel
theorem dX2_noteEnd_19 : decode cX2_noteEnd 19 = .ok (.invokevirtual 91, 3) := by decide +kernel
theorem dX2_noteEnd_22 : decode cX2_noteEnd 22 = .ok (.return_, 1) := by decide +kernel
theorem dX2_draw_0 : decode cX2_draw 0 = .ok (.aload_n 0, 1) := by decide +kernel
theorem dX2_draw_1 : decode cX2_draw 1 = .ok (.sipush 1103, 3) := by decide +kernel
theorem dX2_draw_4 : decode cX2_draw 4 = .ok (.aload_n 0, 1) := by decide +kernel
theorem dX2_draw_5 : decode cX2_draw 5 = .ok (.getfield 65, 3) := by decide +kernel
theorem dX2_draw_8 : decode cX2_draw 8 = .ok (.imul, 1) := by decide +kernel
theorem dX2_draw_9 : decode cX2_draw 9 = .ok (.sipush 12345, 3) := by decide +kernel
theorem dX2_draw_12 : decode cX2_draw 12 = .ok (.iadd, 1) := by decide +kernel
theorem dX2_draw_13 : decode cX2_draw 13 = .ok (.ldc 200, 2) := by decide +kernel
theorem dX2_draw_15 : decode cX2_draw 15 = .ok (.irem, 1) := by decide +kernel
theorem dX2_draw_16 : decode cX2_draw 16 = .ok (.putfield 65, 3) := by decide +kernel
theorem dX2_draw_19 : decode cX2_draw 19 = .ok (.aload_n 0, 1) := by decide +kernel
theorem dX2_draw_20 : decode cX2_draw 20 = .ok (.getfield 65, 3) := by decide +kernel
theorem dX2_draw_23 : decode cX2_draw 23 = .ok (.bipush 100, 2) := by decide +kernel
theorem dX2_draw_25 : decode cX2_draw 25 = .ok (.irem, 1) := by decide +kernel
theorem dX2_draw_26 : decode cX2_draw 26 = .ok (.ireturn, 1) := by decide +kernel
theorem dX2_hourOfDay_0 : decode cX2_hourOfDay 0 = .ok (.aload_n 0, 1) := by decide +kernel
theorem dX2_hourOfDay_1 : decode cX2_hourOfDay 1 = .ok (.getfield 56, 3) := by decide +kernel
theorem dX2_hourOfDay_4 : decode cX2_hourOfDay 4 = .ok (.bipush 24, 2) := by decide +kernel
theorem dX2_hourOfDay_6 : decode cX2_hourOfDay 6 = .ok (.irem, 1) := by decide +kernel
theorem dX2_hourOfDay_7 : decode cX2_hourOfDay 7 = .ok (.ireturn, 1) := by decide +kernel
theorem dX2_isOnAir_0 : decode cX2_isOnAir 0 = .ok (.aload_n 0, 1) := by decide +kernel
theorem dX2_isOnAir_1 : decode cX2_isOnAir 1 = .ok (.getfield 14, 3) := by decide +kernel
theorem dX2_isOnAir_4 : decode cX2_isOnAir 4 = .ok (.iload_n 1, 1) := by decide +kernel
theorem dX2_isOnAir_5 : decode cX2_isOnAir 5 = .ok (.iconst 0, 1) := by decide +kernel
theorem dX2_isOnAir_6 : decode cX2_isOnAir 6 = .ok (.invokevirtual 105, 3) := by decide +kernel
theorem dX2_isOnAir_9 : decode cX2_isOnAir 9 = .ok (.aload_n 0, 1) := by decide +kernel
theorem dX2_isOnAir_10 : decode cX2_isOnAir 10 = .ok (.getfield 14, 3) := by decide +kernel
theorem dX2_isOnAir_13 : decode cX2_isOnAir 13 = .ok (.iload_n 1, 1) := by decide +kernel
theorem dX2_isOnAir_14 : decode cX2_isOnAir 14 = .ok (.iconst 1, 1) := by decide +kernel
theorem dX2_isOnAir_15 : decode cX2_isOnAir 15 = .ok (.invokevirtual 105, 3) := by decide +kernel
theorem dX2_isOnAir_18 : decode cX2_isOnAir 18 = .ok (.iload_n 2, 1) := by decide +kernel
theorem dX2_isOnAir_19 : decode cX2_isOnAir 19 = .ok (.invokestatic 201, 3) := by decide +kernel
theorem dX2_isOnAir_22 : decode cX2_isOnAir 22 = .ok (.ireturn, 1) := by decide +kernel
theorem dX2_isOpen_0 : decode cX2_isOpen 0 = .ok (.aload_n 0, 1) := by decide +kernel
theorem dX2_isOpen_1 : decode cX2_isOpen 1 = .ok (.getfield 20, 3) := by decide +kernel
theorem dX2_isOpen_4 : decode cX2_isOpen 4 = .ok (.iload_n 1, 1) := by decide +kernel
theorem dX2_isOpen_5 : decode cX2_isOpen 5 = .ok (.iconst 2, 1) := by decide +kernel
theorem dX2_isOpen_6 : decode cX2_isOpen 6 = .ok (.invokevirtual 105, 3) := by decide +kernel
theorem dX2_isOpen_9 : decode cX2_isOpen 9 = .ok (.aload_n 0, 1) := by decide +kernel
theorem dX2_isOpen_10 : decode cX2_isOpen 10 = .ok (.getfield 20, 3) := by decide +kernel
theorem dX2_isOpen_13 : decode cX2_isOpen 13 = .ok (.iload_n 1, 1) := by decide +kernel
theorem dX2_isOpen_14 : decode cX2_isOpen 14 = .ok (.iconst 3, 1) := by decide +kernel
theorem dX2_isOpen_15 : decode cX2_isOpen 15 = .ok (.invokevirtual 105, 3) := by decide +kernel
theorem dX2_isOpen_18 : decode cX2_isOpen 18 = .ok (.iload_n 2, 1) := by decide +kernel
theorem dX2_isOpen_19 : decode cX2_isOpen 19 = .ok (.invokestatic 201, 3) := by decide +kernel
theorem dX2_isOpen_22 : decode cX2_isOpen 22 = .ok (.ifCond .eq 41, 3) := by decide +kernel
theorem dX2_isOpen_25 : decode cX2_isOpen 25 = .ok (.aload_n 0, 1) := by decide +kernel
theorem dX2_isOpen_26 : decode cX2_isOpen 26 = .ok (.aload_n 0, 1) := by decide +kernel
theorem dX2_isOpen_27 : decode cX2_isOpen 27 = .ok (.getfield 20, 3) := by decide +kernel
theorem dX2_isOpen_30 : decode cX2_isOpen 30 = .ok (.iload_n 1, 1) := by decide +kernel
theorem dX2_isOpen_31 : decode cX2_isOpen 31 = .ok (.iconst 0, 1) := by decide +kernel
theorem dX2_isOpen_32 : decode cX2_isOpen 32 = .ok (.invokevirtual 105, 3) := by decide +kernel
theorem dX2_isOpen_35 : decode cX2_isOpen 35 = .ok (.iload_n 2, 1) := by decide +kernel
theorem dX2_isOpen_36 : decode cX2_isOpen 36 = .ok (.invokevirtual 121, 3) := by decide +kernel
theorem dX2_isOpen_39 : decode cX2_isOpen 39 = .ok (.ifCond .eq 24, 3) := by decide +kernel
theorem dX2_isOpen_42 : decode cX2_isOpen 42 = .ok (.aload_n 0, 1) := by decide +kernel
theorem dX2_isOpen_43 : decode cX2_isOpen 43 = .ok (.aload_n 0, 1) := by decide +kernel
theorem dX2_isOpen_44 : decode cX2_isOpen 44 = .ok (.getfield 20, 3) := by decide +kernel
theorem dX2_isOpen_47 : decode cX2_isOpen 47 = .ok (.iload_n 1, 1) := by decide +kernel
theorem dX2_isOpen_48 : decode cX2_isOpen 48 = .ok (.iconst 1, 1) := by decide +kernel
theorem dX2_isOpen_49 : decode cX2_isOpen 49 = .ok (.invokevirtual 105, 3) := by decide +kernel
theorem dX2_isOpen_52 : decode cX2_isOpen 52 = .ok (.iload_n 2, 1) := by decide +kernel
theorem dX2_isOpen_53 : decode cX2_isOpen 53 = .ok (.invokevirtual 121, 3) := by decide +kernel
theorem dX2_isOpen_56 : decode cX2_isOpen 56 = .ok (.ifCond .eq 7, 3) := by decide +kernel
theorem dX2_isOpen_59 : decode cX2_isOpen 59 = .ok (.iconst 1, 1) := by decide +kernel
theorem dX2_isOpen_60 : decode cX2_isOpen 60 = .ok (.goto 4, 3) := by decide +kernel
theorem dX2_isOpen_63 : decode cX2_isOpen 63 = .ok (.iconst 0, 1) := by decide +kernel
theorem dX2_isOpen_64 : decode cX2_isOpen 64 = .ok (.ireturn, 1) := by decide +kernel
theorem dX2_isWithin_0 : decode cX2_isWithin 0 = .ok (.iload_n 0, 1) := by decide +kernel
theorem dX2_isWithin_1 : decode cX2_isWithin 1 = .ok (.iload_n 1, 1) := by decide +kernel
theorem dX2_isWithin_2 : decode cX2_isWithin 2 = .ok (.if_icmp .gt 21, 3) := by decide +kernel
theorem dX2_isWithin_5 : decode cX2_isWithin 5 = .ok (.iload_n 0, 1) := by decide +kernel
theorem dX2_isWithin_6 : decode cX2_isWithin 6 = .ok (.iload_n 2, 1) := by decide +kernel
theorem dX2_isWithin_7 : decode cX2_isWithin 7 = .ok (.if_icmp .gt 12, 3) := by decide +kernel
theorem dX2_isWithin_10 : decode cX2_isWithin 10 = .ok (.iload_n 2, 1) := by decide +kernel
theorem dX2_isWithin_11 : decode cX2_isWithin 11 = .ok (.iload_n 1, 1) := by decide +kernel
theorem dX2_isWithin_12 : decode cX2_isWithin 12 = .ok (.if_icmp .gt 7, 3) := by decide +kernel
theorem dX2_isWithin_15 : decode cX2_isWithin 15 = .ok (.iconst 1, 1) := by decide +kernel
theorem dX2_isWithin_16 : decode cX2_isWithin 16 = .ok (.goto 22, 3) := by decide +kernel
theorem dX2_isWithin_19 : decode cX2_isWithin 19 = .ok (.iconst 0, 1) := by decide +kernel
theorem dX2_isWithin_20 : decode cX2_isWithin 20 = .ok (.goto 18, 3) := by decide +kernel
theorem dX2_isWithin_23 : decode cX2_isWithin 23 = .ok (.iload_n 0, 1) := by decide +kernel
theorem dX2_isWithin_24 : decode cX2_isWithin 24 = .ok (.iload_n 2, 1) := by decide +kernel
theorem dX2_isWithin_25 : decode cX2_isWithin 25 = .ok (.if_icmp .le 8, 3) := by decide +kernel
theorem dX2_isWithin_28 : decode cX2_isWithin 28 = .ok (.iload_n 2, 1) := by decide +kernel
theorem dX2_isWithin_29 : decode cX2_isWithin 29 = .ok (.iload_n 1, 1) := by decide +kernel
theorem dX2_isWithin_30 : decode cX2_isWithin 30 = .ok (.if_icmp .gt 7, 3) := by decide +kernel
theorem dX2_isWithin_33 : decode cX2_isWithin 33 = .ok (.iconst 1, 1) := by decide +kernel
theorem dX2_isWithin_34 : decode cX2_isWithin 34 = .ok (.goto 4, 3) := by decide +kernel
theorem dX2_isWithin_37 : decode cX2_isWithin 37 = .ok (.iconst 0, 1) := by decide +kernel
theorem dX2_isWithin_38 : decode cX2_isWithin 38 = .ok (.ireturn, 1) := by decide +kernel
theorem dX2_linksOf_0 : decode cX2_linksOf 0 = .ok (.iconst 0, 1) := by decide +kernel
theorem dX2_linksOf_1 : decode cX2_linksOf 1 = .ok (.istore_n 2, 1) := by decide +kernel
theorem dX2_linksOf_2 : decode cX2_linksOf 2 = .ok (.iconst 0, 1) := by decide +kernel
theorem dX2_linksOf_3 : decode cX2_linksOf 3 = .ok (.istore_n 3, 1) := by decide +kernel
theorem dX2_linksOf_4 : decode cX2_linksOf 4 = .ok (.iload_n 3, 1) := by decide +kernel
theorem dX2_linksOf_5 : decode cX2_linksOf 5 = .ok (.aload_n 0, 1) := by decide +kernel
theorem dX2_linksOf_6 : decode cX2_linksOf 6 = .ok (.getfield 50, 3) := by decide +kernel
theorem dX2_linksOf_9 : decode cX2_linksOf 9 = .ok (.if_icmp .ge 38, 3) := by decide +kernel
theorem dX2_linksOf_12 : decode cX2_linksOf 12 = .ok (.aload_n 0, 1) := by decide +kernel
theorem dX2_linksOf_13 : decode cX2_linksOf 13 = .ok (.getfield 20, 3) := by decide +kernel
theorem dX2_linksOf_16 : decode cX2_linksOf 16 = .ok (.iload_n 3, 1) := by decide +kernel
theorem dX2_linksOf_17 : decode cX2_linksOf 17 = .ok (.iconst 0, 1) := by decide +kernel
theorem dX2_linksOf_18 : decode cX2_linksOf 18 = .ok (.invokevirtual 105, 3) := by decide +kernel
theorem dX2_linksOf_21 : decode cX2_linksOf 21 = .ok (.iload_n 1, 1) := by decide +kernel
theorem dX2_linksOf_22 : decode cX2_linksOf 22 = .ok (.if_icmp .eq 16, 3) := by decide +kernel
theorem dX2_linksOf_25 : decode cX2_linksOf 25 = .ok (.aload_n 0, 1) := by decide +kernel
theorem dX2_linksOf_26 : decode cX2_linksOf 26 = .ok (.getfield 20, 3) := by decide +kernel
theorem dX2_linksOf_29 : decode cX2_linksOf 29 = .ok (.iload_n 3, 1) := by decide +kernel
theorem dX2_linksOf_30 : decode cX2_linksOf 30 = .ok (.iconst 1, 1) := by decide +kernel
theorem dX2_linksOf_31 : decode cX2_linksOf 31 = .ok (.invokevirtual 105, 3) := by decide +kernel
theorem dX2_linksOf_34 : decode cX2_linksOf 34 = .ok (.iload_n 1, 1) := by decide +kernel
theorem dX2_linksOf_35 : decode cX2_linksOf 35 = .ok (.if_icmp .ne 6, 3) := by decide +kernel
theorem dX2_linksOf_38 : decode cX2_linksOf 38 = .ok (.iinc 2 1, 3) := by decide +kernel
theorem dX2_linksOf_41 : decode cX2_linksOf 41 = .ok (.iinc 3 1, 3) := by decide +kernel
theorem dX2_linksOf_44 : decode cX2_linksOf 44 = .ok (.goto (-40), 3) := by decide +kernel
theorem dX2_linksOf_47 : decode cX2_linksOf 47 = .ok (.iload_n 2, 1) := by decide +kernel
theorem dX2_linksOf_48 : decode cX2_linksOf 48 = .ok (.ireturn, 1) := by decide +kernel
theorem dX2_copiesThatWait_0 : decode cX2_copiesThatWait 0 = .ok (.iconst 0, 1) := by decide +kernel
theorem dX2_copiesThatWait_1 : decode cX2_copiesThatWait 1 = .ok (.istore 5, 2) := by decide +kernel
theorem dX2_copiesThatWait_3 : decode cX2_copiesThatWait 3 = .ok (.iload_n 1, 1) := by decide +kernel
theorem dX2_copiesThatWait_4 : decode cX2_copiesThatWait 4 = .ok (.istore 6, 2) := by decide +kernel
theorem dX2_copiesThatWait_6 : decode cX2_copiesThatWait 6 = .ok (.iload 6, 2) := by decide +kernel
theorem dX2_copiesThatWait_8 : decode cX2_copiesThatWait 8 = .ok (.iload_n 2, 1) := by decide +kernel
theorem dX2_copiesThatWait_9 : decode cX2_copiesThatWait 9 = .ok (.if_icmp .ge 39, 3) := by decide +kernel
theorem dX2_copiesThatWait_12 : decode cX2_copiesThatWait 12 = .ok (.iload_n 3, 1) := by decide +kernel
theorem dX2_copiesThatWait_13 : decode cX2_copiesThatWait 13 = .ok (.istore 7, 2) := by decide +kernel
theorem dX2_copiesThatWait_15 : decode cX2_copiesThatWait 15 = .ok (.iload 7, 2) := by decide +kernel
theorem dX2_copiesThatWait_17 : decode cX2_copiesThatWait 17 = .ok (.iload 4, 2) := by decide +kernel
theorem dX2_copiesThatWait_19 : decode cX2_copiesThatWait 19 = .ok (.if_icmp .ge 23, 3) := by decide +kernel
theorem dX2_copiesThatWait_22 : decode cX2_copiesThatWait 22 = .ok (.aload_n 0, 1) := by decide +kernel
theorem dX2_copiesThatWait_23 : decode cX2_copiesThatWait 23 = .ok (.iload 6, 2) := by decide +kernel
theorem dX2_copiesThatWait_25 : decode cX2_copiesThatWait 25 = .ok (.iload 7, 2) := by decide +kernel
theorem dX2_copiesThatWait_27 : decode cX2_copiesThatWait 27 = .ok (.invokevirtual 167, 3) := by decide +kernel
theorem dX2_copiesThatWait_30 : decode cX2_copiesThatWait 30 = .ok (.ifCond .eq 6, 3) := by decide +kernel
theorem dX2_copiesThatWait_33 : decode cX2_copiesThatWait 33 = .ok (.iinc 5 1, 3) := by decide +kernel
theorem dX2_copiesThatWait_36 : decode cX2_copiesThatWait 36 = .ok (.iinc 7 1, 3) := by decide +kernel
theorem dX2_copiesThatWait_39 : decode cX2_copiesThatWait 39 = .ok (.goto (-24), 3) := by decide +kernel
theorem dX2_copiesThatWait_42 : decode cX2_copiesThatWait 42 = .ok (.iinc 6 1, 3) := by decide +kernel
theorem dX2_copiesThatWait_45 : decode cX2_copiesThatWait 45 = .ok (.goto (-39), 3) := by decide +kernel
theorem dX2_copiesThatWait_48 : decode cX2_copiesThatWait 48 = .ok (.iload 5, 2) := by decide +kernel
theorem dX2_copiesThatWait_50 : decode cX2_copiesThatWait 50 = .ok (.ireturn, 1) := by decide +kernel
theorem dX2_waits_0 : decode cX2_waits 0 = .ok (.aload_n 0, 1) := by decide +kernel
theorem dX2_waits_1 : decode cX2_waits 1 = .ok (.getfield 26, 3) := by decide +kernel
theorem dX2_waits_4 : decode cX2_waits 4 = .ok (.iload_n 1, 1) := by decide +kernel
theorem dX2_waits_5 : decode cX2_waits 5 = .ok (.iload_n 2, 1) := by decide +kernel
theorem dX2_waits_6 : decode cX2_waits 6 = .ok (.invokestatic 98, 3) := by decide +kernel
theorem dX2_waits_9 : decode cX2_waits 9 = .ok (.iconst 0, 1) := by decide +kernel
theorem dX2_waits_10 : decode cX2_waits 10 = .ok (.invokevirtual 105, 3) := by decide +kernel
theorem dX2_waits_13 : decode cX2_waits 13 = .ok (.iconst 1, 1) := by decide +kernel
theorem dX2_waits_14 : decode cX2_waits 14 = .ok (.if_icmp .ne 7, 3) := by decide +kernel
theorem dX2_waits_17 : decode cX2_waits 17 = .ok (.iconst 1, 1) := by decide +kernel
theorem dX2_waits_18 : decode cX2_waits 18 = .ok (.goto 4, 3) := by decide +kernel
theorem dX2_waits_21 : decode cX2_waits 21 = .ok (.iconst 0, 1) := by decide +kernel
theorem dX2_waits_22 : decode cX2_waits 22 = .ok (.ireturn, 1) := by decide +kernel
theorem dX2_pathStations_0 : decode cX2_pathStations 0 = .ok (.aload_n 0, 1) := by decide +kernel
theorem dX2_pathStations_1 : decode cX2_pathStations 1 = .ok (.getfield 26, 3) := by decide +kernel
theorem dX2_pathStations_4 : decode cX2_pathStations 4 = .ok (.iload_n 1, 1) := by decide +kernel
theorem dX2_pathStations_5 : decode cX2_pathStations 5 = .ok (.iconst 4, 1) := by decide +kernel
theorem dX2_pathStations_6 : decode cX2_pathStations 6 = .ok (.invokevirtual 105, 3) := by decide +kernel
theorem dX2_pathStations_9 : decode cX2_pathStations 9 = .ok (.istore_n 2, 1) := by decide +kernel
theorem dX2_pathStations_10 : decode cX2_pathStations 10 = .ok (.aload_n 0, 1) := by decide +kernel
theorem dX2_pathStations_11 : decode cX2_pathStations 11 = .ok (.getfield 26, 3) := by decide +kernel
theorem dX2_pathStations_14 : decode cX2_pathStations 14 = .ok (.iload_n 1, 1) := by decide +kernel
theorem dX2_pathStations_15 : decode cX2_pathStations 15 = .ok (.iconst 3, 1) := by decide +kernel
theorem dX2_pathStations_16 : decode cX2_pathStations 16 = .ok (.invokevirtual 105, 3) := by decide +kernel
theorem dX2_pathStations_19 : decode cX2_pathStations 19 = .ok (.istore_n 3, 1) := by decide +kernel
theorem dX2_pathStations_20 : decode cX2_pathStations 20 = .ok (.iconst 0, 1) := by decide +kernel
theorem dX2_pathStations_21 : decode cX2_pathStations 21 = .ok (.istore 4, 2) := by decide +kernel
theorem dX2_pathStations_23 : decode cX2_pathStations 23 = .ok (.iconst 0, 1) := by decide +kernel
theorem dX2_pathStations_24 : decode cX2_pathStations 24 = .ok (.istore 5, 2) := by decide +kernel
theorem dX2_pathStations_26 : decode cX2_pathStations 26 = .ok (.iload 5, 2) := by decide +kernel
theorem dX2_pathStations_28 : decode cX2_pathStations 28 = .ok (.iload_n 3, 1) := by decide +kernel
theorem dX2_pathStations_29 : decode cX2_pathStations 29 = .ok (.if_icmp .ge 25, 3) := by decide +kernel
theorem dX2_pathStations_32 : decode cX2_pathStations 32 = .ok (.iload 4, 2) := by decide +kernel
theorem dX2_pathStations_34 : decode cX2_pathStations 34 = .ok (.iconst 1, 1) := by decide +kernel
theorem dX2_pathStations_35 : decode cX2_pathStations 35 = .ok (.iload_n 2, 1) := by decide +kernel
theorem dX2_pathStations_36 : decode cX2_pathStations 36 = .ok (.iload 5, 2) := by decide +kernel
theorem dX2_pathStations_38 : decode cX2_pathStations 38 = .ok (.iconst 3, 1) := by decide +kernel
theorem dX2_pathStations_39 : decode cX2_pathStations 39 = .ok (.imul, 1) := by decide +kernel
theorem dX2_pathStations_40 : decode cX2_pathStations 40 = .ok (.ishr, 1) := by decide +kernel
theorem dX2_pathStations_41 : decode cX2_pathStations 41 = .ok (.bipush 7, 2) := by decide +kernel
theorem dX2_pathStations_43 : decode cX2_pathStations 43 = .ok (.iand, 1) := by decide +kernel
theorem dX2_pathStations_44 : decode cX2_pathStations 44 = .ok (.ishl, 1) := by decide +kernel
theorem dX2_pathStations_45 : decode cX2_pathStations 45 = .ok (.ior, 1) := by decide +kernel
theorem dX2_pathStations_46 : decode cX2_pathStations 46 = .ok (.istore 4, 2) := by decide +kernel
theorem dX2_pathStations_48 : decode cX2_pathStations 48 = .ok (.iinc 5 1, 3) := by decide +kernel
theorem dX2_pathStations_51 : decode cX2_pathStations 51 = .ok (.goto (-25), 3) := by decide +kernel
theorem dX2_pathStations_54 : decode cX2_pathStations 54 = .ok (.iload 4, 2) := by decide +kernel
theorem dX2_pathStations_56 : decode cX2_pathStations 56 = .ok (.ireturn, 1) := by decide +kernel
theorem dX2_copyRow_0 : decode cX2_copyRow 0 = .ok (.iload_n 0, 1) := by decide +kernel
theorem dX2_copyRow_1 : decode cX2_copyRow 1 = .ok (.bipush 8, 2) := by decide +kernel
theorem dX2_copyRow_3 : decode cX2_copyRow 3 = .ok (.imul, 1) := by decide +kernel
theorem dX2_copyRow_4 : decode cX2_copyRow 4 = .ok (.iload_n 1, 1) := by decide +kernel
theorem dX2_copyRow_5 : decode cX2_copyRow 5 = .ok (.iadd, 1) := by decide +kernel
theorem dX2_copyRow_6 : decode cX2_copyRow 6 = .ok (.ireturn, 1) := by decide +kernel
theorem dX3_init_0 : decode cX3_init 0 = .ok (.aload_n 0, 1) := by decide +kernel
theorem dX3_init_1 : decode cX3_init 1 = .ok (.invokespecial 3, 3) := by decide +kernel
theorem dX3_init_4 : decode cX3_init 4 = .ok (.aload_n 0, 1) := by decide +kernel
theorem dX3_init_5 : decode cX3_init 5 = .ok (.sipush 700, 3) := by decide +kernel
theorem dX3_init_8 : decode cX3_init 8 = .ok (.newarray .byte, 2) := by decide +kernel
theorem dX3_init_10 : decode cX3_init 10 = .ok (.putfield 9, 3) := by decide +kernel
theorem dX3_init_13 : decode cX3_init 13 = .ok (.aload_n 0, 1) := by decide +kernel
theorem dX3_init_14 : decode cX3_init 14 = .ok (.iconst 0, 1) := by decide +kernel
theorem dX3_init_15 : decode cX3_init 15 = .ok (.putfield 15, 3) := by decide +kernel
theorem dX3_init_18 : decode cX3_init 18 = .ok (.aload_n 0, 1) := by decide +kernel
theorem dX3_init_19 : decode cX3_init 19 = .ok (.iconst 0, 1) := by decide +kernel
theorem dX3_init_20 : decode cX3_init 20 = .ok (.putfield 19, 3) := by decide +kernel
theorem dX3_init_23 : decode cX3_init 23 = .ok (.aload_n 0, 1) := by decide +kernel
theorem dX3_init_24 : decode cX3_init 24 = .ok (.iconst 0, 1) := by decide +kernel
theorem dX3_init_25 : decode cX3_init 25 = .ok (.putfield 22, 3) := by decide +kernel
theorem dX3_init_28 : decode cX3_init 28 = .ok (.aload_n 0, 1) := by decide +kernel
theorem dX3_init_29 : decode cX3_init 29 = .ok (.iconst 0, 1) := by decide +kernel
theorem dX3_init_30 : decode cX3_init 30 = .ok (.putfield 25, 3) := by decide +kernel
theorem dX3_init_33 : decode cX3_init 33 = .ok (.aload_n 0, 1) := by decide +kernel
theorem dX3_init_34 : decode cX3_init 34 = .ok (.iconst 0, 1) := by decide +kernel
theorem dX3_init_35 : decode cX3_init 35 = .ok (.putfield 28, 3) := by decide +kernel
theorem dX3_init_38 : decode cX3_init 38 = .ok (.aload_n 0, 1) := by decide +kernel
theorem dX3_init_39 : decode cX3_init 39 = .ok (.iconst 0, 1) := by decide +kernel
theorem dX3_init_40 : decode cX3_init 40 = .ok (.putfield 31, 3) := by decide +kernel
theorem dX3_init_43 : decode cX3_init 43 = .ok (.aload_n 0, 1) := by decide +kernel
theorem dX3_init_44 : decode cX3_init 44 = .ok (.iconst (-1), 1) := by decide +kernel
theorem dX3_init_45 : decode cX3_init 45 = .ok (.putfield 34, 3) := by decide +kernel
theorem dX3_init_48 : decode cX3_init 48 = .ok (.return_, 1) := by decide +kernel
theorem dX3_length_0 : decode cX3_length 0 = .ok (.aload_n 0, 1) := by decide +kernel
theorem dX3_length_1 : decode cX3_length 1 = .ok (.getfield 15, 3) := by decide +kernel
theorem dX3_length_4 : decode cX3_length 4 = .ok (.ireturn, 1) := by decide +kernel
theorem dX3_put_0 : decode cX3_put 0 = .ok (.aload_n 0, 1) := by decide +kernel
theorem dX3_put_1 : decode cX3_put 1 = .ok (.getfield 15, 3) := by decide +kernel
theorem dX3_put_4 : decode cX3_put 4 = .ok (.ifCond .lt 36, 3) := by decide +kernel
theorem dX3_put_7 : decode cX3_put 7 = .ok (.aload_n 0, 1) := by decide +kernel
theorem dX3_put_8 : decode cX3_put 8 = .ok (.getfield 15, 3) := by decide +kernel
theorem dX3_put_11 : decode cX3_put 11 = .ok (.aload_n 0, 1) := by decide +kernel
theorem dX3_put_12 : decode cX3_put 12 = .ok (.getfield 9, 3) := by decide +kernel
theorem dX3_put_15 : decode cX3_put 15 = .ok (.arraylength, 1) := by decide +kernel
theorem dX3_put_16 : decode cX3_put 16 = .ok (.if_icmp .ge 24, 3) := by decide +kernel
theorem dX3_put_19 : decode cX3_put 19 = .ok (.aload_n 0, 1) := by decide +kernel
theorem dX3_put_20 : decode cX3_put 20 = .ok (.getfield 9, 3) := by decide +kernel
theorem dX3_put_23 : decode cX3_put 23 = .ok (.aload_n 0, 1) := by decide +kernel
theorem dX3_put_24 : decode cX3_put 24 = .ok (.getfield 15, 3) := by decide +kernel
theorem dX3_put_27 : decode cX3_put 27 = .ok (.iload_n 1, 1) := by decide +kernel
theorem dX3_put_28 : decode cX3_put 28 = .ok (.i2b, 1) := by decide +kernel
theorem dX3_put_29 : decode cX3_put 29 = .ok (.bastore, 1) := by decide +kernel
theorem dX3_put_30 : decode cX3_put 30 = .ok (.aload_n 0, 1) := by decide +kernel
theorem dX3_put_31 : decode cX3_put 31 = .ok (.dup, 1) := by decide +kernel
theorem dX3_put_32 : decode cX3_put 32 = .ok (.getfield 15, 3) := by decide +kernel
theorem dX3_put_35 : decode cX3_put 35 = .ok (.iconst 1, 1) := by decide +kernel
theorem dX3_put_36 : decode cX3_put 36 = .ok (.iadd, 1) := by decide +kernel
theorem dX3_put_37 : decode cX3_put 37 = .ok (.putfield 15, 3) := by decide +kernel
theorem dX3_put_40 : decode cX3_put 40 = .ok (.return_, 1) := by decide +kernel
theorem dX3_cutTo_0 : decode cX3_cutTo 0 = .ok (.aload_n 0, 1) := by decide +kernel
theorem dX3_cutTo_1 : decode cX3_cutTo 1 = .ok (.iload_n 1, 1) := by decide +kernel
theorem dX3_cutTo_2 : decode cX3_cutTo 2 = .ok (.putfield 15, 3) := by decide +kernel
theorem dX3_cutTo_5 : decode cX3_cutTo 5 = .ok (.return_, 1) := by decide +kernel
theorem dX3_error_0 : decode cX3_error 0 = .ok (.aload_n 0, 1) := by decide +kernel
theorem dX3_error_1 : decode cX3_error 1 = .ok (.getfield 31, 3) := by decide +kernel
theorem dX3_error_4 : decode cX3_error 4 = .ok (.ireturn, 1) := by decide +kernel
theorem dX3_errorStart_0 : decode cX3_errorStart 0 = .ok (.aload_n 0, 1) := by decide +kernel
theorem dX3_errorStart_1 : decode cX3_errorStart 1 = .ok (.getfield 34, 3) := by decide +kernel
theorem dX3_errorStart_4 : decode cX3_errorStart 4 = .ok (.ireturn, 1) := by decide +kernel
theorem dX3_readInto_0 : decode cX3_readInto 0 = .ok (.aload_n 0, 1) := by decide +kernel
theorem dX3_readInto_1 : decode cX3_readInto 1 = .ok (.iconst 0, 1) := by decide +kernel
theorem dX3_readInto_2 : decode cX3_readInto 2 = .ok (.putfield 25, 3) := by decide +kernel
theorem dX3_readInto_5 : decode cX3_readInto 5 = .ok (.aload_n 0, 1) := by decide +kernel
theorem dX3_readInto_6 : decode cX3_readInto 6 = .ok (.iconst 0, 1) := by decide +kernel
theorem dX3_readInto_7 : decode cX3_readInto 7 = .ok (.putfield 31, 3) := by decide +kernel
theorem dX3_readInto_10 : decode cX3_readInto 10 = .ok (.aload_n 0, 1) := by decide +kernel
theorem dX3_readInto_11 : decode cX3_readInto 11 = .ok (.iconst (-1), 1) := by decide +kernel
theorem dX3_readInto_12 : decode cX3_readInto 12 = .ok (.putfield 34, 3) := by decide +kernel
theorem dX3_readInto_15 : decode cX3_readInto 15 = .ok (.iconst 0, 1) := by decide +kernel
theorem dX3_readInto_16 : decode cX3_readInto 16 = .ok (.istore_n 2, 1) := by decide +kernel
theorem dX3_readInto_17 : decode cX3_readInto 17 = .ok (.aload_n 0, 1) := by decide +kernel
theorem dX3_readInto_18 : decode cX3_readInto 18 = .ok (.invokevirtual 37, 3) := by decide +kernel
theorem dX3_readInto_21 : decode cX3_readInto 21 = .ok (.aload_n 0, 1) := by decide +kernel
theorem dX3_readInto_22 : decode cX3_readInto 22 = .ok (.getfield 19, 3) := by decide +kernel
theorem dX3_readInto_25 : decode cX3_readInto 25 = .ok (.ifCond .eq 32, 3) := by decide +kernel
theorem dX3_readInto_28 : decode cX3_readInto 28 = .ok (.aload_n 0, 1) := by decide +kernel
theorem dX3_readInto_29 : decode cX3_readInto 29 = .ok (.getfield 31, 3) := by decide +kernel
theorem dX3_readInto_32 : decode cX3_readInto 32 = .ok (.ifCond .ne 25, 3) := by decide +kernel
theorem dX3_readInto_35 : decode cX3_readInto 35 = .ok (.iload_n 2, 1) := by decide +kernel
theorem dX3_readInto_36 : decode cX3_readInto 36 = .ok (.sipush 700, 3) := by decide +kernel
theorem dX3_readInto_39 : decode cX3_readInto 39 = .ok (.if_icmp .gt 18, 3) := by decide +kernel
theorem dX3_readInto_42 : decode cX3_readInto 42 = .ok (.aload_n 0, 1) := by decide +kernel
theorem dX3_readInto_43 : decode cX3_readInto 43 = .ok (.aload_n 1, 1) := by decide +kernel
theorem dX3_readInto_44 : decode cX3_readInto 44 = .ok (.invokevirtual 40, 3) := by decide +kernel
theorem dX3_readInto_47 : decode cX3_readInto 47 = .ok (.iinc 2 1, 3) := by decide +kernel
theorem dX3_readInto_50 : decode cX3_readInto 50 = .ok (.aload_n 0, 1) := by decide +kernel
theorem dX3_readInto_51 : decode cX3_readInto 51 = .ok (.invokevirtual 37, 3) := by decide +kernel
theorem dX3_readInto_54 : decode cX3_readInto 54 = .ok (.goto (-33), 3) := by decide +kernel
theorem dX3_readInto_57 : decode cX3_readInto 57 = .ok (.iload_n 2, 1) := by decide +kernel
theorem dX3_readInto_58 : decode cX3_readInto 58 = .ok (.ireturn, 1) := by decide +kernel
theorem dX3_readStatement_0 : decode cX3_readStatement 0 = .ok (.aload_n 0, 1) := by decide +kernel
theorem dX3_readStatement_1 : decode cX3_readStatement 1 = .ok (.getfield 19, 3) := by decide +kernel
theorem dX3_readStatement_4 : decode cX3_readStatement 4 = .ok (.iconst 1, 1) := by decide +kernel
theorem dX3_readStatement_5 : decode cX3_readStatement 5 = .ok (.if_icmp .eq 11, 3) := by decide +kernel
theorem dX3_readStatement_8 : decode cX3_readStatement 8 = .ok (.aload_n 0, 1) := by decide +kernel
theorem dX3_readStatement_9 : decode cX3_readStatement 9 = .ok (.iconst 1, 1) := by decide +kernel
theorem dX3_readStatement_10 : decode cX3_readStatement 10 = .ok (.invokevirtual 44, 3) := by decide +kernel
theorem dX3_readStatement_13 : decode cX3_readStatement 13 = .ok (.goto 129, 3) := by decide +kernel
theorem dX3_readStatement_16 : decode cX3_readStatement 16 = .ok (.aload_n 0, 1) := by decide +kernel
theorem dX3_readStatement_17 : decode cX3_readStatement 17 = .ok (.ldc 48, 2) := by decide +kernel
theorem dX3_readStatement_19 : decode cX3_readStatement 19 = .ok (.invokevirtual 50, 3) := by decide +kernel
theorem dX3_readStatement_22 : decode cX3_readStatement 22 = .ok (.ifCond .eq 11, 3) := by decide +kernel
theorem dX3_readStatement_25 : decode cX3_readStatement 25 = .ok (.aload_n 0, 1) := by decide +kernel
theorem dX3_readStatement_26 : decode cX3_readStatement 26 = .ok (.aload_n 1, 1) := by decide +kernel
theorem dX3_readStatement_27 : decode cX3_readStatement 27 = .ok (.invokevirtual 54, 3) := by decide +kernel
theorem dX3_readStatement_30 : decode cX3_readStatement 30 = .ok (.goto 112, 3) := by decide +kernel
theorem dX3_readStatement_33 : decode cX3_readStatement 33 = .ok (.aload_n 0, 1) := by decide +kernel
theorem dX3_readStatement_34 : decode cX3_readStatement 34 = .ok (.ldc 57, 2) := by decide +kernel
theorem dX3_readStatement_36 : decode cX3_readStatement 36 = .ok (.invokevirtual 50, 3) := by decide +kernel
theorem dX3_readStatement_39 : decode cX3_readStatement 39 = .ok (.ifCond .eq 11, 3) := by decide +kernel
theorem dX3_readStatement_42 : decode cX3_readStatement 42 = .ok (.aload_n 0, 1) := by decide +kernel
theorem dX3_readStatement_43 : decode cX3_readStatement 43 = .ok (.aload_n 1, 1) := by decide +kernel
theorem dX3_readStatement_44 : decode cX3_readStatement 44 = .ok (.invokevirtual 59, 3) := by decide +kernel
theorem dX3_readStatement_47 : decode cX3_readStatement 47 = .ok (.goto 95, 3) := by decide +kernel
theorem dX3_readStatement_50 : decode cX3_readStatement 50 = .ok (.aload_n 0, 1) := by decide +kernel
theorem dX3_readStatement_51 : decode cX3_readStatement 51 = .ok (.ldc 62, 2) := by decide +kernel
theorem dX3_readStatement_53 : decode cX3_readStatement 53 = .ok (.invokevirtual 50, 3) := by decide +kernel
theorem dX3_readStatement_56 : decode cX3_readStatement 56 = .ok (.ifCond .eq 11, 3) := by decide +kernel
theorem dX3_readStatement_59 : decode cX3_readStatement 59 = .ok (.aload_n 0, 1) := by decide +kernel
theorem dX3_readStatement_60 : decode cX3_readStatement 60 = .ok (.aload_n 1, 1) := by decide +kernel
theorem dX3_readStatement_61 : decode cX3_readStatement 61 = .ok (.invokevirtual 64, 3) := by decide +kernel
theorem dX3_readStatement_64 : decode cX3_readStatement 64 = .ok (.goto 78, 3) := by decide +kernel
theorem dX3_readStatement_67 : decode cX3_readStatement 67 = .ok (.aload_n 0, 1) := by decide +kernel
theorem dX3_readStatement_68 : decode cX3_readStatement 68 = .ok (.ldc 67, 2) := by decide +kernel
theorem dX3_readStatement_70 : decode cX3_readStatement 70 = .ok (.invokevirtual 50, 3) := by decide +kernel
theorem dX3_readStatement_73 : decode cX3_readStatement 73 = .ok (.ifCond .eq 18, 3) := by decide +kernel
theorem dX3_readStatement_76 : decode cX3_readStatement 76 = .ok (.aload_n 1, 1) := by decide +kernel
theorem dX3_readStatement_77 : decode cX3_readStatement 77 = .ok (.aload_n 0, 1) := by decide +kernel
theorem dX3_readStatement_78 : decode cX3_readStatement 78 = .ok (.iconst 1, 1) := by decide +kernel
theorem dX3_readStatement_79 : decode cX3_readStatement 79 = .ok (.sipush 200, 3) := by decide +kernel
theorem dX3_readStatement_82 : decode cX3_readStatement 82 = .ok (.invokevirtual 69, 3) := by decide +kernel
theorem dX3_readStatement_85 : decode cX3_readStatement 85 = .ok (.invokevirtual 73, 3) := by decide +kernel
theorem dX3_readStatement_88 : decode cX3_readStatement 88 = .ok (.goto 54, 3) := by decide +kernel
theorem dX3_readStatement_91 : decode cX3_readStatement 91 = .ok (.aload_n 0, 1) := by decide +kernel
theorem dX3_readStatement_92 : decode cX3_readStatement 92 = .ok (.ldc 78, 2) := by decide +kernel
theorem dX3_readStatement_94 : decode cX3_readStatement 94 = .ok (.invokevirtual 50, 3) := by decide +kernel
theorem dX3_readStatement_97 : decode cX3_readStatement 97 = .ok (.ifCond .eq 17, 3) := by decide +kernel
theorem dX3_readStatement_100 : decode cX3_readStatement 100 = .ok (.aload_n 1, 1) := by decide +kernel
theorem dX3_readStatement_101 : decode cX3_readStatement 101 = .ok (.aload_n 0, 1) := by decide +kernel
theorem dX3_readStatement_102 : decode cX3_readStatement 102 = .ok (.iconst 1, 1) := by decide +kernel
theorem dX3_readStatement_103 : decode cX3_readStatement 103 = .ok (.bipush 9, 2) := by decide +kernel
theorem dX3_readStatement_105 : decode cX3_readStatement 105 = .ok (.invokevirtual 69, 3) := by decide +kernel
theorem dX3_readStatement_108 : decode cX3_readStatement 108 = .ok (.invokevirtual 80, 3) := by decide +kernel
theorem dX3_readStatement_111 : decode cX3_readStatement 111 = .ok (.goto 31, 3) := by decide +kernel
theorem dX3_readStatement_114 : decode cX3_readStatement 114 = .ok (.aload_n 0, 1) := by decide +kernel
theorem dX3_readStatement_115 : decode cX3_readStatement 115 = .ok (.ldc 83, 2) := by decide +kernel
theorem dX3_readStatement_117 : decode cX3_readStatement 117 = .ok (.invokevirtual 50, 3) := by decide +kernel
theorem dX3_readStatement_120 : decode cX3_readStatement 120 = .ok (.ifCond .eq 17, 3) := by decide +kernel
theorem dX3_readStatement_123 : decode cX3_readStatement 123 = .ok (.aload_n 1, 1) := by decide +kernel
theorem dX3_readStatement_124 : decode cX3_readStatement 124 = .ok (.aload_n 0, 1) := by decide +kernel
theorem dX3_readStatement_125 : decode cX3_readStatement 125 = .ok (.iconst 0, 1) := by decide +kernel
theorem dX3_readStatement_126 : decode cX3_readStatement 126 = .ok (.ldc 85, 2) := by decide +kernel
theorem dX3_readStatement_128 : decode cX3_readStatement 128 = .ok (.invokevirtual 69, 3) := by decide +kernel
theorem dX3_readStatement_131 : decode cX3_readStatement 131 = .ok (.invokevirtual 86, 3) := by decide +kernel
theorem dX3_readStatement_134 : decode cX3_readStatement 134 = .ok (.goto 8, 3) := by decide +kernel
theorem dX3_readStatement_137 : decode cX3_readStatement 137 = .ok (.aload_n 0, 1) := by decide +kernel
theorem dX3_readStatement_138 : decode cX3_readStatement 138 = .ok (.iconst 1, 1) := by decide +kernel
theorem dX3_readStatement_139 : decode cX3_readStatement 139 = .ok (.invokevirtual 44, 3) := by decide +kernel
theorem dX3_readStatement_142 : decode cX3_readStatement 142 = .ok (.aload_n 0, 1) := by decide +kernel
theorem dX3_readStatement_143 : decode cX3_readStatement 143 = .ok (.invokevirtual 89, 3) := by decide +kernel
theorem dX3_readStatement_146 : decode cX3_readStatement 146 = .ok (.return_, 1) := by decide +kernel
theorem dX3_readStation_0 : decode cX3_readStation 0 = .ok (.aload_n 1, 1) := by decide +kernel
theorem dX3_readStation_1 : decode cX3_readStation 1 = .ok (.invokevirtual 92, 3) := by decide +kernel
theorem dX3_readStation_4 : decode cX3_readStation 4 = .ok (.bipush 8, 2) := by decide +kernel
theorem dX3_readStation_6 : decode cX3_readStation 6 = .ok (.if_icmp .lt 8, 3) := by decide +kernel
theorem dX3_readStation_9 : decode cX3_readStation 9 = .ok (.aload_n 0, 1) := by decide +kernel
theorem dX3_readStation_10 : decode cX3_readStation 10 = .ok (.iconst 3, 1) := by decide +kernel
theorem dX3_readStation_11 : decode cX3_readStation 11 = .ok (.invokevirtual 44, 3) := by decide +kernel
theorem dX3_readStation_14 : decode cX3_readStation 14 = .ok (.aload_n 0, 1) := by decide +kernel
theorem dX3_readStation_15 : decode cX3_readStation 15 = .ok (.iconst 0, 1) := by decide +kernel
theorem dX3_readStation_16 : decode cX3_readStation 16 = .ok (.bipush 23, 2) := by decide +kernel
theorem dX3_readStation_18 : decode cX3_readStation 18 = .ok (.invokevirtual 69, 3) := by decide +kernel
theorem dX3_readStation_21 : decode cX3_readStation 21 = .ok (.istore_n 2, 1) := by decide +kernel
theorem dX3_readStation_22 : decode cX3_readStation 22 = .ok (.aload_n 0, 1) := by decide +kernel
theorem dX3_readStation_23 : decode cX3_readStation 23 = .ok (.iconst 0, 1) := by decide +kernel
theorem dX3_readStation_24 : decode cX3_readStation 24 = .ok (.bipush 23, 2) := by decide +kernel
theorem dX3_readStation_26 : decode cX3_readStation 26 = .ok (.invokevirtual 69, 3) := by decide +kernel
theorem dX3_readStation_29 : decode cX3_readStation 29 = .ok (.istore_n 3, 1) := by decide +kernel
theorem dX3_readStation_30 : decode cX3_readStation 30 = .ok (.aload_n 0, 1) := by decide +kernel
theorem dX3_readStation_31 : decode cX3_readStation 31 = .ok (.iconst 1, 1) := by decide +kernel
theorem dX3_readStation_32 : decode cX3_readStation 32 = .ok (.bipush 9, 2) := by decide +kernel
theorem dX3_readStation_34 : decode cX3_readStation 34 = .ok (.invokevirtual 69, 3) := by decide +kernel
theorem dX3_readStation_37 : decode cX3_readStation 37 = .ok (.istore 4, 2) := by decide +kernel
theorem dX3_readStation_39 : decode cX3_readStation 39 = .ok (.aload_n 0, 1) := by decide +kernel
theorem dX3_readStation_40 : decode cX3_readStation 40 = .ok (.getfield 31, 3) := by decide +kernel
theorem dX3_readStation_43 : decode cX3_readStation 43 = .ok (.ifCond .ne 12, 3) := by decide +kernel
theorem dX3_readStation_46 : decode cX3_readStation 46 = .ok (.aload_n 1, 1) := by decide +kernel
theorem dX3_readStation_47 : decode cX3_readStation 47 = .ok (.iload_n 2, 1) := by decide +kernel
theorem dX3_readStation_48 : decode cX3_readStation 48 = .ok (.iload_n 3, 1) := by decide +kernel
theorem dX3_readStation_49 : decode cX3_readStation 49 = .ok (.iload 4, 2) := by decide +kernel
theorem dX3_readStation_51 : decode cX3_readStation 51 = .ok (.invokevirtual 96, 3) := by decide +kernel
theorem dX3_readStation_54 : decode cX3_readStation 54 = .ok (.pop, 1) := by decide +kernel
theorem dX3_readStation_55 : decode cX3_readStation 55 = .ok (.return_, 1) := by decide +kernel
theorem dX3_readLink_0 : decode cX3_readLink 0 = .ok (.aload_n 1, 1) := by decide +kernel
theorem dX3_readLink_1 : decode cX3_readLink 1 = .ok (.invokevirtual 100, 3) := by decide +kernel
theorem dX3_readLink_4 : decode cX3_readLink 4 = .ok (.bipush 16, 2) := by decide +kernel
theorem dX3_readLink_6 : decode cX3_readLink 6 = .ok (.if_icmp .lt 8, 3) := by decide +kernel
theorem dX3_readLink_9 : decode cX3_readLink 9 = .ok (.aload_n 0, 1) := by decide +kernel
theorem dX3_readLink_10 : decode cX3_readLink 10 = .ok (.iconst 3, 1) := by decide +kernel
theorem dX3_readLink_11 : decode cX3_readLink 11 = .ok (.invokevirtual 44, 3) := by decide +kernel
theorem dX3_readLink_14 : decode cX3_readLink 14 = .ok (.aload_n 0, 1) := by decide +kernel
theorem dX3_readLink_15 : decode cX3_readLink 15 = .ok (.iconst 0, 1) := by decide +kernel
theorem dX3_readLink_16 : decode cX3_readLink 16 = .ok (.aload_n 1, 1) := by decide +kernel
theorem dX3_readLink_17 : decode cX3_readLink 17 = .ok (.invokevirtual 92, 3) := by decide +kernel
theorem dX3_readLink_20 : decode cX3_readLink 20 = .ok (.iconst 1, 1) := by decide +kernel
theorem dX3_readLink_21 : decode cX3_readLink 21 = .ok (.isub, 1) := by decide +kernel
theorem dX3_readLink_22 : decode cX3_readLink 22 = .ok (.invokevirtual 69, 3) := by decide +kernel
theorem dX3_readLink_25 : decode cX3_readLink 25 = .ok (.istore_n 2, 1) := by decide +kernel
theorem dX3_readLink_26 : decode cX3_readLink 26 = .ok (.aload_n 0, 1) := by decide +kernel
theorem dX3_readLink_27 : decode cX3_readLink 27 = .ok (.iconst 0, 1) := by decide +kernel
theorem dX3_readLink_28 : decode cX3_readLink 28 = .ok (.aload_n 1, 1) := by decide +kernel
theorem dX3_readLink_29 : decode cX3_readLink 29 = .ok (.invokevirtual 92, 3) := by decide +kernel
theorem dX3_readLink_32 : decode cX3_readLink 32 = .ok (.iconst 1, 1) := by decide +kernel
theorem dX3_readLink_33 : decode cX3_readLink 33 = .ok (.isub, 1) := by decide +kernel
theorem dX3_readLink_34 : decode cX3_readLink 34 = .ok (.invokevirtual 69, 3) := by decide +kernel
theorem dX3_readLink_37 : decode cX3_readLink 37 = .ok (.istore_n 3, 1) := by decide +kernel
theorem dX3_readLink_38 : decode cX3_readLink 38 = .ok (.iload_n 3, 1) := by decide +kernel
theorem dX3_readLink_39 : decode cX3_readLink 39 = .ok (.iload_n 2, 1) := by decide +kernel
theorem dX3_readLink_40 : decode cX3_readLink 40 = .ok (.if_icmp .eq 13, 3) := by decide +kernel
theorem dX3_readLink_43 : decode cX3_readLink 43 = .ok (.aload_n 1, 1) := by decide +kernel
theorem dX3_readLink_44 : decode cX3_readLink 44 = .ok (.iload_n 2, 1) := by decide +kernel
theorem dX3_readLink_45 : decode cX3_readLink 45 = .ok (.iload_n 3, 1) := by decide +kernel
theorem dX3_readLink_46 : decode cX3_readLink 46 = .ok (.invokevirtual 103, 3) := by decide +kernel
theorem dX3_readLink_49 : decode cX3_readLink 49 = .ok (.iconst (-1), 1) := by decide +kernel
theorem dX3_readLink_50 : decode cX3_readLink 50 = .ok (.if_icmp .eq 8, 3) := by decide +kernel
theorem dX3_readLink_53 : decode cX3_readLink 53 = .ok (.aload_n 0, 1) := by decide +kernel
theorem dX3_readLink_54 : decode cX3_readLink 54 = .ok (.iconst 4, 1) := by decide +kernel
theorem dX3_readLink_55 : decode cX3_readLink 55 = .ok (.invokevirtual 44, 3) := by decide +kernel
theorem dX3_readLink_58 : decode cX3_readLink 58 = .ok (.aload_n 0, 1) := by decide +kernel
theorem dX3_readLink_59 : decode cX3_readLink 59 = .ok (.iconst 0, 1) := by decide +kernel
theorem dX3_readLink_60 : decode cX3_readLink 60 = .ok (.bipush 23, 2) := by decide +kernel
theorem dX3_readLink_62 : decode cX3_readLink 62 = .ok (.invokevirtual 69, 3) := by decide +kernel
theorem dX3_readLink_65 : decode cX3_readLink 65 = .ok (.istore 4, 2) := by decide +kernel
theorem dX3_readLink_67 : decode cX3_readLink 67 = .ok (.aload_n 0, 1) := by decide +kernel
theorem dX3_readLink_68 : decode cX3_readLink 68 = .ok (.iconst 0, 1) := by decide +kernel
theorem dX3_readLink_69 : decode cX3_readLink 69 = .ok (.bipush 23, 2) := by decide +kernel
theorem dX3_readLink_71 : decode cX3_readLink 71 = .ok (.invokevirtual 69, 3) := by decide +kernel
theorem dX3_readLink_74 : decode cX3_readLink 74 = .ok (.istore 5, 2) := by decide +kernel
theorem dX3_readLink_76 : decode cX3_readLink 76 = .ok (.aload_n 0, 1) := by decide +kernel
theorem dX3_readLink_77 : decode cX3_readLink 77 = .ok (.iconst 0, 1) := by decide +kernel
theorem dX3_readLink_78 : decode cX3_readLink 78 = .ok (.bipush 100, 2) := by decide +kernel
theorem dX3_readLink_80 : decode cX3_readLink 80 = .ok (.invokevirtual 69, 3) := by decide +kernel
theorem dX3_readLink_83 : decode cX3_readLink 83 = .ok (.istore 6, 2) := by decide +kernel
theorem dX3_readLink_85 : decode cX3_readLink 85 = .ok (.aload_n 0, 1) := by decide +kernel
theorem dX3_readLink_86 : decode cX3_readLink 86 = .ok (.getfield 31, 3) := by decide +kernel
theorem dX3_readLink_89 : decode cX3_readLink 89 = .ok (.ifCond .ne 16, 3) := by decide +kernel
theorem dX3_readLink_92 : decode cX3_readLink 92 = .ok (.aload_n 1, 1) := by decide +kernel
theorem dX3_readLink_93 : decode cX3_readLink 93 = .ok (.iload_n 2, 1) := by decide +kernel
theorem dX3_readLink_94 : decode cX3_readLink 94 = .ok (.iload_n 3, 1) := by decide +kernel
theorem dX3_readLink_95 : decode cX3_readLink 95 = .ok (.iload 4, 2) := by decide +kernel
theorem dX3_readLink_97 : decode cX3_readLink 97 = .ok (.iload 5, 2) := by decide +kernel
theorem dX3_readLink_99 : decode cX3_readLink 99 = .ok (.iload 6, 2) := by decide +kernel
theorem dX3_readLink_101 : decode cX3_readLink 101 = .ok (.invokevirtual 106, 3) := by decide +kernel
theorem dX3_readLink_104 : decode cX3_readLink 104 = .ok (.pop, 1) := by decide +kernel
theorem dX3_readLink_105 : decode cX3_readLink 105 = .ok (.return_, 1) := by decide +kernel
theorem dX3_readMessage_0 : decode cX3_readMessage 0 = .ok (.aload_n 1, 1) := by decide +kernel
theorem dX3_readMessage_1 : decode cX3_readMessage 1 = .ok (.invokevirtual 110, 3) := by decide +kernel
theorem dX3_readMessage_4 : decode cX3_readMessage 4 = .ok (.bipush 24, 2) := by decide +kernel
theorem dX3_readMessage_6 : decode cX3_readMessage 6 = .ok (.if_icmp .lt 8, 3) := by decide +kernel
theorem dX3_readMessage_9 : decode cX3_readMessage 9 = .ok (.aload_n 0, 1) := by decide +kernel
theorem dX3_readMessage_10 : decode cX3_readMessage 10 = .ok (.iconst 3, 1) := by decide +kernel
theorem dX3_readMessage_11 : decode cX3_readMessage 11 = .ok (.invokevirtual 44, 3) := by decide +kernel
theorem dX3_readMessage_14 : decode cX3_readMessage 14 = .ok (.aload_n 0, 1) := by decide +kernel
theorem dX3_readMessage_15 : decode cX3_readMessage 15 = .ok (.iconst 0, 1) := by decide +kernel
theorem dX3_readMessage_16 : decode cX3_readMessage 16 = .ok (.aload_n 1, 1) := by decide +kernel
theorem dX3_readMessage_17 : decode cX3_readMessage 17 = .ok (.invokevirtual 92, 3) := by decide +kernel
theorem dX3_readMessage_20 : decode cX3_readMessage 20 = .ok (.iconst 1, 1) := by decide +kernel
theorem dX3_readMessage_21 : decode cX3_readMessage 21 = .ok (.isub, 1) := by decide +kernel
theorem dX3_readMessage_22 : decode cX3_readMessage 22 = .ok (.invokevirtual 69, 3) := by decide +kernel
theorem dX3_readMessage_25 : decode cX3_readMessage 25 = .ok (.istore_n 2, 1) := by decide +kernel
theorem dX3_readMessage_26 : decode cX3_readMessage 26 = .ok (.aload_n 0, 1) := by decide +kernel
theorem dX3_readMessage_27 : decode cX3_readMessage 27 = .ok (.iconst 0, 1) := by decide +kernel
theorem dX3_readMessage_28 : decode cX3_readMessage 28 = .ok (.aload_n 1, 1) := by decide +kernel
theorem dX3_readMessage_29 : decode cX3_readMessage 29 = .ok (.invokevirtual 92, 3) := by decide +kernel
theorem dX3_readMessage_32 : decode cX3_readMessage 32 = .ok (.iconst 1, 1) := by decide +kernel
theorem dX3_readMessage_33 : decode cX3_readMessage 33 = .ok (.isub, 1) := by decide +kernel
theorem dX3_readMessage_34 : decode cX3_readMessage 34 = .ok (.invokevirtual 69, 3) := by decide +kernel
theorem dX3_readMessage_37 : decode cX3_readMessage 37 = .ok (.istore_n 3, 1) := by decide +kernel
theorem dX3_readMessage_38 : decode cX3_readMessage 38 = .ok (.iload_n 3, 1) := by decide +kernel
theorem dX3_readMessage_39 : decode cX3_readMessage 39 = .ok (.iload_n 2, 1) := by decide +kernel
theorem dX3_readMessage_40 : decode cX3_readMessage 40 = .ok (.if_icmp .ne 8, 3) := by decide +kernel
theorem dX3_readMessage_43 : decode cX3_readMessage 43 = .ok (.aload_n 0, 1) := by decide +kernel
theorem dX3_readMessage_44 : decode cX3_readMessage 44 = .ok (.iconst 4, 1) := by decide +kernel
theorem dX3_readMessage_45 : decode cX3_readMessage 45 = .ok (.invokevirtual 44, 3) := by decide +kernel
theorem dX3_readMessage_48 : decode cX3_readMessage 48 = .ok (.aload_n 0, 1) := by decide +kernel
theorem dX3_readMessage_49 : decode cX3_readMessage 49 = .ok (.iconst 0, 1) := by decide +kernel
theorem dX3_readMessage_50 : decode cX3_readMessage 50 = .ok (.iconst 3, 1) := by decide +kernel
theorem dX3_readMessage_51 : decode cX3_readMessage 51 = .ok (.invokevirtual 69, 3) := by decide +kernel
theorem dX3_readMessage_54 : decode cX3_readMessage 54 = .ok (.istore 4, 2) := by decide +kernel
theorem dX3_readMessage_56 : decode cX3_readMessage 56 = .ok (.aload_n 0, 1) := by decide +kernel
theorem dX3_readMessage_57 : decode cX3_readMessage 57 = .ok (.getfield 31, 3) := by decide +kernel
theorem dX3_readMessage_60 : decode cX3_readMessage 60 = .ok (.ifCond .ne 12, 3) := by decide +kernel
theorem dX3_readMessage_63 : decode cX3_readMessage 63 = .ok (.aload_n 1, 1) := by decide +kernel
theorem dX3_readMessage_64 : decode cX3_readMessage 64 = .ok (.iload_n 2, 1) := by decide +kernel
theorem dX3_readMessage_65 : decode cX3_readMessage 65 = .ok (.iload_n 3, 1) := by decide +kernel
theorem dX3_readMessage_66 : decode cX3_readMessage 66 = .ok (.iload 4, 2) := by decide +kernel
theorem dX3_readMessage_68 : decode cX3_readMessage 68 = .ok (.invokevirtual 113, 3) := by decide +kernel
theorem dX3_readMessage_71 : decode cX3_readMessage 71 = .ok (.pop, 1) := by decide +kernel
theorem dX3_readMessage_72 : decode cX3_readMessage 72 = .ok (.return_, 1) := by decide +kernel
theorem dX3_readNumber_0 : decode cX3_readNumber 0 = .ok (.aload_n 0, 1) := by decide +kernel
theorem dX3_readNumber_1 : decode cX3_readNumber 1 = .ok (.getfield 31, 3) := by decide +kernel
theorem dX3_readNumber_4 : decode cX3_readNumber 4 = .ok (.ifCond .eq 5, 3) := by decide +kernel
theorem dX3_readNumber_7 : decode cX3_readNumber 7 = .ok (.iconst (-1), 1) := by decide +kernel
theorem dX3_readNumber_8 : decode cX3_readNumber 8 = .ok (.ireturn, 1) := by decide +kernel
theorem dX3_readNumber_9 : decode cX3_readNumber 9 = .ok (.aload_n 0, 1) := by decide +kernel
theorem dX3_readNumber_10 : decode cX3_readNumber 10 = .ok (.invokevirtual 37, 3) := by decide +kernel
theorem dX3_readNumber_13 : decode cX3_readNumber 13 = .ok (.aload_n 0, 1) := by decide +kernel
theorem dX3_readNumber_14 : decode cX3_readNumber 14 = .ok (.getfield 19, 3) := by decide +kernel
theorem dX3_readNumber_17 : decode cX3_readNumber 17 = .ok (.iconst 2, 1) := by decide +kernel
theorem dX3_readNumber_18 : decode cX3_readNumber 18 = .ok (.if_icmp .eq 11, 3) := by decide +kernel
theorem dX3_readNumber_21 : decode cX3_readNumber 21 = .ok (.aload_n 0, 1) := by decide +kernel
theorem dX3_readNumber_22 : decode cX3_readNumber 22 = .ok (.iconst 1, 1) := by decide +kernel
theorem dX3_readNumber_23 : decode cX3_readNumber 23 = .ok (.invokevirtual 44, 3) := by decide +kernel
theorem dX3_readNumber_26 : decode cX3_readNumber 26 = .ok (.goto 24, 3) := by decide +kernel
theorem dX3_readNumber_29 : decode cX3_readNumber 29 = .ok (.aload_n 0, 1) := by decide +kernel
theorem dX3_readNumber_30 : decode cX3_readNumber 30 = .ok (.getfield 28, 3) := by decide +kernel
theorem dX3_readNumber_33 : decode cX3_readNumber 33 = .ok (.iload_n 1, 1) := by decide +kernel
theorem dX3_readNumber_34 : decode cX3_readNumber 34 = .ok (.if_icmp .lt 11, 3) := by decide +kernel
theorem dX3_readNumber_37 : decode cX3_readNumber 37 = .ok (.aload_n 0, 1) := by decide +kernel
theorem dX3_readNumber_38 : decode cX3_readNumber 38 = .ok (.getfield 28, 3) := by decide +kernel
theorem dX3_readNumber_41 : decode cX3_readNumber 41 = .ok (.iload_n 2, 1) := by decide +kernel
theorem dX3_readNumber_42 : decode cX3_readNumber 42 = .ok (.if_icmp .le 8, 3) := by decide +kernel
theorem dX3_readNumber_45 : decode cX3_readNumber 45 = .ok (.aload_n 0, 1) := by decide +kernel
theorem dX3_readNumber_46 : decode cX3_readNumber 46 = .ok (.iconst 2, 1) := by decide +kernel
theorem dX3_readNumber_47 : decode cX3_readNumber 47 = .ok (.invokevirtual 44, 3) := by decide +kernel
theorem dX3_readNumber_50 : decode cX3_readNumber 50 = .ok (.aload_n 0, 1) := by decide +kernel
theorem dX3_readNumber_51 : decode cX3_readNumber 51 = .ok (.getfield 31, 3) := by decide +kernel
theorem dX3_readNumber_54 : decode cX3_readNumber 54 = .ok (.ifCond .ne 10, 3) := by decide +kernel
theorem dX3_readNumber_57 : decode cX3_readNumber 57 = .ok (.aload_n 0, 1) := by decide +kernel
theorem dX3_readNumber_58 : decode cX3_readNumber 58 = .ok (.getfield 28, 3) := by decide +kernel
theorem dX3_readNumber_61 : decode cX3_readNumber 61 = .ok (.goto 4, 3) := by decide +kernel
theorem dX3_readNumber_64 : decode cX3_readNumber 64 = .ok (.iconst (-1), 1) := by decide +kernel
theorem dX3_readNumber_65 : decode cX3_readNumber 65 = .ok (.ireturn, 1) := by decide +kernel
theorem dX3_readSemicolon_0 : decode cX3_readSemicolon 0 = .ok (.aload_n 0, 1) := by decide +kernel
theorem dX3_readSemicolon_1 : decode cX3_readSemicolon 1 = .ok (.getfield 31, 3) := by decide +kernel
theorem dX3_readSemicolon_4 : decode cX3_readSemicolon 4 = .ok (.ifCond .eq 4, 3) := by decide +kernel
theorem dX3_readSemicolon_7 : decode cX3_readSemicolon 7 = .ok (.return_, 1) := by decide +kernel
theorem dX3_readSemicolon_8 : decode cX3_readSemicolon 8 = .ok (.aload_n 0, 1) := by decide +kernel
theorem dX3_readSemicolon_9 : decode cX3_readSemicolon 9 = .ok (.invokevirtual 37, 3) := by decide +kernel
theorem dX3_readSemicolon_12 : decode cX3_readSemicolon 12 = .ok (.aload_n 0, 1) := by decide +kernel
theorem dX3_readSemicolon_13 : decode cX3_readSemicolon 13 = .ok (.getfield 19, 3) := by decide +kernel
theorem dX3_readSemicolon_16 : decode cX3_readSemicolon 16 = .ok (.iconst 3, 1) := by decide +kernel
theorem dX3_readSemicolon_17 : decode cX3_readSemicolon 17 = .ok (.if_icmp .eq 8, 3) := by decide +kernel
theorem dX3_readSemicolon_20 : decode cX3_readSemicolon 20 = .ok (.aload_n 0, 1) := by decide +kernel
theorem dX3_readSemicolon_21 : decode cX3_readSemicolon 21 = .ok (.iconst 1, 1) := by decide +kernel
theorem dX3_readSemicolon_22 : decode cX3_readSemicolon 22 = .ok (.invokevirtual 44, 3) := by decide +kernel
theorem dX3_readSemicolon_25 : decode cX3_readSemicolon 25 = .ok (.return_, 1) := by decide +kernel
theorem dX3_fail_0 : decode cX3_fail 0 = .ok (.aload_n 0, 1) := by decide +kernel
theorem dX3_fail_1 : decode cX3_fail 1 = .ok (.getfield 31, 3) := by decide +kernel
theorem dX3_fail_4 : decode cX3_fail 4 = .ok (.ifCond .ne 16, 3) := by decide +kernel
theorem dX3_fail_7 : decode cX3_fail 7 = .ok (.aload_n 0, 1) := by decide +kernel
theorem dX3_fail_8 : decode cX3_fail 8 = .ok (.iload_n 1, 1) := by decide +kernel
theorem dX3_fail_9 : decode cX3_fail 9 = .ok (.putfield 31, 3) := by decide +kernel
theorem dX3_fail_12 : decode cX3_fail 12 = .ok (.aload_n 0, 1) := by decide +kernel
theorem dX3_fail_13 : decode cX3_fail 13 = .ok (.aload_n 0, 1) := by decide +kernel
theorem dX3_fail_14 : decode cX3_fail 14 = .ok (.getfield 22, 3) := by decide +kernel
theorem dX3_fail_17 : decode cX3_fail 17 = .ok (.putfield 34, 3) := by decide +kernel
theorem dX3_fail_20 : decode cX3_fail 20 = .ok (.return_, 1) := by decide +kernel
theorem dX3_nextToken_0 : decode cX3_nextToken 0 = .ok (.aload_n 0, 1) := by decide +kernel
theorem dX3_nextToken_1 : decode cX3_nextToken 1 = .ok (.aload_n 0, 1) := by decide +kernel
theorem dX3_nextToken_2 : decode cX3_nextToken 2 = .ok (.getfield 25, 3) := by decide +kernel
theorem dX3_nextToken_5 : decode cX3_nextToken 5 = .ok (.putfield 22, 3) := by decide +kernel
theorem dX3_nextToken_8 : decode cX3_nextToken 8 = .ok (.aload_n 0, 1) := by decide +kernel
theorem dX3_nextToken_9 : decode cX3_nextToken 9 = .ok (.getfield 22, 3) := by decide +kernel
theorem dX3_nextToken_12 : decode cX3_nextToken 12 = .ok (.aload_n 0, 1) := by decide +kernel
theorem dX3_nextToken_13 : decode cX3_nextToken 13 = .ok (.getfield 15, 3) := by decide +kernel
theorem dX3_nextToken_16 : decode cX3_nextToken 16 = .ok (.if_icmp .ge 42, 3) := by decide +kernel
theorem dX3_nextToken_19 : decode cX3_nextToken 19 = .ok (.aload_n 0, 1) := by decide +kernel
theorem dX3_nextToken_20 : decode cX3_nextToken 20 = .ok (.aload_n 0, 1) := by decide +kernel
theorem dX3_nextToken_21 : decode cX3_nextToken 21 = .ok (.getfield 22, 3) := by decide +kernel
theorem dX3_nextToken_24 : decode cX3_nextToken 24 = .ok (.invokevirtual 116, 3) := by decide +kernel
theorem dX3_nextToken_27 : decode cX3_nextToken 27 = .ok (.bipush 32, 2) := by decide +kernel
theorem dX3_nextToken_29 : decode cX3_nextToken 29 = .ok (.if_icmp .eq 16, 3) := by decide +kernel
theorem dX3_nextToken_32 : decode cX3_nextToken 32 = .ok (.aload_n 0, 1) := by decide +kernel
theorem dX3_nextToken_33 : decode cX3_nextToken 33 = .ok (.aload_n 0, 1) := by decide +kernel
theorem dX3_nextToken_34 : decode cX3_nextToken 34 = .ok (.getfield 22, 3) := by decide +kernel
theorem dX3_nextToken_37 : decode cX3_nextToken 37 = .ok (.invokevirtual 116, 3) := by decide +kernel
theorem dX3_nextToken_40 : decode cX3_nextToken 40 = .ok (.bipush 10, 2) := by decide +kernel
theorem dX3_nextToken_42 : decode cX3_nextToken 42 = .ok (.if_icmp .ne 16, 3) := by decide +kernel
theorem dX3_nextToken_45 : decode cX3_nextToken 45 = .ok (.aload_n 0, 1) := by decide +kernel
theorem dX3_nextToken_46 : decode cX3_nextToken 46 = .ok (.dup, 1) := by decide +kernel
theorem dX3_nextToken_47 : decode cX3_nextToken 47 = .ok (.getfield 22, 3) := by decide +kernel
theorem dX3_nextToken_50 : decode cX3_nextToken 50 = .ok (.iconst 1, 1) := by decide +kernel
theorem dX3_nextToken_51 : decode cX3_nextToken 51 = .ok (.iadd, 1) := by decide +kernel
theorem dX3_nextToken_52 : decode cX3_nextToken 52 = .ok (.putfield 22, 3) := by decide +kernel
theorem dX3_nextToken_55 : decode cX3_nextToken 55 = .ok (.goto (-47), 3) := by decide +kernel
theorem dX3_nextToken_58 : decode cX3_nextToken 58 = .ok (.aload_n 0, 1) := by decide +kernel
theorem dX3_nextToken_59 : decode cX3_nextToken 59 = .ok (.aload_n 0, 1) := by decide +kernel
theorem dX3_nextToken_60 : decode cX3_nextToken 60 = .ok (.getfield 22, 3) := by decide +kernel
theorem dX3_nextToken_63 : decode cX3_nextToken 63 = .ok (.putfield 25, 3) := by decide +kernel
theorem dX3_nextToken_66 : decode cX3_nextToken 66 = .ok (.aload_n 0, 1) := by decide +kernel
theorem dX3_nextToken_67 : decode cX3_nextToken 67 = .ok (.iconst 0, 1) := by decide +kernel
theorem dX3_nextToken_68 : decode cX3_nextToken 68 = .ok (.putfield 28, 3) := by decide +kernel
theorem dX3_nextToken_71 : decode cX3_nextToken 71 = .ok (.aload_n 0, 1) := by decide +kernel
theorem dX3_nextToken_72 : decode cX3_nextToken 72 = .ok (.aload_n 0, 1) := by decide +kernel
theorem dX3_nextToken_73 : decode cX3_nextToken 73 = .ok (.getfield 22, 3) := by decide +kernel
theorem dX3_nextToken_76 : decode cX3_nextToken 76 = .ok (.aload_n 0, 1) := by decide +kernel
theorem dX3_nextToken_77 : decode cX3_nextToken 77 = .ok (.getfield 15, 3) := by decide +kernel
theorem dX3_nextToken_80 : decode cX3_nextToken 80 = .ok (.if_icmp .ge 17, 3) := by decide +kernel
theorem dX3_nextToken_83 : decode cX3_nextToken 83 = .ok (.aload_n 0, 1) := by decide +kernel
theorem dX3_nextToken_84 : decode cX3_nextToken 84 = .ok (.aload_n 0, 1) := by decide +kernel
theorem dX3_nextToken_85 : decode cX3_nextToken 85 = .ok (.getfield 22, 3) := by decide +kernel
theorem dX3_nextToken_88 : decode cX3_nextToken 88 = .ok (.invokevirtual 116, 3) := by decide +kernel
theorem dX3_nextToken_91 : decode cX3_nextToken 91 = .ok (.invokestatic 120, 3) := by decide +kernel
theorem dX3_nextToken_94 : decode cX3_nextToken 94 = .ok (.goto 4, 3) := by decide +kernel
theorem dX3_nextToken_97 : decode cX3_nextToken 97 = .ok (.iconst 0, 1) := by decide +kernel
theorem dX3_nextToken_98 : decode cX3_nextToken 98 = .ok (.putfield 19, 3) := by decide +kernel
theorem dX3_nextToken_101 : decode cX3_nextToken 101 = .ok (.aload_n 0, 1) := by decide +kernel
theorem dX3_nextToken_102 : decode cX3_nextToken 102 = .ok (.getfield 19, 3) := by decide +kernel
theorem dX3_nextToken_105 : decode cX3_nextToken 105 = .ok (.iconst 1, 1) := by decide +kernel
theorem dX3_nextToken_106 : decode cX3_nextToken 106 = .ok (.if_icmp .eq 11, 3) := by decide +kernel
theorem dX3_nextToken_109 : decode cX3_nextToken 109 = .ok (.aload_n 0, 1) := by decide +kernel
theorem dX3_nextToken_110 : decode cX3_nextToken 110 = .ok (.getfield 19, 3) := by decide +kernel
theorem dX3_nextToken_113 : decode cX3_nextToken 113 = .ok (.iconst 2, 1) := by decide +kernel
theorem dX3_nextToken_114 : decode cX3_nextToken 114 = .ok (.if_icmp .ne 85, 3) := by decide +kernel
theorem dX3_nextToken_117 : decode cX3_nextToken 117 = .ok (.aload_n 0, 1) := by decide +kernel
theorem dX3_nextToken_118 : decode cX3_nextToken 118 = .ok (.getfield 25, 3) := by decide +kernel
theorem dX3_nextToken_121 : decode cX3_nextToken 121 = .ok (.aload_n 0, 1) := by decide +kernel
theorem dX3_nextToken_122 : decode cX3_nextToken 122 = .ok (.getfield 15, 3) := by decide +kernel
theorem dX3_nextToken_125 : decode cX3_nextToken 125 = .ok (.if_icmp .ge 91, 3) := by decide +kernel
theorem dX3_nextToken_128 : decode cX3_nextToken 128 = .ok (.aload_n 0, 1) := by decide +kernel
theorem dX3_nextToken_129 : decode cX3_nextToken 129 = .ok (.aload_n 0, 1) := by decide +kernel
theorem dX3_nextToken_130 : decode cX3_nextToken 130 = .ok (.getfield 25, 3) := by decide +kernel
theorem dX3_nextToken_133 : decode cX3_nextToken 133 = .ok (.invokevirtual 116, 3) := by decide +kernel
theorem dX3_nextToken_136 : decode cX3_nextToken 136 = .ok (.invokestatic 120, 3) := by decide +kernel
theorem dX3_nextToken_139 : decode cX3_nextToken 139 = .ok (.aload_n 0, 1) := by decide +kernel
theorem dX3_nextToken_140 : decode cX3_nextToken 140 = .ok (.getfield 19, 3) := by decide +kernel
theorem dX3_nextToken_143 : decode cX3_nextToken 143 = .ok (.if_icmp .ne 73, 3) := by decide +kernel
theorem dX3_nextToken_146 : decode cX3_nextToken 146 = .ok (.aload_n 0, 1) := by decide +kernel
theorem dX3_nextToken_147 : decode cX3_nextToken 147 = .ok (.aload_n 0, 1) := by decide +kernel
theorem dX3_nextToken_148 : decode cX3_nextToken 148 = .ok (.getfield 19, 3) := by decide +kernel
theorem dX3_nextToken_151 : decode cX3_nextToken 151 = .ok (.iconst 2, 1) := by decide +kernel
theorem dX3_nextToken_152 : decode cX3_nextToken 152 = .ok (.if_icmp .ne 30, 3) := by decide +kernel
theorem dX3_nextToken_155 : decode cX3_nextToken 155 = .ok (.aload_n 0, 1) := by decide +kernel
theorem dX3_nextToken_156 : decode cX3_nextToken 156 = .ok (.getfield 28, 3) := by decide +kernel
theorem dX3_nextToken_159 : decode cX3_nextToken 159 = .ok (.bipush 10, 2) := by decide +kernel
theorem dX3_nextToken_161 : decode cX3_nextToken 161 = .ok (.imul, 1) := by decide +kernel
theorem dX3_nextToken_162 : decode cX3_nextToken 162 = .ok (.aload_n 0, 1) := by decide +kernel
theorem dX3_nextToken_163 : decode cX3_nextToken 163 = .ok (.aload_n 0, 1) := by decide +kernel
theorem dX3_nextToken_164 : decode cX3_nextToken 164 = .ok (.getfield 25, 3) := by decide +kernel
theorem dX3_nextToken_167 : decode cX3_nextToken 167 = .ok (.invokevirtual 116, 3) := by decide +kernel
theorem dX3_nextToken_170 : decode cX3_nextToken 170 = .ok (.iadd, 1) := by decide +kernel
theorem dX3_nextToken_171 : decode cX3_nextToken 171 = .ok (.bipush 48, 2) := by decide +kernel
theorem dX3_nextToken_173 : decode cX3_nextToken 173 = .ok (.isub, 1) := by decide +kernel
theorem dX3_nextToken_174 : decode cX3_nextToken 174 = .ok (.ldc 123, 2) := by decide +kernel
theorem dX3_nextToken_176 : decode cX3_nextToken 176 = .ok (.invokestatic 124, 3) := by decide +kernel
theorem dX3_nextToken_179 : decode cX3_nextToken 179 = .ok (.goto 4, 3) := by decide +kernel
theorem dX3_nextToken_182 : decode cX3_nextToken 182 = .ok (.iconst 0, 1) := by decide +kernel
theorem dX3_nextToken_183 : decode cX3_nextToken 183 = .ok (.putfield 28, 3) := by decide +kernel
theorem dX3_nextToken_186 : decode cX3_nextToken 186 = .ok (.aload_n 0, 1) := by decide +kernel
theorem dX3_nextToken_187 : decode cX3_nextToken 187 = .ok (.dup, 1) := by decide +kernel
theorem dX3_nextToken_188 : decode cX3_nextToken 188 = .ok (.getfield 25, 3) := by decide +kernel
theorem dX3_nextToken_191 : decode cX3_nextToken 191 = .ok (.iconst 1, 1) := by decide +kernel
theorem dX3_nextToken_192 : decode cX3_nextToken 192 = .ok (.iadd, 1) := by decide +kernel
theorem dX3_nextToken_193 : decode cX3_nextToken 193 = .ok (.putfield 25, 3) := by decide +kernel
theorem dX3_nextToken_196 : decode cX3_nextToken 196 = .ok (.goto (-79), 3) := by decide +kernel
theorem dX3_nextToken_199 : decode cX3_nextToken 199 = .ok (.aload_n 0, 1) := by decide +kernel
theorem dX3_nextToken_200 : decode cX3_nextToken 200 = .ok (.getfield 19, 3) := by decide +kernel
theorem dX3_nextToken_203 : decode cX3_nextToken 203 = .ok (.ifCond .eq 13, 3) := by decide +kernel
theorem dX3_nextToken_206 : decode cX3_nextToken 206 = .ok (.aload_n 0, 1) := by decide +kernel
theorem dX3_nextToken_207 : decode cX3_nextToken 207 = .ok (.dup, 1) := by decide +kernel
theorem dX3_nextToken_208 : decode cX3_nextToken 208 = .ok (.getfield 25, 3) := by decide +kernel
theorem dX3_nextToken_211 : decode cX3_nextToken 211 = .ok (.iconst 1, 1) := by decide +kernel
theorem dX3_nextToken_212 : decode cX3_nextToken 212 = .ok (.iadd, 1) := by decide +kernel
theorem dX3_nextToken_213 : decode cX3_nextToken 213 = .ok (.putfield 25, 3) := by decide +kernel
theorem dX3_nextToken_216 : decode cX3_nextToken 216 = .ok (.return_, 1) := by decide +kernel
theorem dX3_kindOf_0 : decode cX3_kindOf 0 = .ok (.iload_n 0, 1) := by decide +kernel
theorem dX3_kindOf_1 : decode cX3_kindOf 1 = .ok (.bipush 97, 2) := by decide +kernel
theorem dX3_kindOf_3 : decode cX3_kindOf 3 = .ok (.if_icmp .lt 11, 3) := by decide +kernel
theorem dX3_kindOf_6 : decode cX3_kindOf 6 = .ok (.iload_n 0, 1) := by decide +kernel
theorem dX3_kindOf_7 : decode cX3_kindOf 7 = .ok (.bipush 122, 2) := by decide +kernel
theorem dX3_kindOf_9 : decode cX3_kindOf 9 = .ok (.if_icmp .gt 5, 3) := by decide +kernel
theorem dX3_kindOf_12 : decode cX3_kindOf 12 = .ok (.iconst 1, 1) := by decide +kernel
theorem dX3_kindOf_13 : decode cX3_kindOf 13 = .ok (.ireturn, 1) := by decide +kernel
theorem dX3_kindOf_14 : decode cX3_kindOf 14 = .ok (.iload_n 0, 1) := by decide +kernel
theorem dX3_kindOf_15 : decode cX3_kindOf 15 = .ok (.bipush 48, 2) := by decide +kernel
theorem dX3_kindOf_17 : decode cX3_kindOf 17 = .ok (.if_icmp .lt 11, 3) := by decide +kernel
theorem dX3_kindOf_20 : decode cX3_kindOf 20 = .ok (.iload_n 0, 1) := by decide +kernel
theorem dX3_kindOf_21 : decode cX3_kindOf 21 = .ok (.bipush 57, 2) := by decide +kernel
theorem dX3_kindOf_23 : decode cX3_kindOf 23 = .ok (.if_icmp .gt 5, 3) := by decide +kernel
theorem dX3_kindOf_26 : decode cX3_kindOf 26 = .ok (.iconst 2, 1) := by decide +kernel
theorem dX3_kindOf_27 : decode cX3_kindOf 27 = .ok (.ireturn, 1) := by decide +kernel
theorem dX3_kindOf_28 : decode cX3_kindOf 28 = .ok (.iload_n 0, 1) := by decide +kernel
theorem dX3_kindOf_29 : decode cX3_kindOf 29 = .ok (.bipush 59, 2) := by decide +kernel
theorem dX3_kindOf_31 : decode cX3_kindOf 31 = .ok (.if_icmp .ne 7, 3) := by decide +kernel
theorem dX3_kindOf_34 : decode cX3_kindOf 34 = .ok (.iconst 3, 1) := by decide +kernel
theorem dX3_kindOf_35 : decode cX3_kindOf 35 = .ok (.goto 4, 3) := by decide +kernel
theorem dX3_kindOf_38 : decode cX3_kindOf 38 = .ok (.iconst 4, 1) := by decide +kernel
theorem dX3_kindOf_39 : decode cX3_kindOf 39 = .ok (.ireturn, 1) := by decide +kernel
theorem dX3_isWord_0 : decode cX3_isWord 0 = .ok (.aload_n 0, 1) := by decide +kernel
theorem dX3_isWord_1 : decode cX3_isWord 1 = .ok (.getfield 25, 3) := by decide +kernel
theorem dX3_isWord_4 : decode cX3_isWord 4 = .ok (.aload_n 0, 1) := by decide +kernel
theorem dX3_isWord_5 : decode cX3_isWord 5 = .ok (.getfield 22, 3) := by decide +kernel
theorem dX3_isWord_8 : decode cX3_isWord 8 = .ok (.isub, 1) := by decide +kernel
theorem dX3_isWord_9 : decode cX3_isWord 9 = .ok (.aload_n 1, 1) := by decide +kernel
theorem dX3_isWord_10 : decode cX3_isWord 10 = .ok (.invokevirtual 129, 3) := by decide +kernel
theorem dX3_isWord_13 : decode cX3_isWord 13 = .ok (.if_icmp .eq 5, 3) := by decide +kernel
theorem dX3_isWord_16 : decode cX3_isWord 16 = .ok (.iconst 0, 1) := by decide +kernel
theorem dX3_isWord_17 : decode cX3_isWord 17 = .ok (.ireturn, 1) := by decide +kernel
theorem dX3_isWord_18 : decode cX3_isWord 18 = .ok (.iconst 0, 1) := by decide +kernel
theorem dX3_isWord_19 : decode cX3_isWord 19 = .ok (.istore_n 2, 1) := by decide +kernel
theorem dX3_isWord_20 : decode cX3_isWord 20 = .ok (.iload_n 2, 1) := by decide +kernel
theorem dX3_isWord_21 : decode cX3_isWord 21 = .ok (.aload_n 1, 1) := by decide +kernel
theorem dX3_isWord_22 : decode cX3_isWord 22 = .ok (.invokevirtual 129, 3) := by decide +kernel
theorem dX3_isWord_25 : decode cX3_isWord 25 = .ok (.if_icmp .ge 29, 3) := by decide +kernel
theorem dX3_isWord_28 : decode cX3_isWord 28 = .ok (.aload_n 0, 1) := by decide +kernel
theorem dX3_isWord_29 : decode cX3_isWord 29 = .ok (.aload_n 0, 1) := by decide +kernel
theorem dX3_isWord_30 : decode cX3_isWord 30 = .ok (.getfield 22, 3) := by decide +kernel
theorem dX3_isWord_33 : decode cX3_isWord 33 = .ok (.iload_n 2, 1) := by decide +kernel
theorem dX3_isWord_34 : decode cX3_isWord 34 = .ok (.iadd, 1) := by decide +kernel
theorem dX3_isWord_35 : decode cX3_isWord 35 = .ok (.invokevirtual 116, 3) := by decide +kernel
theorem dX3_isWord_38 : decode cX3_isWord 38 = .ok (.aload_n 1, 1) := by decide +kernel
theorem dX3_isWord_39 : decode cX3_isWord 39 = .ok (.iload_n 2, 1) := by decide +kernel
theorem dX3_isWord_40 : decode cX3_isWord 40 = .ok (.invokevirtual 133, 3) := by decide +kernel
theorem dX3_isWord_43 : decode cX3_isWord 43 = .ok (.if_icmp .eq 5, 3) := by decide +kernel
theorem dX3_isWord_46 : decode cX3_isWord 46 = .ok (.iconst 0, 1) := by decide +kernel
theorem dX3_isWord_47 : decode cX3_isWord 47 = .ok (.ireturn, 1) := by decide +kernel
theorem dX3_isWord_48 : decode cX3_isWord 48 = .ok (.iinc 2 1, 3) := by decide +kernel
theorem dX3_isWord_51 : decode cX3_isWord 51 = .ok (.goto (-31), 3) := by decide +kernel
theorem dX3_isWord_54 : decode cX3_isWord 54 = .ok (.iconst 1, 1) := by decide +kernel
theorem dX3_isWord_55 : decode cX3_isWord 55 = .ok (.ireturn, 1) := by decide +kernel
theorem dX3_byteAt_0 : decode cX3_byteAt 0 = .ok (.iload_n 1, 1) := by decide +kernel
theorem dX3_byteAt_1 : decode cX3_byteAt 1 = .ok (.ifCond .lt 21, 3) := by decide +kernel
theorem dX3_byteAt_4 : decode cX3_byteAt 4 = .ok (.iload_n 1, 1) := by decide +kernel
theorem dX3_byteAt_5 : decode cX3_byteAt 5 = .ok (.aload_n 0, 1) := by decide +kernel
theorem dX3_byteAt_6 : decode cX3_byteAt 6 = .ok (.getfield 9, 3) := by decide +kernel
theorem dX3_byteAt_9 : decode cX3_byteAt 9 = .ok (.arraylength, 1) := by decide +kernel
theorem dX3_byteAt_10 : decode cX3_byteAt 10 = .ok (.if_icmp .ge 12, 3) := by decide +kernel
theorem dX3_byteAt_13 : decode cX3_byteAt 13 = .ok (.aload_n 0, 1) := by decide +kernel
theorem dX3_byteAt_14 : decode cX3_byteAt 14 = .ok (.getfield 9, 3) := by decide +kernel
theorem dX3_byteAt_17 : decode cX3_byteAt 17 = .ok (.iload_n 1, 1) := by decide +kernel
theorem dX3_byteAt_18 : decode cX3_byteAt 18 = .ok (.baload, 1) := by decide +kernel
theorem dX3_byteAt_19 : decode cX3_byteAt 19 = .ok (.goto 4, 3) := by decide +kernel
theorem dX3_byteAt_22 : decode cX3_byteAt 22 = .ok (.iconst 0, 1) := by decide +kernel
theorem dX3_byteAt_23 : decode cX3_byteAt 23 = .ok (.ireturn, 1) := by decide +kernel
theorem dX4_init_0 : decode cX4_init 0 = .ok (.aload_n 0, 1) := by decide +kernel
theorem dX4_init_1 : decode cX4_init 1 = .ok (.invokespecial 3, 3) := by decide +kernel
theorem dX4_init_4 : decode cX4_init 4 = .ok (.aload_n 0, 1) := by decide +kernel
theorem dX4_init_5 : decode cX4_init 5 = .ok (.iload_n 1, 1) := by decide +kernel
theorem dX4_init_6 : decode cX4_init 6 = .ok (.putfield 9, 3) := by decide +kernel
theorem dX4_init_9 : decode cX4_init 9 = .ok (.aload_n 0, 1) := by decide +kernel
theorem dX4_init_10 : decode cX4_init 10 = .ok (.iload_n 2, 1) := by decide +kernel
theorem dX4_init_11 : decode cX4_init 11 = .ok (.putfield 15, 3) := by decide +kernel
theorem dX4_init_14 : decode cX4_init 14 = .ok (.iload_n 1, 1) := by decide +kernel
theorem dX4_init_15 : decode cX4_init 15 = .ok (.iload_n 2, 1) := by decide +kernel
theorem dX4_init_16 : decode cX4_init 16 = .ok (.imul, 1) := by decide +kernel
theorem dX4_init_17 : decode cX4_init 17 = .ok (.istore_n 3, 1) := by decide +kernel
theorem dX4_init_18 : decode cX4_init 18 = .ok (.aload_n 0, 1) := by decide +kernel
theorem dX4_init_19 : decode cX4_init 19 = .ok (.iload_n 3, 1) := by decide +kernel
theorem dX4_init_20 : decode cX4_init 20 = .ok (.ifCond .ge 7, 3) := by decide +kernel
theorem dX4_init_23 : decode cX4_init 23 = .ok (.iconst 0, 1) := by decide +kernel
theorem dX4_init_24 : decode cX4_init 24 = .ok (.goto 4, 3) := by decide +kernel
theorem dX4_init_27 : decode cX4_init 27 = .ok (.iload_n 3, 1) := by decide +kernel
theorem dX4_init_28 : decode cX4_init 28 = .ok (.newarray .int, 2) := by decide +kernel
theorem dX4_init_30 : decode cX4_init 30 = .ok (.putfield 18, 3) := by decide +kernel
theorem dX4_init_33 : decode cX4_init 33 = .ok (.return_, 1) := by decide +kernel
theorem dX4_get_0 : decode cX4_get 0 = .ok (.iload_n 1, 1) := by decide +kernel
theorem dX4_get_1 : decode cX4_get 1 = .ok (.ifCond .lt 23, 3) := by decide +kernel
theorem dX4_get_4 : decode cX4_get 4 = .ok (.iload_n 1, 1) := by decide +kernel
theorem dX4_get_5 : decode cX4_get 5 = .ok (.aload_n 0, 1) := by decide +kernel
theorem dX4_get_6 : decode cX4_get 6 = .ok (.getfield 9, 3) := by decide +kernel
theorem dX4_get_9 : decode cX4_get 9 = .ok (.if_icmp .ge 15, 3) := by decide +kernel
theorem dX4_get_12 : decode cX4_get 12 = .ok (.iload_n 2, 1) := by decide +kernel
theorem dX4_get_13 : decode cX4_get 13 = .ok (.ifCond .lt 11, 3) := by decide +kernel
theorem dX4_get_16 : decode cX4_get 16 = .ok (.iload_n 2, 1) := by decide +kernel
theorem dX4_get_17 : decode cX4_get 17 = .ok (.aload_n 0, 1) := by decide +kernel
theorem dX4_get_18 : decode cX4_get 18 = .ok (.getfield 15, 3) := by decide +kernel
theorem dX4_get_21 : decode cX4_get 21 = .ok (.if_icmp .lt 5, 3) := by decide +kernel
theorem dX4_get_24 : decode cX4_get 24 = .ok (.iconst (-1), 1) := by decide +kernel
theorem dX4_get_25 : decode cX4_get 25 = .ok (.ireturn, 1) := by decide +kernel
theorem dX4_get_26 : decode cX4_get 26 = .ok (.iload_n 1, 1) := by decide +kernel
theorem dX4_get_27 : decode cX4_get 27 = .ok (.aload_n 0, 1) := by decide +kernel
theorem dX4_get_28 : decode cX4_get 28 = .ok (.getfield 15, 3) := by decide +kernel
theorem dX4_get_31 : decode cX4_get 31 = .ok (.imul, 1) := by decide +kernel
theorem dX4_get_32 : decode cX4_get 32 = .ok (.iload_n 2, 1) := by decide +kernel
theorem dX4_get_33 : decode cX4_get 33 = .ok (.iadd, 1) := by decide +kernel
theorem dX4_get_34 : decode cX4_get 34 = .ok (.istore_n 3, 1) := by decide +kernel
theorem dX4_get_35 : decode cX4_get 35 = .ok (.iload_n 3, 1) := by decide +kernel
theorem dX4_get_36 : decode cX4_get 36 = .ok (.ifCond .lt 21, 3) := by decide +kernel
theorem dX4_get_39 : decode cX4_get 39 = .ok (.iload_n 3, 1) := by decide +kernel
theorem dX4_get_40 : decode cX4_get 40 = .ok (.aload_n 0, 1) := by decide +kernel
theorem dX4_get_41 : decode cX4_get 41 = .ok (.getfield 18, 3) := by decide +kernel
theorem dX4_get_44 : decode cX4_get 44 = .ok (.arraylength, 1) := by decide +kernel
theorem dX4_get_45 : decode cX4_get 45 = .ok (.if_icmp .ge 12, 3) := by decide +kernel
theorem dX4_get_48 : decode cX4_get 48 = .ok (.aload_n 0, 1) := by decide +kernel
theorem dX4_get_49 : decode cX4_get 49 = .ok (.getfield 18, 3) := by decide +kernel
theorem dX4_get_52 : decode cX4_get 52 = .ok (.iload_n 3, 1) := by decide +kernel
theorem dX4_get_53 : decode cX4_get 53 = .ok (.iaload, 1) := by decide +kernel
theorem dX4_get_54 : decode cX4_get 54 = .ok (.goto 4, 3) := by decide +kernel
theorem dX4_get_57 : decode cX4_get 57 = .ok (.iconst (-1), 1) := by decide +kernel
theorem dX4_get_58 : decode cX4_get 58 = .ok (.ireturn, 1) := by decide +kernel
theorem dX4_set_0 : decode cX4_set 0 = .ok (.iload_n 1, 1) := by decide +kernel
theorem dX4_set_1 : decode cX4_set 1 = .ok (.ifCond .lt 23, 3) := by decide +kernel
theorem dX4_set_4 : decode cX4_set 4 = .ok (.iload_n 1, 1) := by decide +kernel
theorem dX4_set_5 : decode cX4_set 5 = .ok (.aload_n 0, 1) := by decide +kernel
theorem dX4_set_6 : decode cX4_set 6 = .ok (.getfield 9, 3) := by decide +kernel
theorem dX4_set_9 : decode cX4_set 9 = .ok (.if_icmp .ge 15, 3) := by decide +kernel
theorem dX4_set_12 : decode cX4_set 12 = .ok (.iload_n 2, 1) := by decide +kernel
theorem dX4_set_13 : decode cX4_set 13 = .ok (.ifCond .lt 11, 3) := by decide +kernel
theorem dX4_set_16 : decode cX4_set 16 = .ok (.iload_n 2, 1) := by decide +kernel
theorem dX4_set_17 : decode cX4_set 17 = .ok (.aload_n 0, 1) := by decide +kernel
theorem dX4_set_18 : decode cX4_set 18 = .ok (.getfield 15, 3) := by decide +kernel
theorem dX4_set_21 : decode cX4_set 21 = .ok (.if_icmp .lt 4, 3) := by decide +kernel
theorem dX4_set_24 : decode cX4_set 24 = .ok (.return_, 1) := by decide +kernel
theorem dX4_set_25 : decode cX4_set 25 = .ok (.iload_n 1, 1) := by decide +kernel
theorem dX4_set_26 : decode cX4_set 26 = .ok (.aload_n 0, 1) := by decide +kernel
theorem dX4_set_27 : decode cX4_set 27 = .ok (.getfield 15, 3) := by decide +kernel
theorem dX4_set_30 : decode cX4_set 30 = .ok (.imul, 1) := by decide +kernel
theorem dX4_set_31 : decode cX4_set 31 = .ok (.iload_n 2, 1) := by decide +kernel
theorem dX4_set_32 : decode cX4_set 32 = .ok (.iadd, 1) := by decide +kernel
theorem dX4_set_33 : decode cX4_set 33 = .ok (.istore 4, 2) := by decide +kernel
theorem dX4_set_35 : decode cX4_set 35 = .ok (.iload 4, 2) := by decide +kernel
theorem dX4_set_37 : decode cX4_set 37 = .ok (.ifCond .lt 21, 3) := by decide +kernel
theorem dX4_set_40 : decode cX4_set 40 = .ok (.iload 4, 2) := by decide +kernel
theorem dX4_set_42 : decode cX4_set 42 = .ok (.aload_n 0, 1) := by decide +kernel
theorem dX4_set_43 : decode cX4_set 43 = .ok (.getfield 18, 3) := by decide +kernel
theorem dX4_set_46 : decode cX4_set 46 = .ok (.arraylength, 1) := by decide +kernel
theorem dX4_set_47 : decode cX4_set 47 = .ok (.if_icmp .ge 11, 3) := by decide +kernel
theorem dX4_set_50 : decode cX4_set 50 = .ok (.aload_n 0, 1) := by decide +kernel
theorem dX4_set_51 : decode cX4_set 51 = .ok (.getfield 18, 3) := by decide +kernel
theorem dX4_set_54 : decode cX4_set 54 = .ok (.iload 4, 2) := by decide +kernel
theorem dX4_set_56 : decode cX4_set 56 = .ok (.iload_n 3, 1) := by decide +kernel
theorem dX4_set_57 : decode cX4_set 57 = .ok (.iastore, 1) := by decide +kernel
theorem dX4_set_58 : decode cX4_set 58 = .ok (.return_, 1) := by decide +kernel
theorem dX4_add_0 : decode cX4_add 0 = .ok (.aload_n 0, 1) := by decide +kernel
theorem dX4_add_1 : decode cX4_add 1 = .ok (.iload_n 1, 1) := by decide +kernel
theorem dX4_add_2 : decode cX4_add 2 = .ok (.iload_n 2, 1) := by decide +kernel
theorem dX4_add_3 : decode cX4_add 3 = .ok (.aload_n 0, 1) := by decide +kernel
theorem dX4_add_4 : decode cX4_add 4 = .ok (.iload_n 1, 1) := by decide +kernel
theorem dX4_add_5 : decode cX4_add 5 = .ok (.iload_n 2, 1) := by decide +kernel
theorem dX4_add_6 : decode cX4_add 6 = .ok (.invokevirtual 22, 3) := by decide +kernel
theorem dX4_add_9 : decode cX4_add 9 = .ok (.iload_n 3, 1) := by decide +kernel
theorem dX4_add_10 : decode cX4_add 10 = .ok (.iadd, 1) := by decide +kernel
theorem dX4_add_11 : decode cX4_add 11 = .ok (.invokevirtual 26, 3) := by decide +kernel
theorem dX4_add_14 : decode cX4_add 14 = .ok (.return_, 1) := by decide +kernel
theorem dX4_sum_0 : decode cX4_sum 0 = .ok (.iconst 0, 1) := by decide +kernel
theorem dX4_sum_1 : decode cX4_sum 1 = .ok (.istore_n 2, 1) := by decide +kernel
theorem dX4_sum_2 : decode cX4_sum 2 = .ok (.iconst 0, 1) := by decide +kernel
theorem dX4_sum_3 : decode cX4_sum 3 = .ok (.istore_n 3, 1) := by decide +kernel
theorem dX4_sum_4 : decode cX4_sum 4 = .ok (.iload_n 3, 1) := by decide +kernel
theorem dX4_sum_5 : decode cX4_sum 5 = .ok (.aload_n 0, 1) := by decide +kernel
theorem dX4_sum_6 : decode cX4_sum 6 = .ok (.getfield 9, 3) := by decide +kernel
theorem dX4_sum_9 : decode cX4_sum 9 = .ok (.if_icmp .ge 18, 3) := by decide +kernel
theorem dX4_sum_12 : decode cX4_sum 12 = .ok (.iload_n 2, 1) := by decide +kernel
theorem dX4_sum_13 : decode cX4_sum 13 = .ok (.aload_n 0, 1) := by decide +kernel
theorem dX4_sum_14 : decode cX4_sum 14 = .ok (.iload_n 3, 1) := by decide +kernel
theorem dX4_sum_15 : decode cX4_sum 15 = .ok (.iload_n 1, 1) := by decide +kernel
theorem dX4_sum_16 : decode cX4_sum 16 = .ok (.invokevirtual 22, 3) := by decide +kernel
theorem dX4_sum_19 : decode cX4_sum 19 = .ok (.iadd, 1) := by decide +kernel
theorem dX4_sum_20 : decode cX4_sum 20 = .ok (.istore_n 2, 1) := by decide +kernel
theorem dX4_sum_21 : decode cX4_sum 21 = .ok (.iinc 3 1, 3) := by decide +kernel
theorem dX4_sum_24 : decode cX4_sum 24 = .ok (.goto (-20), 3) := by decide +kernel
theorem dX4_sum_27 : decode cX4_sum 27 = .ok (.iload_n 2, 1) := by decide +kernel
theorem dX4_sum_28 : decode cX4_sum 28 = .ok (.ireturn, 1) := by decide +kernel
theorem dX4_clear_0 : decode cX4_clear 0 = .ok (.iconst 0, 1) := by decide +kernel
theorem dX4_clear_1 : decode cX4_clear 1 = .ok (.istore_n 1, 1) := by decide +kernel
theorem dX4_clear_2 : decode cX4_clear 2 = .ok (.iload_n 1, 1) := by decide +kernel
theorem dX4_clear_3 : decode cX4_clear 3 = .ok (.aload_n 0, 1) := by decide +kernel
theorem dX4_clear_4 : decode cX4_clear 4 = .ok (.getfield 18, 3) := by decide +kernel
theorem dX4_clear_7 : decode cX4_clear 7 = .ok (.arraylength, 1) := by decide +kernel
theorem dX4_clear_8 : decode cX4_clear 8 = .ok (.if_icmp .ge 16, 3) := by decide +kernel
theorem dX4_clear_11 : decode cX4_clear 11 = .ok (.aload_n 0, 1) := by decide +kernel
theorem dX4_clear_12 : decode cX4_clear 12 = .ok (.getfield 18, 3) := by decide +kernel
theorem dX4_clear_15 : decode cX4_clear 15 = .ok (.iload_n 1, 1) := by decide +kernel
theorem dX4_clear_16 : decode cX4_clear 16 = .ok (.iconst 0, 1) := by decide +kernel
theorem dX4_clear_17 : decode cX4_clear 17 = .ok (.iastore, 1) := by decide +kernel
theorem dX4_clear_18 : decode cX4_clear 18 = .ok (.iinc 1 1, 3) := by decide +kernel
theorem dX4_clear_21 : decode cX4_clear 21 = .ok (.goto (-19), 3) := by decide +kernel
theorem dX4_clear_24 : decode cX4_clear 24 = .ok (.return_, 1) := by decide +kernel
theorem dX4_takeFrom_0 : decode cX4_takeFrom 0 = .ok (.aload_n 1, 1) := by decide +kernel
theorem dX4_takeFrom_1 : decode cX4_takeFrom 1 = .ok (.getfield 18, 3) := by decide +kernel
theorem dX4_takeFrom_4 : decode cX4_takeFrom 4 = .ok (.iconst 0, 1) := by decide +kernel
theorem dX4_takeFrom_5 : decode cX4_takeFrom 5 = .ok (.aload_n 0, 1) := by decide +kernel
theorem dX4_takeFrom_6 : decode cX4_takeFrom 6 = .ok (.getfield 18, 3) := by decide +kernel
theorem dX4_takeFrom_9 : decode cX4_takeFrom 9 = .ok (.iconst 0, 1) := by decide +kernel
theorem dX4_takeFrom_10 : decode cX4_takeFrom 10 = .ok (.aload_n 1, 1) := by decide +kernel
theorem dX4_takeFrom_11 : decode cX4_takeFrom 11 = .ok (.getfield 18, 3) := by decide +kernel
theorem dX4_takeFrom_14 : decode cX4_takeFrom 14 = .ok (.arraylength, 1) := by decide +kernel
theorem dX4_takeFrom_15 : decode cX4_takeFrom 15 = .ok (.aload_n 0, 1) := by decide +kernel
theorem dX4_takeFrom_16 : decode cX4_takeFrom 16 = .ok (.getfield 18, 3) := by decide +kernel
theorem dX4_takeFrom_19 : decode cX4_takeFrom 19 = .ok (.arraylength, 1) := by decide +kernel
theorem dX4_takeFrom_20 : decode cX4_takeFrom 20 = .ok (.invokestatic 30, 3) := by decide +kernel
theorem dX4_takeFrom_23 : decode cX4_takeFrom 23 = .ok (.invokestatic 35, 3) := by decide +kernel
theorem dX4_takeFrom_26 : decode cX4_takeFrom 26 = .ok (.return_, 1) := by decide +kernel
theorem dX5_init_0 : decode cX5_init 0 = .ok (.aload_n 0, 1) := by decide +kernel
theorem dX5_init_1 : decode cX5_init 1 = .ok (.invokespecial 3, 3) := by decide +kernel
theorem dX5_init_4 : decode cX5_init 4 = .ok (.aload_n 0, 1) := by decide +kernel
theorem dX5_init_5 : decode cX5_init 5 = .ok (.bipush 24, 2) := by decide +kernel
theorem dX5_init_7 : decode cX5_init 7 = .ok (.newarray .long, 2) := by decide +kernel
theorem dX5_init_9 : decode cX5_init 9 = .ok (.putfield 9, 3) := by decide +kernel
theorem dX5_init_12 : decode cX5_init 12 = .ok (.aload_n 0, 1) := by decide +kernel
theorem dX5_init_13 : decode cX5_init 13 = .ok (.iconst (-1), 1) := by decide +kernel
theorem dX5_init_14 : decode cX5_init 14 = .ok (.putfield 15, 3) := by decide +kernel
theorem dX5_init_17 : decode cX5_init 17 = .ok (.aload_n 0, 1) := by decide +kernel
theorem dX5_init_18 : decode cX5_init 18 = .ok (.iconst (-1), 1) := by decide +kernel
theorem dX5_init_19 : decode cX5_init 19 = .ok (.putfield 19, 3) := by decide +kernel
theorem dX5_init_22 : decode cX5_init 22 = .ok (.aload_n 0, 1) := by decide +kernel
theorem dX5_init_23 : decode cX5_init 23 = .ok (.iconst (-1), 1) := by decide +kernel
theorem dX5_init_24 : decode cX5_init 24 = .ok (.putfield 22, 3) := by decide +kernel
theorem dX5_init_27 : decode cX5_init 27 = .ok (.return_, 1) := by decide +kernel
theorem dX5_clear_0 : decode cX5_clear 0 = .ok (.iconst 0, 1) := by decide +kernel
theorem dX5_clear_1 : decode cX5_clear 1 = .ok (.istore_n 1, 1) := by decide +kernel
theorem dX5_clear_2 : decode cX5_clear 2 = .ok (.iload_n 1, 1) := by decide +kernel
theorem dX5_clear_3 : decode cX5_clear 3 = .ok (.aload_n 0, 1) := by decide +kernel
theorem dX5_clear_4 : decode cX5_clear 4 = .ok (.getfield 9, 3) := by decide +kernel
theorem dX5_clear_7 : decode cX5_clear 7 = .ok (.arraylength, 1) := by decide +kernel
theorem dX5_clear_8 : decode cX5_clear 8 = .ok (.if_icmp .ge 16, 3) := by decide +kernel
theorem dX5_clear_11 : decode cX5_clear 11 = .ok (.aload_n 0, 1) := by decide +kernel
theorem dX5_clear_12 : decode cX5_clear 12 = .ok (.getfield 9, 3) := by decide +kernel
theorem dX5_clear_15 : decode cX5_clear 15 = .ok (.iload_n 1, 1) := by decide +kernel
theorem dX5_clear_16 : decode cX5_clear 16 = .ok (.lconst 0, 1) := by decide +kernel
theorem dX5_clear_17 : decode cX5_clear 17 = .ok (.lastore, 1) := by decide +kernel
theorem dX5_clear_18 : decode cX5_clear 18 = .ok (.iinc 1 1, 3) := by decide +kernel
theorem dX5_clear_21 : decode cX5_clear 21 = .ok (.goto (-19), 3) := by decide +kernel
theorem dX5_clear_24 : decode cX5_clear 24 = .ok (.return_, 1) := by decide +kernel
theorem dX5_takeFrom_0 : decode cX5_takeFrom 0 = .ok (.aload_n 1, 1) := by decide +kernel
theorem dX5_takeFrom_1 : decode cX5_takeFrom 1 = .ok (.getfield 9, 3) := by decide +kernel
theorem dX5_takeFrom_4 : decode cX5_takeFrom 4 = .ok (.iconst 0, 1) := by decide +kernel
theorem dX5_takeFrom_5 : decode cX5_takeFrom 5 = .ok (.aload_n 0, 1) := by decide +kernel
theorem dX5_takeFrom_6 : decode cX5_takeFrom 6 = .ok (.getfield 9, 3) := by decide +kernel
theorem dX5_takeFrom_9 : decode cX5_takeFrom 9 = .ok (.iconst 0, 1) := by decide +kernel
theorem dX5_takeFrom_10 : decode cX5_takeFrom 10 = .ok (.aload_n 1, 1) := by decide +kernel
theorem dX5_takeFrom_11 : decode cX5_takeFrom 11 = .ok (.getfield 9, 3) := by decide +kernel
theorem dX5_takeFrom_14 : decode cX5_takeFrom 14 = .ok (.arraylength, 1) := by decide +kernel
theorem dX5_takeFrom_15 : decode cX5_takeFrom 15 = .ok (.aload_n 0, 1) := by decide +kernel
theorem dX5_takeFrom_16 : decode cX5_takeFrom 16 = .ok (.getfield 9, 3) := by decide +kernel
theorem dX5_takeFrom_19 : decode cX5_takeFrom 19 = .ok (.arraylength, 1) := by decide +kernel
theorem dX5_takeFrom_20 : decode cX5_takeFrom 20 = .ok (.invokestatic 25, 3) := by decide +kernel
theorem dX5_takeFrom_23 : decode cX5_takeFrom 23 = .ok (.invokestatic 31, 3) := by decide +kernel
theorem dX5_takeFrom_26 : decode cX5_takeFrom 26 = .ok (.return_, 1) := by decide +kernel
theorem dX5_connect_0 : decode cX5_connect 0 = .ok (.iload_n 1, 1) := by decide +kernel
theorem dX5_connect_1 : decode cX5_connect 1 = .ok (.ifCond .lt 38, 3) := by decide +kernel
theorem dX5_connect_4 : decode cX5_connect 4 = .ok (.iload_n 1, 1) := by decide +kernel
theorem dX5_connect_5 : decode cX5_connect 5 = .ok (.aload_n 0, 1) := by decide +kernel
theorem dX5_connect_6 : decode cX5_connect 6 = .ok (.getfield 9, 3) := by decide +kernel
theorem dX5_connect_9 : decode cX5_connect 9 = .ok (.arraylength, 1) := by decide +kernel
theorem dX5_connect_10 : decode cX5_connect 10 = .ok (.if_icmp .ge 29, 3) := by decide +kernel
theorem dX5_connect_13 : decode cX5_connect 13 = .ok (.aload_n 0, 1) := by decide +kernel
theorem dX5_connect_14 : decode cX5_connect 14 = .ok (.getfield 9, 3) := by decide +kernel
theorem dX5_connect_17 : decode cX5_connect 17 = .ok (.iload_n 1, 1) := by decide +kernel
theorem dX5_connect_18 : decode cX5_connect 18 = .ok (.dup2, 1) := by decide +kernel
theorem dX5_connect_19 : decode cX5_connect 19 = .ok (.laload, 1) := by decide +kernel
theorem dX5_connect_20 : decode cX5_connect 20 = .ok (.lconst 1, 1) := by decide +kernel
theorem dX5_connect_21 : decode cX5_connect 21 = .ok (.iload_n 2, 1) := by decide +kernel
theorem dX5_connect_22 : decode cX5_connect 22 = .ok (.bipush 8, 2) := by decide +kernel
theorem dX5_connect_24 : decode cX5_connect 24 = .ok (.imul, 1) := by decide +kernel
theorem dX5_connect_25 : decode cX5_connect 25 = .ok (.iload_n 3, 1) := by decide +kernel
theorem dX5_connect_26 : decode cX5_connect 26 = .ok (.iadd, 1) := by decide +kernel
theorem dX5_connect_27 : decode cX5_connect 27 = .ok (.lshl, 1) := by decide +kernel
theorem dX5_connect_28 : decode cX5_connect 28 = .ok (.lconst 1, 1) := by decide +kernel
theorem dX5_connect_29 : decode cX5_connect 29 = .ok (.iload_n 3, 1) := by decide +kernel
theorem dX5_connect_30 : decode cX5_connect 30 = .ok (.bipush 8, 2) := by decide +kernel
theorem dX5_connect_32 : decode cX5_connect 32 = .ok (.imul, 1) := by decide +kernel
theorem dX5_connect_33 : decode cX5_connect 33 = .ok (.iload_n 2, 1) := by decide +kernel
theorem dX5_connect_34 : decode cX5_connect 34 = .ok (.iadd, 1) := by decide +kernel
theorem dX5_connect_35 : decode cX5_connect 35 = .ok (.lshl, 1) := by decide +kernel
theorem dX5_connect_36 : decode cX5_connect 36 = .ok (.lor, 1) := by decide +kernel
theorem dX5_connect_37 : decode cX5_connect 37 = .ok (.lor, 1) := by decide +kernel
theorem dX5_connect_38 : decode cX5_connect 38 = .ok (.lastore, 1) := by decide +kernel
theorem dX5_connect_39 : decode cX5_connect 39 = .ok (.return_, 1) := by decide +kernel
theorem dX5_goesFrom_0 : decode cX5_goesFrom 0 = .ok (.aload_n 0, 1) := by decide +kernel
theorem dX5_goesFrom_1 : decode cX5_goesFrom 1 = .ok (.iload_n 2, 1) := by decide +kernel
theorem dX5_goesFrom_2 : decode cX5_goesFrom 2 = .ok (.invokevirtual 37, 3) := by decide +kernel
theorem dX5_goesFrom_5 : decode cX5_goesFrom 5 = .ok (.iload_n 1, 1) := by decide +kernel
theorem dX5_goesFrom_6 : decode cX5_goesFrom 6 = .ok (.invokestatic 41, 3) := by decide +kernel
theorem dX5_goesFrom_9 : decode cX5_goesFrom 9 = .ok (.iload_n 3, 1) := by decide +kernel
theorem dX5_goesFrom_10 : decode cX5_goesFrom 10 = .ok (.iconst (-1), 1) := by decide +kernel
theorem dX5_goesFrom_11 : decode cX5_goesFrom 11 = .ok (.ixor, 1) := by decide +kernel
theorem dX5_goesFrom_12 : decode cX5_goesFrom 12 = .ok (.iand, 1) := by decide +kernel
theorem dX5_goesFrom_13 : decode cX5_goesFrom 13 = .ok (.ifCond .eq 7, 3) := by decide +kernel
theorem dX5_goesFrom_16 : decode cX5_goesFrom 16 = .ok (.iconst 1, 1) := by decide +kernel
theorem dX5_goesFrom_17 : decode cX5_goesFrom 17 = .ok (.goto 4, 3) := by decide +kernel
theorem dX5_goesFrom_20 : decode cX5_goesFrom 20 = .ok (.iconst 0, 1) := by decide +kernel
theorem dX5_goesFrom_21 : decode cX5_goesFrom 21 = .ok (.ireturn, 1) := by decide +kernel
theorem dX5_find_0 : decode cX5_find 0 = .ok (.aload_n 0, 1) := by decide +kernel
theorem dX5_find_1 : decode cX5_find 1 = .ok (.iload_n 1, 1) := by decide +kernel
theorem dX5_find_2 : decode cX5_find 2 = .ok (.iload_n 2, 1) := by decide +kernel
theorem dX5_find_3 : decode cX5_find 3 = .ok (.iload_n 3, 1) := by decide +kernel
theorem dX5_find_4 : decode cX5_find 4 = .ok (.iload 4, 2) := by decide +kernel
theorem dX5_find_6 : decode cX5_find 6 = .ok (.invokevirtual 45, 3) := by decide +kernel
theorem dX5_find_9 : decode cX5_find 9 = .ok (.istore 5, 2) := by decide +kernel
theorem dX5_find_11 : decode cX5_find 11 = .ok (.iload 5, 2) := by decide +kernel
theorem dX5_find_13 : decode cX5_find 13 = .ok (.iconst (-1), 1) := by decide +kernel
theorem dX5_find_14 : decode cX5_find 14 = .ok (.if_icmp .ne 5, 3) := by decide +kernel
theorem dX5_find_17 : decode cX5_find 17 = .ok (.iconst 0, 1) := by decide +kernel
theorem dX5_find_18 : decode cX5_find 18 = .ok (.ireturn, 1) := by decide +kernel
theorem dX5_find_19 : decode cX5_find 19 = .ok (.aload_n 0, 1) := by decide +kernel
theorem dX5_find_20 : decode cX5_find 20 = .ok (.iload_n 3, 1) := by decide +kernel
theorem dX5_find_21 : decode cX5_find 21 = .ok (.iload 5, 2) := by decide +kernel
theorem dX5_find_23 : decode cX5_find 23 = .ok (.iadd, 1) := by decide +kernel
theorem dX5_find_24 : decode cX5_find 24 = .ok (.putfield 15, 3) := by decide +kernel
theorem dX5_find_27 : decode cX5_find 27 = .ok (.aload_n 0, 1) := by decide +kernel
theorem dX5_find_28 : decode cX5_find 28 = .ok (.iload_n 3, 1) := by decide +kernel
theorem dX5_find_29 : decode cX5_find 29 = .ok (.invokevirtual 37, 3) := by decide +kernel
theorem dX5_find_32 : decode cX5_find 32 = .ok (.iload_n 1, 1) := by decide +kernel
theorem dX5_find_33 : decode cX5_find 33 = .ok (.invokestatic 41, 3) := by decide +kernel
theorem dX5_find_36 : decode cX5_find 36 = .ok (.iload 4, 2) := by decide +kernel
theorem dX5_find_38 : decode cX5_find 38 = .ok (.iconst (-1), 1) := by decide +kernel
theorem dX5_find_39 : decode cX5_find 39 = .ok (.ixor, 1) := by decide +kernel
theorem dX5_find_40 : decode cX5_find 40 = .ok (.iand, 1) := by decide +kernel
theorem dX5_find_41 : decode cX5_find 41 = .ok (.istore 6, 2) := by decide +kernel
theorem dX5_find_43 : decode cX5_find 43 = .ok (.aload_n 0, 1) := by decide +kernel
theorem dX5_find_44 : decode cX5_find 44 = .ok (.iload_n 2, 1) := by decide +kernel
theorem dX5_find_45 : decode cX5_find 45 = .ok (.iload_n 3, 1) := by decide +kernel
theorem dX5_find_46 : decode cX5_find 46 = .ok (.iload 5, 2) := by decide +kernel
theorem dX5_find_48 : decode cX5_find 48 = .ok (.iload 4, 2) := by decide +kernel
theorem dX5_find_50 : decode cX5_find 50 = .ok (.iconst 1, 1) := by decide +kernel
theorem dX5_find_51 : decode cX5_find 51 = .ok (.iload_n 1, 1) := by decide +kernel
theorem dX5_find_52 : decode cX5_find 52 = .ok (.ishl, 1) := by decide +kernel
theorem dX5_find_53 : decode cX5_find 53 = .ok (.iconst (-1), 1) := by decide +kernel
theorem dX5_find_54 : decode cX5_find 54 = .ok (.ixor, 1) := by decide +kernel
theorem dX5_find_55 : decode cX5_find 55 = .ok (.iand, 1) := by decide +kernel
theorem dX5_find_56 : decode cX5_find 56 = .ok (.invokevirtual 49, 3) := by decide +kernel
theorem dX5_find_59 : decode cX5_find 59 = .ok (.lstore 7, 2) := by decide +kernel
theorem dX5_find_61 : decode cX5_find 61 = .ok (.aload_n 0, 1) := by decide +kernel
theorem dX5_find_62 : decode cX5_find 62 = .ok (.iconst (-1), 1) := by decide +kernel
theorem dX5_find_63 : decode cX5_find 63 = .ok (.putfield 19, 3) := by decide +kernel
theorem dX5_find_66 : decode cX5_find 66 = .ok (.aload_n 0, 1) := by decide +kernel
theorem dX5_find_67 : decode cX5_find 67 = .ok (.iconst (-1), 1) := by decide +kernel
theorem dX5_find_68 : decode cX5_find 68 = .ok (.putfield 22, 3) := by decide +kernel
theorem dX5_find_71 : decode cX5_find 71 = .ok (.iconst 0, 1) := by decide +kernel
theorem dX5_find_72 : decode cX5_find 72 = .ok (.istore 9, 2) := by decide +kernel
theorem dX5_find_74 : decode cX5_find 74 = .ok (.iload 9, 2) := by decide +kernel
theorem dX5_find_76 : decode cX5_find 76 = .ok (.bipush 8, 2) := by decide +kernel
theorem dX5_find_78 : decode cX5_find 78 = .ok (.if_icmp .ge 84, 3) := by decide +kernel
theorem dX5_find_81 : decode cX5_find 81 = .ok (.aload_n 0, 1) := by decide +kernel
theorem dX5_find_82 : decode cX5_find 82 = .ok (.getfield 19, 3) := by decide +kernel
theorem dX5_find_85 : decode cX5_find 85 = .ok (.iconst (-1), 1) := by decide +kernel
theorem dX5_find_86 : decode cX5_find 86 = .ok (.if_icmp .ne 76, 3) := by decide +kernel
theorem dX5_find_89 : decode cX5_find 89 = .ok (.iload 9, 2) := by decide +kernel
theorem dX5_find_91 : decode cX5_find 91 = .ok (.ifCond .ne 7, 3) := by decide +kernel
theorem dX5_find_94 : decode cX5_find 94 = .ok (.iconst 0, 1) := by decide +kernel
theorem dX5_find_95 : decode cX5_find 95 = .ok (.goto 15, 3) := by decide +kernel
theorem dX5_find_98 : decode cX5_find 98 = .ok (.lload 7, 2) := by decide +kernel
theorem dX5_find_100 : decode cX5_find 100 = .ok (.iload 9, 2) := by decide +kernel
theorem dX5_find_102 : decode cX5_find 102 = .ok (.iconst 1, 1) := by decide +kernel
theorem dX5_find_103 : decode cX5_find 103 = .ok (.isub, 1) := by decide +kernel
theorem dX5_find_104 : decode cX5_find 104 = .ok (.invokestatic 41, 3) := by decide +kernel
theorem dX5_find_107 : decode cX5_find 107 = .ok (.iload 6, 2) := by decide +kernel
theorem dX5_find_109 : decode cX5_find 109 = .ok (.iand, 1) := by decide +kernel
theorem dX5_find_110 : decode cX5_find 110 = .ok (.istore 10, 2) := by decide +kernel
theorem dX5_find_112 : decode cX5_find 112 = .ok (.iload 10, 2) := by decide +kernel
theorem dX5_find_114 : decode cX5_find 114 = .ok (.ifCond .eq 21, 3) := by decide +kernel
theorem dX5_find_117 : decode cX5_find 117 = .ok (.aload_n 0, 1) := by decide +kernel
theorem dX5_find_118 : decode cX5_find 118 = .ok (.iload 10, 2) := by decide +kernel
theorem dX5_find_120 : decode cX5_find 120 = .ok (.invokestatic 53, 3) := by decide +kernel
theorem dX5_find_123 : decode cX5_find 123 = .ok (.putfield 22, 3) := by decide +kernel
theorem dX5_find_126 : decode cX5_find 126 = .ok (.aload_n 0, 1) := by decide +kernel
theorem dX5_find_127 : decode cX5_find 127 = .ok (.iload 9, 2) := by decide +kernel
theorem dX5_find_129 : decode cX5_find 129 = .ok (.putfield 19, 3) := by decide +kernel
theorem dX5_find_132 : decode cX5_find 132 = .ok (.goto 24, 3) := by decide +kernel
theorem dX5_find_135 : decode cX5_find 135 = .ok (.lload 7, 2) := by decide +kernel
theorem dX5_find_137 : decode cX5_find 137 = .ok (.iload 9, 2) := by decide +kernel
theorem dX5_find_139 : decode cX5_find 139 = .ok (.invokestatic 41, 3) := by decide +kernel
theorem dX5_find_142 : decode cX5_find 142 = .ok (.iload_n 1, 1) := by decide +kernel
theorem dX5_find_143 : decode cX5_find 143 = .ok (.ishr, 1) := by decide +kernel
theorem dX5_find_144 : decode cX5_find 144 = .ok (.iconst 1, 1) := by decide +kernel
theorem dX5_find_145 : decode cX5_find 145 = .ok (.iand, 1) := by decide +kernel
theorem dX5_find_146 : decode cX5_find 146 = .ok (.iconst 1, 1) := by decide +kernel
theorem dX5_find_147 : decode cX5_find 147 = .ok (.if_icmp .ne 9, 3) := by decide +kernel
theorem dX5_find_150 : decode cX5_find 150 = .ok (.aload_n 0, 1) := by decide +kernel
theorem dX5_find_151 : decode cX5_find 151 = .ok (.iload 9, 2) := by decide +kernel
theorem dX5_find_153 : decode cX5_find 153 = .ok (.putfield 19, 3) := by decide +kernel
theorem dX5_find_156 : decode cX5_find 156 = .ok (.iinc 9 1, 3) := by decide +kernel
theorem dX5_find_159 : decode cX5_find 159 = .ok (.goto (-85), 3) := by decide +kernel
theorem dX5_find_162 : decode cX5_find 162 = .ok (.iconst 1, 1) := by decide +kernel
theorem dX5_find_163 : decode cX5_find 163 = .ok (.ireturn, 1) := by decide +kernel
theorem dX5_arrival_0 : decode cX5_arrival 0 = .ok (.aload_n 0, 1) := by decide +kernel
theorem dX5_arrival_1 : decode cX5_arrival 1 = .ok (.getfield 15, 3) := by decide +kernel
theorem dX5_arrival_4 : decode cX5_arrival 4 = .ok (.ireturn, 1) := by decide +kernel
theorem dX5_fewest_0 : decode cX5_fewest 0 = .ok (.aload_n 0, 1) := by decide +kernel
theorem dX5_fewest_1 : decode cX5_fewest 1 = .ok (.getfield 19, 3) := by decide +kernel
theorem dX5_fewest_4 : decode cX5_fewest 4 = .ok (.ireturn, 1) := by decide +kernel
theorem dX5_next_0 : decode cX5_next 0 = .ok (.aload_n 0, 1) := by decide +kernel
theorem dX5_next_1 : decode cX5_next 1 = .ok (.getfield 22, 3) := by decide +kernel
theorem dX5_next_4 : decode cX5_next 4 = .ok (.ireturn, 1) := by decide +kernel
theorem dX5_reached_0 : decode cX5_reached 0 = .ok (.iconst 1, 1) := by decide +kernel
theorem dX5_reached_1 : decode cX5_reached 1 = .ok (.iload_n 1, 1) := by decide +kernel
theorem dX5_reached_2 : decode cX5_reached 2 = .ok (.ishl, 1) := by decide +kernel
theorem dX5_reached_3 : decode cX5_reached 3 = .ok (.istore 4, 2) := by decide +kernel
theorem dX5_reached_5 : decode cX5_reached 5 = .ok (.iconst 0, 1) := by decide +kernel
theorem dX5_reached_6 : decode cX5_reached 6 = .ok (.istore 5, 2) := by decide +kernel
theorem dX5_reached_8 : decode cX5_reached 8 = .ok (.iload 5, 2) := by decide +kernel
theorem dX5_reached_10 : decode cX5_reached 10 = .ok (.bipush 24, 2) := by decide +kernel
theorem dX5_reached_12 : decode cX5_reached 12 = .ok (.if_icmp .ge 31, 3) := by decide +kernel
theorem dX5_reached_15 : decode cX5_reached 15 = .ok (.iload 4, 2) := by decide +kernel
theorem dX5_reached_17 : decode cX5_reached 17 = .ok (.iload 4, 2) := by decide +kernel
theorem dX5_reached_19 : decode cX5_reached 19 = .ok (.aload_n 0, 1) := by decide +kernel
theorem dX5_reached_20 : decode cX5_reached 20 = .ok (.iload_n 2, 1) := by decide +kernel
theorem dX5_reached_21 : decode cX5_reached 21 = .ok (.iload 5, 2) := by decide +kernel
theorem dX5_reached_23 : decode cX5_reached 23 = .ok (.iadd, 1) := by decide +kernel
theorem dX5_reached_24 : decode cX5_reached 24 = .ok (.invokevirtual 37, 3) := by decide +kernel
theorem dX5_reached_27 : decode cX5_reached 27 = .ok (.invokestatic 59, 3) := by decide +kernel
theorem dX5_reached_30 : decode cX5_reached 30 = .ok (.iload_n 3, 1) := by decide +kernel
theorem dX5_reached_31 : decode cX5_reached 31 = .ok (.iconst (-1), 1) := by decide +kernel
theorem dX5_reached_32 : decode cX5_reached 32 = .ok (.ixor, 1) := by decide +kernel
theorem dX5_reached_33 : decode cX5_reached 33 = .ok (.iand, 1) := by decide +kernel
theorem dX5_reached_34 : decode cX5_reached 34 = .ok (.ior, 1) := by decide +kernel
theorem dX5_reached_35 : decode cX5_reached 35 = .ok (.istore 4, 2) := by decide +kernel
theorem dX5_reached_37 : decode cX5_reached 37 = .ok (.iinc 5 1, 3) := by decide +kernel
theorem dX5_reached_40 : decode cX5_reached 40 = .ok (.goto (-32), 3) := by decide +kernel
theorem dX5_reached_43 : decode cX5_reached 43 = .ok (.iload 4, 2) := by decide +kernel
theorem dX5_reached_45 : decode cX5_reached 45 = .ok (.invokestatic 63, 3) := by decide +kernel
theorem dX5_reached_48 : decode cX5_reached 48 = .ok (.iconst 1, 1) := by decide +kernel
theorem dX5_reached_49 : decode cX5_reached 49 = .ok (.isub, 1) := by decide +kernel
theorem dX5_reached_50 : decode cX5_reached 50 = .ok (.ireturn, 1) := by decide +kernel
theorem dX5_hoursOfEarliest_0 : decode cX5_hoursOfEarliest 0 = .ok (.iconst 1, 1) := by decide +kernel
theorem dX5_hoursOfEarliest_1 : decode cX5_hoursOfEarliest 1 = .ok (.iload_n 1, 1) := by decide +kernel
theorem dX5_hoursOfEarliest_2 : decode cX5_hoursOfEarliest 2 = .ok (.ishl, 1) := by decide +kernel
theorem dX5_hoursOfEarliest_3 : decode cX5_hoursOfEarliest 3 = .ok (.istore 5, 2) := by decide +kernel
theorem dX5_hoursOfEarliest_5 : decode cX5_hoursOfEarliest 5 = .ok (.iconst 0, 1) := by decide +kernel
theorem dX5_hoursOfEarliest_6 : decode cX5_hoursOfEarliest 6 = .ok (.istore 6, 2) := by decide +kernel
theorem dX5_hoursOfEarliest_8 : decode cX5_hoursOfEarliest 8 = .ok (.iload 6, 2) := by decide +kernel
theorem dX5_hoursOfEarliest_10 : decode cX5_hoursOfEarliest 10 = .ok (.bipush 24, 2) := by decide +kernel
theorem dX5_hoursOfEarliest_12 : decode cX5_hoursOfEarliest 12 = .ok (.if_icmp .ge 47, 3) := by decide +kernel
theorem dX5_hoursOfEarliest_15 : decode cX5_hoursOfEarliest 15 = .ok (.iload 5, 2) := by decide +kernel
theorem dX5_hoursOfEarliest_17 : decode cX5_hoursOfEarliest 17 = .ok (.iload 5, 2) := by decide +kernel
theorem dX5_hoursOfEarliest_19 : decode cX5_hoursOfEarliest 19 = .ok (.aload_n 0, 1) := by decide +kernel
theorem dX5_hoursOfEarliest_20 : decode cX5_hoursOfEarliest 20 = .ok (.iload_n 3, 1) := by decide +kernel
theorem dX5_hoursOfEarliest_21 : decode cX5_hoursOfEarliest 21 = .ok (.iload 6, 2) := by decide +kernel
theorem dX5_hoursOfEarliest_23 : decode cX5_hoursOfEarliest 23 = .ok (.iadd, 1) := by decide +kernel
theorem dX5_hoursOfEarliest_24 : decode cX5_hoursOfEarliest 24 = .ok (.invokevirtual 37, 3) := by decide +kernel
theorem dX5_hoursOfEarliest_27 : decode cX5_hoursOfEarliest 27 = .ok (.invokestatic 59, 3) := by decide +kernel
theorem dX5_hoursOfEarliest_30 : decode cX5_hoursOfEarliest 30 = .ok (.iload 4, 2) := by decide +kernel
theorem dX5_hoursOfEarliest_32 : decode cX5_hoursOfEarliest 32 = .ok (.iconst (-1), 1) := by decide +kernel
theorem dX5_hoursOfEarliest_33 : decode cX5_hoursOfEarliest 33 = .ok (.ixor, 1) := by decide +kernel
theorem dX5_hoursOfEarliest_34 : decode cX5_hoursOfEarliest 34 = .ok (.iand, 1) := by decide +kernel
theorem dX5_hoursOfEarliest_35 : decode cX5_hoursOfEarliest 35 = .ok (.ior, 1) := by decide +kernel
theorem dX5_hoursOfEarliest_36 : decode cX5_hoursOfEarliest 36 = .ok (.istore 5, 2) := by decide +kernel
theorem dX5_hoursOfEarliest_38 : decode cX5_hoursOfEarliest 38 = .ok (.iload 5, 2) := by decide +kernel
theorem dX5_hoursOfEarliest_40 : decode cX5_hoursOfEarliest 40 = .ok (.iload_n 2, 1) := by decide +kernel
theorem dX5_hoursOfEarliest_41 : decode cX5_hoursOfEarliest 41 = .ok (.ishr, 1) := by decide +kernel
theorem dX5_hoursOfEarliest_42 : decode cX5_hoursOfEarliest 42 = .ok (.iconst 1, 1) := by decide +kernel
theorem dX5_hoursOfEarliest_43 : decode cX5_hoursOfEarliest 43 = .ok (.iand, 1) := by decide +kernel
theorem dX5_hoursOfEarliest_44 : decode cX5_hoursOfEarliest 44 = .ok (.iconst 1, 1) := by decide +kernel
theorem dX5_hoursOfEarliest_45 : decode cX5_hoursOfEarliest 45 = .ok (.if_icmp .ne 8, 3) := by decide +kernel
theorem dX5_hoursOfEarliest_48 : decode cX5_hoursOfEarliest 48 = .ok (.iload 6, 2) := by decide +kernel
theorem dX5_hoursOfEarliest_50 : decode cX5_hoursOfEarliest 50 = .ok (.iconst 1, 1) := by decide +kernel
theorem dX5_hoursOfEarliest_51 : decode cX5_hoursOfEarliest 51 = .ok (.iadd, 1) := by decide +kernel
theorem dX5_hoursOfEarliest_52 : decode cX5_hoursOfEarliest 52 = .ok (.ireturn, 1) := by decide +kernel
theorem dX5_hoursOfEarliest_53 : decode cX5_hoursOfEarliest 53 = .ok (.iinc 6 1, 3) := by decide +kernel
theorem dX5_hoursOfEarliest_56 : decode cX5_hoursOfEarliest 56 = .ok (.goto (-48), 3) := by decide +kernel
theorem dX5_hoursOfEarliest_59 : decode cX5_hoursOfEarliest 59 = .ok (.iconst (-1), 1) := by decide +kernel
theorem dX5_hoursOfEarliest_60 : decode cX5_hoursOfEarliest 60 = .ok (.ireturn, 1) := by decide +kernel
theorem dX5_restsAfterFirstHour_0 : decode cX5_restsAfterFirstHour 0 = .ok (.ldc2_w 66, 3) := by decide +kernel
theorem dX5_restsAfterFirstHour_3 : decode cX5_restsAfterFirstHour 3 = .ok (.iload_n 1, 1) := by decide +kernel
theorem dX5_restsAfterFirstHour_4 : decode cX5_restsAfterFirstHour 4 = .ok (.lshl, 1) := by decide +kernel
theorem dX5_restsAfterFirstHour_5 : decode cX5_restsAfterFirstHour 5 = .ok (.lstore 5, 2) := by decide +kernel
theorem dX5_restsAfterFirstHour_7 : decode cX5_restsAfterFirstHour 7 = .ok (.ldc2_w 66, 3) := by decide +kernel
theorem dX5_restsAfterFirstHour_10 : decode cX5_restsAfterFirstHour 10 = .ok (.sipush 255, 3) := by decide +kernel
theorem dX5_restsAfterFirstHour_13 : decode cX5_restsAfterFirstHour 13 = .ok (.iload 4, 2) := by decide +kernel
theorem dX5_restsAfterFirstHour_15 : decode cX5_restsAfterFirstHour 15 = .ok (.iconst (-1), 1) := by decide +kernel
theorem dX5_restsAfterFirstHour_16 : decode cX5_restsAfterFirstHour 16 = .ok (.ixor, 1) := by decide +kernel
theorem dX5_restsAfterFirstHour_17 : decode cX5_restsAfterFirstHour 17 = .ok (.iand, 1) := by decide +kernel
theorem dX5_restsAfterFirstHour_18 : decode cX5_restsAfterFirstHour 18 = .ok (.i2l, 1) := by decide +kernel
theorem dX5_restsAfterFirstHour_19 : decode cX5_restsAfterFirstHour 19 = .ok (.lmul, 1) := by decide +kernel
theorem dX5_restsAfterFirstHour_20 : decode cX5_restsAfterFirstHour 20 = .ok (.lstore 7, 2) := by decide +kernel
theorem dX5_restsAfterFirstHour_22 : decode cX5_restsAfterFirstHour 22 = .ok (.iload_n 3, 1) := by decide +kernel
theorem dX5_restsAfterFirstHour_23 : decode cX5_restsAfterFirstHour 23 = .ok (.iconst 1, 1) := by decide +kernel
theorem dX5_restsAfterFirstHour_24 : decode cX5_restsAfterFirstHour 24 = .ok (.isub, 1) := by decide +kernel
theorem dX5_restsAfterFirstHour_25 : decode cX5_restsAfterFirstHour 25 = .ok (.istore 9, 2) := by decide +kernel
theorem dX5_restsAfterFirstHour_27 : decode cX5_restsAfterFirstHour 27 = .ok (.iload 9, 2) := by decide +kernel
theorem dX5_restsAfterFirstHour_29 : decode cX5_restsAfterFirstHour 29 = .ok (.ifCond .le 74, 3) := by decide +kernel
theorem dX5_restsAfterFirstHour_32 : decode cX5_restsAfterFirstHour 32 = .ok (.aload_n 0, 1) := by decide +kernel
theorem dX5_restsAfterFirstHour_33 : decode cX5_restsAfterFirstHour 33 = .ok (.iload_n 2, 1) := by decide +kernel
theorem dX5_restsAfterFirstHour_34 : decode cX5_restsAfterFirstHour 34 = .ok (.iload 9, 2) := by decide +kernel
theorem dX5_restsAfterFirstHour_36 : decode cX5_restsAfterFirstHour 36 = .ok (.iadd, 1) := by decide +kernel
theorem dX5_restsAfterFirstHour_37 : decode cX5_restsAfterFirstHour 37 = .ok (.invokevirtual 37, 3) := by decide +kernel
theorem dX5_restsAfterFirstHour_40 : decode cX5_restsAfterFirstHour 40 = .ok (.lstore 10, 2) := by decide +kernel
theorem dX5_restsAfterFirstHour_42 : decode cX5_restsAfterFirstHour 42 = .ok (.lconst 0, 1) := by decide +kernel
theorem dX5_restsAfterFirstHour_43 : decode cX5_restsAfterFirstHour 43 = .ok (.lstore 12, 2) := by decide +kernel
theorem dX5_restsAfterFirstHour_45 : decode cX5_restsAfterFirstHour 45 = .ok (.iconst 0, 1) := by decide +kernel
theorem dX5_restsAfterFirstHour_46 : decode cX5_restsAfterFirstHour 46 = .ok (.istore 14, 2) := by decide +kernel
theorem dX5_restsAfterFirstHour_48 : decode cX5_restsAfterFirstHour 48 = .ok (.iload 14, 2) := by decide +kernel
theorem dX5_restsAfterFirstHour_50 : decode cX5_restsAfterFirstHour 50 = .ok (.bipush 8, 2) := by decide +kernel
theorem dX5_restsAfterFirstHour_52 : decode cX5_restsAfterFirstHour 52 = .ok (.if_icmp .ge 32, 3) := by decide +kernel
theorem dX5_restsAfterFirstHour_55 : decode cX5_restsAfterFirstHour 55 = .ok (.lload 12, 2) := by decide +kernel
theorem dX5_restsAfterFirstHour_57 : decode cX5_restsAfterFirstHour 57 = .ok (.lload 5, 2) := by decide +kernel
theorem dX5_restsAfterFirstHour_59 : decode cX5_restsAfterFirstHour 59 = .ok (.iload 14, 2) := by decide +kernel
theorem dX5_restsAfterFirstHour_61 : decode cX5_restsAfterFirstHour 61 = .ok (.lushr, 1) := by decide +kernel
theorem dX5_restsAfterFirstHour_62 : decode cX5_restsAfterFirstHour 62 = .ok (.ldc2_w 66, 3) := by decide +kernel
theorem dX5_restsAfterFirstHour_65 : decode cX5_restsAfterFirstHour 65 = .ok (.land, 1) := by decide +kernel
theorem dX5_restsAfterFirstHour_66 : decode cX5_restsAfterFirstHour 66 = .ok (.lload 10, 2) := by decide +kernel
theorem dX5_restsAfterFirstHour_68 : decode cX5_restsAfterFirstHour 68 = .ok (.iload 14, 2) := by decide +kernel
theorem dX5_restsAfterFirstHour_70 : decode cX5_restsAfterFirstHour 70 = .ok (.invokestatic 41, 3) := by decide +kernel
theorem dX5_restsAfterFirstHour_73 : decode cX5_restsAfterFirstHour 73 = .ok (.i2l, 1) := by decide +kernel
theorem dX5_restsAfterFirstHour_74 : decode cX5_restsAfterFirstHour 74 = .ok (.lmul, 1) := by decide +kernel
theorem dX5_restsAfterFirstHour_75 : decode cX5_restsAfterFirstHour 75 = .ok (.lor, 1) := by decide +kernel
theorem dX5_restsAfterFirstHour_76 : decode cX5_restsAfterFirstHour 76 = .ok (.lstore 12, 2) := by decide +kernel
theorem dX5_restsAfterFirstHour_78 : decode cX5_restsAfterFirstHour 78 = .ok (.iinc 14 1, 3) := by decide +kernel
theorem dX5_restsAfterFirstHour_81 : decode cX5_restsAfterFirstHour 81 = .ok (.goto (-33), 3) := by decide +kernel
theorem dX5_restsAfterFirstHour_84 : decode cX5_restsAfterFirstHour 84 = .ok (.lload 5, 2) := by decide +kernel
theorem dX5_restsAfterFirstHour_86 : decode cX5_restsAfterFirstHour 86 = .ok (.lload 12, 2) := by decide +kernel
theorem dX5_restsAfterFirstHour_88 : decode cX5_restsAfterFirstHour 88 = .ok (.bipush 8, 2) := by decide +kernel
theorem dX5_restsAfterFirstHour_90 : decode cX5_restsAfterFirstHour 90 = .ok (.lshl, 1) := by decide +kernel
theorem dX5_restsAfterFirstHour_91 : decode cX5_restsAfterFirstHour 91 = .ok (.lload 7, 2) := by decide +kernel
theorem dX5_restsAfterFirstHour_93 : decode cX5_restsAfterFirstHour 93 = .ok (.land, 1) := by decide +kernel
theorem dX5_restsAfterFirstHour_94 : decode cX5_restsAfterFirstHour 94 = .ok (.lor, 1) := by decide +kernel
theorem dX5_restsAfterFirstHour_95 : decode cX5_restsAfterFirstHour 95 = .ok (.lstore 5, 2) := by decide +kernel
theorem dX5_restsAfterFirstHour_97 : decode cX5_restsAfterFirstHour 97 = .ok (.iinc 9 (-1), 3) := by decide +kernel
theorem dX5_restsAfterFirstHour_100 : decode cX5_restsAfterFirstHour 100 = .ok (.goto (-73), 3) := by decide +kernel
theorem dX5_restsAfterFirstHour_103 : decode cX5_restsAfterFirstHour 103 = .ok (.lload 5, 2) := by decide +kernel
theorem dX5_restsAfterFirstHour_105 : decode cX5_restsAfterFirstHour 105 = .ok (.lreturn, 1) := by decide +kernel
theorem dX5_heardBy_0 : decode cX5_heardBy 0 = .ok (.lconst 0, 1) := by decide +kernel
theorem dX5_heardBy_1 : decode cX5_heardBy 1 = .ok (.lstore_n 3, 1) := by decide +kernel
theorem dX5_heardBy_2 : decode cX5_heardBy 2 = .ok (.iconst 0, 1) := by decide +kernel
theorem dX5_heardBy_3 : decode cX5_heardBy 3 = .ok (.istore 5, 2) := by decide +kernel
theorem dX5_heardBy_5 : decode cX5_heardBy 5 = .ok (.iload 5, 2) := by decide +kernel
theorem dX5_heardBy_7 : decode cX5_heardBy 7 = .ok (.bipush 8, 2) := by decide +kernel
theorem dX5_heardBy_9 : decode cX5_heardBy 9 = .ok (.if_icmp .ge 29, 3) := by decide +kernel
theorem dX5_heardBy_12 : decode cX5_heardBy 12 = .ok (.iload_n 0, 1) := by decide +kernel
theorem dX5_heardBy_13 : decode cX5_heardBy 13 = .ok (.iload 5, 2) := by decide +kernel
theorem dX5_heardBy_15 : decode cX5_heardBy 15 = .ok (.ishr, 1) := by decide +kernel
theorem dX5_heardBy_16 : decode cX5_heardBy 16 = .ok (.iconst 1, 1) := by decide +kernel
theorem dX5_heardBy_17 : decode cX5_heardBy 17 = .ok (.iand, 1) := by decide +kernel
theorem dX5_heardBy_18 : decode cX5_heardBy 18 = .ok (.iconst 1, 1) := by decide +kernel
theorem dX5_heardBy_19 : decode cX5_heardBy 19 = .ok (.if_icmp .ne 13, 3) := by decide +kernel
theorem dX5_heardBy_22 : decode cX5_heardBy 22 = .ok (.lload_n 3, 1) := by decide +kernel
theorem dX5_heardBy_23 : decode cX5_heardBy 23 = .ok (.lload_n 1, 1) := by decide +kernel
theorem dX5_heardBy_24 : decode cX5_heardBy 24 = .ok (.iload 5, 2) := by decide +kernel
theorem dX5_heardBy_26 : decode cX5_heardBy 26 = .ok (.bipush 8, 2) := by decide +kernel
theorem dX5_heardBy_28 : decode cX5_heardBy 28 = .ok (.imul, 1) := by decide +kernel
theorem dX5_heardBy_29 : decode cX5_heardBy 29 = .ok (.lushr, 1) := by decide +kernel
theorem dX5_heardBy_30 : decode cX5_heardBy 30 = .ok (.lor, 1) := by decide +kernel
theorem dX5_heardBy_31 : decode cX5_heardBy 31 = .ok (.lstore_n 3, 1) := by decide +kernel
theorem dX5_heardBy_32 : decode cX5_heardBy 32 = .ok (.iinc 5 1, 3) := by decide +kernel
theorem dX5_heardBy_35 : decode cX5_heardBy 35 = .ok (.goto (-30), 3) := by decide +kernel
theorem dX5_heardBy_38 : decode cX5_heardBy 38 = .ok (.lload_n 3, 1) := by decide +kernel
theorem dX5_heardBy_39 : decode cX5_heardBy 39 = .ok (.l2i, 1) := by decide +kernel
theorem dX5_heardBy_40 : decode cX5_heardBy 40 = .ok (.sipush 255, 3) := by decide +kernel
theorem dX5_heardBy_43 : decode cX5_heardBy 43 = .ok (.iand, 1) := by decide +kernel
theorem dX5_heardBy_44 : decode cX5_heardBy 44 = .ok (.ireturn, 1) := by decide +kernel
theorem dX5_heardAt_0 : decode cX5_heardAt 0 = .ok (.iload_n 1, 1) := by decide +kernel
theorem dX5_heardAt_1 : decode cX5_heardAt 1 = .ok (.bipush 24, 2) := by decide +kernel
theorem dX5_heardAt_3 : decode cX5_heardAt 3 = .ok (.irem, 1) := by decide +kernel
theorem dX5_heardAt_4 : decode cX5_heardAt 4 = .ok (.istore_n 2, 1) := by decide +kernel
theorem dX5_heardAt_5 : decode cX5_heardAt 5 = .ok (.iload_n 2, 1) := by decide +kernel
theorem dX5_heardAt_6 : decode cX5_heardAt 6 = .ok (.ifCond .lt 21, 3) := by decide +kernel
theorem dX5_heardAt_9 : decode cX5_heardAt 9 = .ok (.iload_n 2, 1) := by decide +kernel
theorem dX5_heardAt_10 : decode cX5_heardAt 10 = .ok (.aload_n 0, 1) := by decide +kernel
theorem dX5_heardAt_11 : decode cX5_heardAt 11 = .ok (.getfield 9, 3) := by decide +kernel
theorem dX5_heardAt_14 : decode cX5_heardAt 14 = .ok (.arraylength, 1) := by decide +kernel
theorem dX5_heardAt_15 : decode cX5_heardAt 15 = .ok (.if_icmp .ge 12, 3) := by decide +kernel
theorem dX5_heardAt_18 : decode cX5_heardAt 18 = .ok (.aload_n 0, 1) := by decide +kernel
theorem dX5_heardAt_19 : decode cX5_heardAt 19 = .ok (.getfield 9, 3) := by decide +kernel
theorem dX5_heardAt_22 : decode cX5_heardAt 22 = .ok (.iload_n 2, 1) := by decide +kernel
theorem dX5_heardAt_23 : decode cX5_heardAt 23 = .ok (.laload, 1) := by decide +kernel
theorem dX5_heardAt_24 : decode cX5_heardAt 24 = .ok (.goto 4, 3) := by decide +kernel
theorem dX5_heardAt_27 : decode cX5_heardAt 27 = .ok (.lconst 0, 1) := by decide +kernel
theorem dX5_heardAt_28 : decode cX5_heardAt 28 = .ok (.lreturn, 1) := by decide +kernel
theorem dX5_setOf_0 : decode cX5_setOf 0 = .ok (.lload_n 0, 1) := by decide +kernel
theorem dX5_setOf_1 : decode cX5_setOf 1 = .ok (.iload_n 2, 1) := by decide +kernel
theorem dX5_setOf_2 : decode cX5_setOf 2 = .ok (.bipush 8, 2) := by decide +kernel
theorem dX5_setOf_4 : decode cX5_setOf 4 = .ok (.imul, 1) := by decide +kernel
theorem dX5_setOf_5 : decode cX5_setOf 5 = .ok (.lushr, 1) := by decide +kernel
theorem dX5_setOf_6 : decode cX5_setOf 6 = .ok (.l2i, 1) := by decide +kernel
theorem dX5_setOf_7 : decode cX5_setOf 7 = .ok (.sipush 255, 3) := by decide +kernel
theorem dX5_setOf_10 : decode cX5_setOf 10 = .ok (.iand, 1) := by decide +kernel
theorem dX5_setOf_11 : decode cX5_setOf 11 = .ok (.ireturn, 1) := by decide +kernel
theorem dX6_init_0 : decode cX6_init 0 = .ok (.aload_n 0, 1) := by decide +kernel
theorem dX6_init_1 : decode cX6_init 1 = .ok (.invokespecial 1, 3) := by decide +kernel
theorem dX6_init_4 : decode cX6_init 4 = .ok (.aload_n 0, 1) := by decide +kernel
theorem dX6_init_5 : decode cX6_init 5 = .ok (.new 7, 3) := by decide +kernel
theorem dX6_init_8 : decode cX6_init 8 = .ok (.dup, 1) := by decide +kernel
theorem dX6_init_9 : decode cX6_init 9 = .ok (.invokespecial 9, 3) := by decide +kernel
theorem dX6_init_12 : decode cX6_init 12 = .ok (.putfield 10, 3) := by decide +kernel
theorem dX6_init_15 : decode cX6_init 15 = .ok (.aload_n 0, 1) := by decide +kernel
theorem dX6_init_16 : decode cX6_init 16 = .ok (.iconst 0, 1) := by decide +kernel
theorem dX6_init_17 : decode cX6_init 17 = .ok (.putfield 16, 3) := by decide +kernel
theorem dX6_init_20 : decode cX6_init 20 = .ok (.aload_n 0, 1) := by decide +kernel
theorem dX6_init_21 : decode cX6_init 21 = .ok (.iconst (-1), 1) := by decide +kernel
theorem dX6_init_22 : decode cX6_init 22 = .ok (.putfield 20, 3) := by decide +kernel
theorem dX6_init_25 : decode cX6_init 25 = .ok (.aload_n 0, 1) := by decide +kernel
theorem dX6_init_26 : decode cX6_init 26 = .ok (.new 23, 3) := by decide +kernel
theorem dX6_init_29 : decode cX6_init 29 = .ok (.dup, 1) := by decide +kernel
theorem dX6_init_30 : decode cX6_init 30 = .ok (.invokespecial 25, 3) := by decide +kernel
theorem dX6_init_33 : decode cX6_init 33 = .ok (.putfield 26, 3) := by decide +kernel
theorem dX6_init_36 : decode cX6_init 36 = .ok (.aload_n 0, 1) := by decide +kernel
theorem dX6_init_37 : decode cX6_init 37 = .ok (.new 23, 3) := by decide +kernel
theorem dX6_init_40 : decode cX6_init 40 = .ok (.dup, 1) := by decide +kernel
theorem dX6_init_41 : decode cX6_init 41 = .ok (.invokespecial 25, 3) := by decide +kernel
theorem dX6_init_44 : decode cX6_init 44 = .ok (.putfield 30, 3) := by decide +kernel
theorem dX6_init_47 : decode cX6_init 47 = .ok (.aload_n 0, 1) := by decide +kernel
theorem dX6_init_48 : decode cX6_init 48 = .ok (.iconst 2, 1) := by decide +kernel
theorem dX6_init_49 : decode cX6_init 49 = .ok (.anewarray 23, 3) := by decide +kernel
theorem dX6_init_52 : decode cX6_init 52 = .ok (.putfield 33, 3) := by decide +kernel
theorem dX6_init_55 : decode cX6_init 55 = .ok (.aload_n 0, 1) := by decide +kernel
theorem dX6_init_56 : decode cX6_init 56 = .ok (.new 37, 3) := by decide +kernel
theorem dX6_init_59 : decode cX6_init 59 = .ok (.dup, 1) := by decide +kernel
theorem dX6_init_60 : decode cX6_init 60 = .ok (.invokespecial 39, 3) := by decide +kernel
theorem dX6_init_63 : decode cX6_init 63 = .ok (.putfield 40, 3) := by decide +kernel
theorem dX6_init_66 : decode cX6_init 66 = .ok (.return_, 1) := by decide +kernel
theorem dX6_appendText_0 : decode cX6_appendText 0 = .ok (.aload_n 0, 1) := by decide +kernel
theorem dX6_appendText_1 : decode cX6_appendText 1 = .ok (.getfield 10, 3) := by decide +kernel
theorem dX6_appendText_4 : decode cX6_appendText 4 = .ok (.invokevirtual 44, 3) := by decide +kernel
theorem dX6_appendText_7 : decode cX6_appendText 7 = .ok (.iconst 4, 1) := by decide +kernel
theorem dX6_appendText_8 : decode cX6_appendText 8 = .ok (.iadd, 1) := by decide +kernel
theorem dX6_appendText_9 : decode cX6_appendText 9 = .ok (.sipush 700, 3) := by decide +kernel
theorem dX6_appendText_12 : decode cX6_appendText 12 = .ok (.if_icmp .le 13, 3) := by decide +kernel
theorem dX6_appendText_15 : decode cX6_appendText 15 = .ok (.new 48, 3) := by decide +kernel
theorem dX6_appendText_18 : decode cX6_appendText 18 = .ok (.dup, 1) := by decide +kernel
theorem dX6_appendText_19 : decode cX6_appendText 19 = .ok (.ldc 50, 2) := by decide +kernel
theorem dX6_appendText_21 : decode cX6_appendText 21 = .ok (.invokespecial 52, 3) := by decide +kernel
theorem dX6_appendText_24 : decode cX6_appendText 24 = .ok (.athrow, 1) := by decide +kernel
theorem dX6_appendText_25 : decode cX6_appendText 25 = .ok (.bipush 24, 2) := by decide +kernel
theorem dX6_appendText_27 : decode cX6_appendText 27 = .ok (.istore_n 2, 1) := by decide +kernel
theorem dX6_appendText_28 : decode cX6_appendText 28 = .ok (.iload_n 2, 1) := by decide +kernel
theorem dX6_appendText_29 : decode cX6_appendText 29 = .ok (.ifCond .lt 19, 3) := by decide +kernel
theorem dX6_appendText_32 : decode cX6_appendText 32 = .ok (.aload_n 0, 1) := by decide +kernel
theorem dX6_appendText_33 : decode cX6_appendText 33 = .ok (.getfield 10, 3) := by decide +kernel
theorem dX6_appendText_36 : decode cX6_appendText 36 = .ok (.iload_n 1, 1) := by decide +kernel
theorem dX6_appendText_37 : decode cX6_appendText 37 = .ok (.iload_n 2, 1) := by decide +kernel
theorem dX6_appendText_38 : decode cX6_appendText 38 = .ok (.ishr, 1) := by decide +kernel
theorem dX6_appendText_39 : decode cX6_appendText 39 = .ok (.invokevirtual 55, 3) := by decide +kernel
theorem dX6_appendText_42 : decode cX6_appendText 42 = .ok (.iinc 2 (-8), 3) := by decide +kernel
theorem dX6_appendText_45 : decode cX6_appendText 45 = .ok (.goto (-17), 3) := by decide +kernel
theorem dX6_appendText_48 : decode cX6_appendText 48 = .ok (.aload_n 0, 1) := by decide +kernel
theorem dX6_appendText_49 : decode cX6_appendText 49 = .ok (.getfield 10, 3) := by decide +kernel
theorem dX6_appendText_52 : decode cX6_appendText 52 = .ok (.invokevirtual 44, 3) := by decide +kernel
theorem dX6_appendText_55 : decode cX6_appendText 55 = .ok (.ireturn, 1) := by decide +kernel
theorem dX6_truncateText_0 : decode cX6_truncateText 0 = .ok (.iload_n 1, 1) := by decide +kernel
theorem dX6_truncateText_1 : decode cX6_truncateText 1 = .ok (.ifCond .lt 14, 3) := by decide +kernel
theorem dX6_truncateText_4 : decode cX6_truncateText 4 = .ok (.iload_n 1, 1) := by decide +kernel
theorem dX6_truncateText_5 : decode cX6_truncateText 5 = .ok (.aload_n 0, 1) := by decide +kernel
theorem dX6_truncateText_6 : decode cX6_truncateText 6 = .ok (.getfield 10, 3) := by decide +kernel
theorem dX6_truncateText_9 : decode cX6_truncateText 9 = .ok (.invokevirtual 44, 3) := by decide +kernel
theorem dX6_truncateText_12 : decode cX6_truncateText 12 = .ok (.if_icmp .le 13, 3) := by decide +kernel
theorem dX6_truncateText_15 : decode cX6_truncateText 15 = .ok (.new 59, 3) := by decide +kernel
theorem dX6_truncateText_18 : decode cX6_truncateText 18 = .ok (.dup, 1) := by decide +kernel
theorem dX6_truncateText_19 : decode cX6_truncateText 19 = .ok (.ldc 61, 2) := by decide +kernel
theorem dX6_truncateText_21 : decode cX6_truncateText 21 = .ok (.invokespecial 63, 3) := by decide +kernel
theorem dX6_truncateText_24 : decode cX6_truncateText 24 = .ok (.athrow, 1) := by decide +kernel
theorem dX6_truncateText_25 : decode cX6_truncateText 25 = .ok (.aload_n 0, 1) := by decide +kernel
theorem dX6_truncateText_26 : decode cX6_truncateText 26 = .ok (.getfield 10, 3) := by decide +kernel
theorem dX6_truncateText_29 : decode cX6_truncateText 29 = .ok (.iload_n 1, 1) := by decide +kernel
theorem dX6_truncateText_30 : decode cX6_truncateText 30 = .ok (.invokevirtual 64, 3) := by decide +kernel
theorem dX6_truncateText_33 : decode cX6_truncateText 33 = .ok (.aload_n 0, 1) := by decide +kernel
theorem dX6_truncateText_34 : decode cX6_truncateText 34 = .ok (.getfield 10, 3) := by decide +kernel
theorem dX6_truncateText_37 : decode cX6_truncateText 37 = .ok (.invokevirtual 44, 3) := by decide +kernel
theorem dX6_truncateText_40 : decode cX6_truncateText 40 = .ok (.ireturn, 1) := by decide +kernel
theorem dX6_load_0 : decode cX6_load 0 = .ok (.aload_n 0, 1) := by decide +kernel
theorem dX6_load_1 : decode cX6_load 1 = .ok (.getfield 30, 3) := by decide +kernel
theorem dX6_load_4 : decode cX6_load 4 = .ok (.invokevirtual 67, 3) := by decide +kernel
theorem dX6_load_7 : decode cX6_load 7 = .ok (.aload_n 0, 1) := by decide +kernel
theorem dX6_load_8 : decode cX6_load 8 = .ok (.getfield 10, 3) := by decide +kernel
theorem dX6_load_11 : decode cX6_load 11 = .ok (.aload_n 0, 1) := by decide +kernel
theorem dX6_load_12 : decode cX6_load 12 = .ok (.getfield 30, 3) := by decide +kernel
theorem dX6_load_15 : decode cX6_load 15 = .ok (.invokevirtual 70, 3) := by decide +kernel
theorem dX6_load_18 : decode cX6_load 18 = .ok (.istore_n 1, 1) := by decide +kernel
theorem dX6_load_19 : decode cX6_load 19 = .ok (.aload_n 0, 1) := by decide +kernel
theorem dX6_load_20 : decode cX6_load 20 = .ok (.getfield 10, 3) := by decide +kernel
theorem dX6_load_23 : decode cX6_load 23 = .ok (.iconst 0, 1) := by decide +kernel
theorem dX6_load_24 : decode cX6_load 24 = .ok (.invokevirtual 64, 3) := by decide +kernel
theorem dX6_load_27 : decode cX6_load 27 = .ok (.aload_n 0, 1) := by decide +kernel
theorem dX6_load_28 : decode cX6_load 28 = .ok (.aload_n 0, 1) := by decide +kernel
theorem dX6_load_29 : decode cX6_load 29 = .ok (.getfield 10, 3) := by decide +kernel
theorem dX6_load_32 : decode cX6_load 32 = .ok (.invokevirtual 74, 3) := by decide +kernel
theorem dX6_load_35 : decode cX6_load 35 = .ok (.putfield 16, 3) := by decide +kernel
theorem dX6_load_38 : decode cX6_load 38 = .ok (.aload_n 0, 1) := by decide +kernel
theorem dX6_load_39 : decode cX6_load 39 = .ok (.aload_n 0, 1) := by decide +kernel
theorem dX6_load_40 : decode cX6_load 40 = .ok (.getfield 10, 3) := by decide +kernel
theorem dX6_load_43 : decode cX6_load 43 = .ok (.invokevirtual 77, 3) := by decide +kernel
theorem dX6_load_46 : decode cX6_load 46 = .ok (.putfield 20, 3) := by decide +kernel
theorem dX6_load_49 : decode cX6_load 49 = .ok (.aload_n 0, 1) := by decide +kernel
theorem dX6_load_50 : decode cX6_load 50 = .ok (.getfield 16, 3) := by decide +kernel
theorem dX6_load_53 : decode cX6_load 53 = .ok (.ifCond .eq 5, 3) := by decide +kernel
theorem dX6_load_56 : decode cX6_load 56 = .ok (.iconst (-1), 1) := by decide +kernel
theorem dX6_load_57 : decode cX6_load 57 = .ok (.ireturn, 1) := by decide +kernel
theorem dX6_load_58 : decode cX6_load 58 = .ok (.aload_n 0, 1) := by decide +kernel
theorem dX6_load_59 : decode cX6_load 59 = .ok (.getfield 30, 3) := by decide +kernel
theorem dX6_load_62 : decode cX6_load 62 = .ok (.invokevirtual 80, 3) := by decide +kernel
theorem dX6_load_65 : decode cX6_load 65 = .ok (.aload_n 0, 1) := by decide +kernel
theorem dX6_load_66 : decode cX6_load 66 = .ok (.getfield 26, 3) := by decide +kernel
theorem dX6_load_69 : decode cX6_load 69 = .ok (.aload_n 0, 1) := by decide +kernel
theorem dX6_load_70 : decode cX6_load 70 = .ok (.getfield 30, 3) := by decide +kernel
theorem dX6_load_73 : decode cX6_load 73 = .ok (.invokevirtual 83, 3) := by decide +kernel
theorem dX6_load_76 : decode cX6_load 76 = .ok (.iload_n 1, 1) := by decide +kernel
theorem dX6_load_77 : decode cX6_load 77 = .ok (.ireturn, 1) := by decide +kernel
theorem dX6_errorCode_0 : decode cX6_errorCode 0 = .ok (.aload_n 0, 1) := by decide +kernel
theorem dX6_errorCode_1 : decode cX6_errorCode 1 = .ok (.getfield 16, 3) := by decide +kernel
theorem dX6_errorCode_4 : decode cX6_errorCode 4 = .ok (.ireturn, 1) := by decide +kernel
theorem dX6_errorPosition_0 : decode cX6_errorPosition 0 = .ok (.aload_n 0, 1) := by decide +kernel
theorem dX6_errorPosition_1 : decode cX6_errorPosition 1 = .ok (.getfield 20, 3) := by decide +kernel
theorem dX6_errorPosition_4 : decode cX6_errorPosition 4 = .ok (.ireturn, 1) := by decide +kernel
theorem dX6_addStation_0 : decode cX6_addStation 0 = .ok (.iload_n 1, 1) := by decide +kernel
theorem dX6_addStation_1 : decode cX6_addStation 1 = .ok (.invokestatic 87, 3) := by decide +kernel
theorem dX6_addStation_4 : decode cX6_addStation 4 = .ok (.ifCond .eq 17, 3) := by decide +kernel
theorem dX6_addStation_7 : decode cX6_addStation 7 = .ok (.iload_n 2, 1) := by decide +kernel
theorem dX6_addStation_8 : decode cX6_addStation 8 = .ok (.invokestatic 87, 3) := by decide +kernel
theorem dX6_addStation_11 : decode cX6_addStation 11 = .ok (.ifCond .eq 10, 3) := by decide +kernel
theorem dX6_addStation_14 : decode cX6_addStation 14 = .ok (.iload_n 3, 1) := by decide +kernel
theorem dX6_addStation_15 : decode cX6_addStation 15 = .ok (.invokestatic 91, 3) := by decide +kernel
theorem dX6_addStation_18 : decode cX6_addStation 18 = .ok (.ifCond .ne 13, 3) := by decide +kernel
theorem dX6_addStation_21 : decode cX6_addStation 21 = .ok (.new 59, 3) := by decide +kernel
theorem dX6_addStation_24 : decode cX6_addStation 24 = .ok (.dup, 1) := by decide +kernel
theorem dX6_addStation_25 : decode cX6_addStation 25 = .ok (.ldc 94, 2) := by decide +kernel
theorem dX6_addStation_27 : decode cX6_addStation 27 = .ok (.invokespecial 63, 3) := by decide +kernel
theorem dX6_addStation_30 : decode cX6_addStation 30 = .ok (.athrow, 1) := by decide +kernel
theorem dX6_addStation_31 : decode cX6_addStation 31 = .ok (.aload_n 0, 1) := by decide +kernel
theorem dX6_addStation_32 : decode cX6_addStation 32 = .ok (.getfield 26, 3) := by decide +kernel
theorem dX6_addStation_35 : decode cX6_addStation 35 = .ok (.invokevirtual 96, 3) := by decide +kernel
theorem dX6_addStation_38 : decode cX6_addStation 38 = .ok (.bipush 8, 2) := by decide +kernel
theorem dX6_addStation_40 : decode cX6_addStation 40 = .ok (.if_icmp .lt 13, 3) := by decide +kernel
theorem dX6_addStation_43 : decode cX6_addStation 43 = .ok (.new 48, 3) := by decide +kernel
theorem dX6_addStation_46 : decode cX6_addStation 46 = .ok (.dup, 1) := by decide +kernel
theorem dX6_addStation_47 : decode cX6_addStation 47 = .ok (.ldc 99, 2) := by decide +kernel
theorem dX6_addStation_49 : decode cX6_addStation 49 = .ok (.invokespecial 52, 3) := by decide +kernel
theorem dX6_addStation_52 : decode cX6_addStation 52 = .ok (.athrow, 1) := by decide +kernel
theorem dX6_addStation_53 : decode cX6_addStation 53 = .ok (.aload_n 0, 1) := by decide +kernel
theorem dX6_addStation_54 : decode cX6_addStation 54 = .ok (.getfield 26, 3) := by decide +kernel
theorem dX6_addStation_57 : decode cX6_addStation 57 = .ok (.iload_n 1, 1) := by decide +kernel
theorem dX6_addStation_58 : decode cX6_addStation 58 = .ok (.iload_n 2, 1) := by decide +kernel
theorem dX6_addStation_59 : decode cX6_addStation 59 = .ok (.iload_n 3, 1) := by decide +kernel
theorem dX6_addStation_60 : decode cX6_addStation 60 = .ok (.invokevirtual 101, 3) := by decide +kernel
theorem dX6_addStation_63 : decode cX6_addStation 63 = .ok (.ireturn, 1) := by decide +kernel
theorem dX6_addLink_0 : decode cX6_addLink 0 = .ok (.aload_n 0, 1) := by decide +kernel
theorem dX6_addLink_1 : decode cX6_addLink 1 = .ok (.iload_n 1, 1) := by decide +kernel
theorem dX6_addLink_2 : decode cX6_addLink 2 = .ok (.invokevirtual 105, 3) := by decide +kernel
theorem dX6_addLink_5 : decode cX6_addLink 5 = .ok (.ifCond .eq 11, 3) := by decide +kernel
theorem dX6_addLink_8 : decode cX6_addLink 8 = .ok (.aload_n 0, 1) := by decide +kernel
theorem dX6_addLink_9 : decode cX6_addLink 9 = .ok (.iload_n 2, 1) := by decide +kernel
theorem dX6_addLink_10 : decode cX6_addLink 10 = .ok (.invokevirtual 105, 3) := by decide +kernel
theorem dX6_addLink_13 : decode cX6_addLink 13 = .ok (.ifCond .ne 13, 3) := by decide +kernel
theorem dX6_addLink_16 : decode cX6_addLink 16 = .ok (.new 108, 3) := by decide +kernel
theorem dX6_addLink_19 : decode cX6_addLink 19 = .ok (.dup, 1) := by decide +kernel
theorem dX6_addLink_20 : decode cX6_addLink 20 = .ok (.ldc 110, 2) := by decide +kernel
theorem dX6_addLink_22 : decode cX6_addLink 22 = .ok (.invokespecial 112, 3) := by decide +kernel
theorem dX6_addLink_25 : decode cX6_addLink 25 = .ok (.athrow, 1) := by decide +kernel
theorem dX6_addLink_26 : decode cX6_addLink 26 = .ok (.iload_n 1, 1) := by decide +kernel
theorem dX6_addLink_27 : decode cX6_addLink 27 = .ok (.iload_n 2, 1) := by decide +kernel
theorem dX6_addLink_28 : decode cX6_addLink 28 = .ok (.if_icmp .eq 26, 3) := by decide +kernel
theorem dX6_addLink_31 : decode cX6_addLink 31 = .ok (.iload_n 3, 1) := by decide +kernel
theorem dX6_addLink_32 : decode cX6_addLink 32 = .ok (.invokestatic 87, 3) := by decide +kernel
theorem dX6_addLink_35 : decode cX6_addLink 35 = .ok (.ifCond .eq 19, 3) := by decide +kernel
theorem dX6_addLink_38 : decode cX6_addLink 38 = .ok (.iload 4, 2) := by decide +kernel
theorem dX6_addLink_40 : decode cX6_addLink 40 = .ok (.invokestatic 87, 3) := by decide +kernel
theorem dX6_addLink_43 : decode cX6_addLink 43 = .ok (.ifCond .eq 11, 3) := by decide +kernel
theorem dX6_addLink_46 : decode cX6_addLink 46 = .ok (.iload 5, 2) := by decide +kernel
theorem dX6_addLink_48 : decode cX6_addLink 48 = .ok (.invokestatic 113, 3) := by decide +kernel
theorem dX6_addLink_51 : decode cX6_addLink 51 = .ok (.ifCond .ne 13, 3) := by decide +kernel
theorem dX6_addLink_54 : decode cX6_addLink 54 = .ok (.new 59, 3) := by decide +kernel
theorem dX6_addLink_57 : decode cX6_addLink 57 = .ok (.dup, 1) := by decide +kernel
theorem dX6_addLink_58 : decode cX6_addLink 58 = .ok (.ldc 116, 2) := by decide +kernel
theorem dX6_addLink_60 : decode cX6_addLink 60 = .ok (.invokespecial 63, 3) := by decide +kernel
theorem dX6_addLink_63 : decode cX6_addLink 63 = .ok (.athrow, 1) := by decide +kernel
theorem dX6_addLink_64 : decode cX6_addLink 64 = .ok (.aload_n 0, 1) := by decide +kernel
theorem dX6_addLink_65 : decode cX6_addLink 65 = .ok (.getfield 26, 3) := by decide +kernel
theorem dX6_addLink_68 : decode cX6_addLink 68 = .ok (.iload_n 1, 1) := by decide +kernel
theorem dX6_addLink_69 : decode cX6_addLink 69 = .ok (.iload_n 2, 1) := by decide +kernel
theorem dX6_addLink_70 : decode cX6_addLink 70 = .ok (.invokevirtual 118, 3) := by decide +kernel
theorem dX6_addLink_73 : decode cX6_addLink 73 = .ok (.iconst (-1), 1) := by decide +kernel
theorem dX6_addLink_74 : decode cX6_addLink 74 = .ok (.if_icmp .ne 15, 3) := by decide +kernel
theorem dX6_addLink_77 : decode cX6_addLink 77 = .ok (.aload_n 0, 1) := by decide +kernel
theorem dX6_addLink_78 : decode cX6_addLink 78 = .ok (.getfield 26, 3) := by decide +kernel
theorem dX6_addLink_81 : decode cX6_addLink 81 = .ok (.invokevirtual 122, 3) := by decide +kernel
theorem dX6_addLink_84 : decode cX6_addLink 84 = .ok (.bipush 16, 2) := by decide +kernel
theorem dX6_addLink_86 : decode cX6_addLink 86 = .ok (.if_icmp .lt 13, 3) := by decide +kernel
theorem dX6_addLink_89 : decode cX6_addLink 89 = .ok (.new 48, 3) := by decide +kernel
theorem dX6_addLink_92 : decode cX6_addLink 92 = .ok (.dup, 1) := by decide +kernel
theorem dX6_addLink_93 : decode cX6_addLink 93 = .ok (.ldc 125, 2) := by decide +kernel
theorem dX6_addLink_95 : decode cX6_addLink 95 = .ok (.invokespecial 52, 3) := by decide +kernel
theorem dX6_addLink_98 : decode cX6_addLink 98 = .ok (.athrow, 1) := by decide +kernel
theorem dX6_addLink_99 : decode cX6_addLink 99 = .ok (.aload_n 0, 1) := by decide +kernel
theorem dX6_addLink_100 : decode cX6_addLink 100 = .ok (.getfield 26, 3) := by decide +kernel
theorem dX6_addLink_103 : decode cX6_addLink 103 = .ok (.iload_n 1, 1) := by decide +kernel
theorem dX6_addLink_104 : decode cX6_addLink 104 = .ok (.iload_n 2, 1) := by decide +kernel
theorem dX6_addLink_105 : decode cX6_addLink 105 = .ok (.iload_n 3, 1) := by decide +kernel
theorem dX6_addLink_106 : decode cX6_addLink 106 = .ok (.iload 4, 2) := by decide +kernel
theorem dX6_addLink_108 : decode cX6_addLink 108 = .ok (.iload 5, 2) := by decide +kernel
theorem dX6_addLink_110 : decode cX6_addLink 110 = .ok (.invokevirtual 127, 3) := by decide +kernel
theorem dX6_addLink_113 : decode cX6_addLink 113 = .ok (.istore 6, 2) := by decide +kernel
theorem dX6_addLink_115 : decode cX6_addLink 115 = .ok (.aload_n 0, 1) := by decide +kernel
theorem dX6_addLink_116 : decode cX6_addLink 116 = .ok (.getfield 26, 3) := by decide +kernel
theorem dX6_addLink_119 : decode cX6_addLink 119 = .ok (.invokevirtual 80, 3) := by decide +kernel
theorem dX6_addLink_122 : decode cX6_addLink 122 = .ok (.iload 6, 2) := by decide +kernel
theorem dX6_addLink_124 : decode cX6_addLink 124 = .ok (.ireturn, 1) := by decide +kernel
theorem dX6_setStation_0 : decode cX6_setStation 0 = .ok (.aload_n 0, 1) := by decide +kernel
theorem dX6_setStation_1 : decode cX6_setStation 1 = .ok (.iload_n 1, 1) := by decide +kernel
theorem dX6_setStation_2 : decode cX6_setStation 2 = .ok (.invokevirtual 105, 3) := by decide +kernel
theorem dX6_setStation_5 : decode cX6_setStation 5 = .ok (.ifCond .ne 13, 3) := by decide +kernel
theorem dX6_setStation_8 : decode cX6_setStation 8 = .ok (.new 108, 3) := by decide +kernel
theorem dX6_setStation_11 : decode cX6_setStation 11 = .ok (.dup, 1) := by decide +kernel
theorem dX6_setStation_12 : decode cX6_setStation 12 = .ok (.ldc 110, 2) := by decide +kernel
theorem dX6_setStation_14 : decode cX6_setStation 14 = .ok (.invokespecial 112, 3) := by decide +kernel
theorem dX6_setStation_17 : decode cX6_setStation 17 = .ok (.athrow, 1) := by decide +kernel
theorem dX6_setStation_18 : decode cX6_setStation 18 = .ok (.iload_n 2, 1) := by decide +kernel
theorem dX6_setStation_19 : decode cX6_setStation 19 = .ok (.ifCond .eq 8, 3) := by decide +kernel
theorem dX6_setStation_22 : decode cX6_setStation 22 = .ok (.iload_n 2, 1) := by decide +kernel
theorem dX6_setStation_23 : decode cX6_setStation 23 = .ok (.iconst 1, 1) := by decide +kernel
theorem dX6_setStation_24 : decode cX6_setStation 24 = .ok (.if_icmp .ne 10, 3) := by decide +kernel
theorem dX6_setStation_27 : decode cX6_setStation 27 = .ok (.iload_n 3, 1) := by decide +kernel
theorem dX6_setStation_28 : decode cX6_setStation 28 = .ok (.invokestatic 87, 3) := by decide +kernel
theorem dX6_setStation_31 : decode cX6_setStation 31 = .ok (.goto 20, 3) := by decide +kernel
theorem dX6_setStation_34 : decode cX6_setStation 34 = .ok (.iload_n 2, 1) := by decide +kernel
theorem dX6_setStation_35 : decode cX6_setStation 35 = .ok (.iconst 2, 1) := by decide +kernel
theorem dX6_setStation_36 : decode cX6_setStation 36 = .ok (.if_icmp .ne 14, 3) := by decide +kernel
theorem dX6_setStation_39 : decode cX6_setStation 39 = .ok (.iload_n 3, 1) := by decide +kernel
theorem dX6_setStation_40 : decode cX6_setStation 40 = .ok (.invokestatic 91, 3) := by decide +kernel
theorem dX6_setStation_43 : decode cX6_setStation 43 = .ok (.ifCond .eq 7, 3) := by decide +kernel
theorem dX6_setStation_46 : decode cX6_setStation 46 = .ok (.iconst 1, 1) := by decide +kernel
theorem dX6_setStation_47 : decode cX6_setStation 47 = .ok (.goto 4, 3) := by decide +kernel
theorem dX6_setStation_50 : decode cX6_setStation 50 = .ok (.iconst 0, 1) := by decide +kernel
theorem dX6_setStation_51 : decode cX6_setStation 51 = .ok (.istore 4, 2) := by decide +kernel
theorem dX6_setStation_53 : decode cX6_setStation 53 = .ok (.iload 4, 2) := by decide +kernel
theorem dX6_setStation_55 : decode cX6_setStation 55 = .ok (.ifCond .ne 13, 3) := by decide +kernel
theorem dX6_setStation_58 : decode cX6_setStation 58 = .ok (.new 59, 3) := by decide +kernel
theorem dX6_setStation_61 : decode cX6_setStation 61 = .ok (.dup, 1) := by decide +kernel
theorem dX6_setStation_62 : decode cX6_setStation 62 = .ok (.ldc 131, 2) := by decide +kernel
theorem dX6_setStation_64 : decode cX6_setStation 64 = .ok (.invokespecial 63, 3) := by decide +kernel
theorem dX6_setStation_67 : decode cX6_setStation 67 = .ok (.athrow, 1) := by decide +kernel
theorem dX6_setStation_68 : decode cX6_setStation 68 = .ok (.aload_n 0, 1) := by decide +kernel
theorem dX6_setStation_69 : decode cX6_setStation 69 = .ok (.getfield 26, 3) := by decide +kernel
theorem dX6_setStation_72 : decode cX6_setStation 72 = .ok (.iload_n 1, 1) := by decide +kernel
theorem dX6_setStation_73 : decode cX6_setStation 73 = .ok (.iload_n 2, 1) := by decide +kernel
theorem dX6_setStation_74 : decode cX6_setStation 74 = .ok (.iload_n 3, 1) := by decide +kernel
theorem dX6_setStation_75 : decode cX6_setStation 75 = .ok (.invokevirtual 133, 3) := by decide +kernel
theorem dX6_setStation_78 : decode cX6_setStation 78 = .ok (.ireturn, 1) := by decide +kernel
theorem dX6_setLink_0 : decode cX6_setLink 0 = .ok (.aload_n 0, 1) := by decide +kernel
theorem dX6_setLink_1 : decode cX6_setLink 1 = .ok (.iload_n 1, 1) := by decide +kernel
theorem dX6_setLink_2 : decode cX6_setLink 2 = .ok (.invokevirtual 136, 3) := by decide +kernel
theorem dX6_setLink_5 : decode cX6_setLink 5 = .ok (.ifCond .ne 13, 3) := by decide +kernel
theorem dX6_setLink_8 : decode cX6_setLink 8 = .ok (.new 108, 3) := by decide +kernel
theorem dX6_setLink_11 : decode cX6_setLink 11 = .ok (.dup, 1) := by decide +kernel
theorem dX6_setLink_12 : decode cX6_setLink 12 = .ok (.ldc 139, 2) := by decide +kernel
theorem dX6_setLink_14 : decode cX6_setLink 14 = .ok (.invokespecial 112, 3) := by decide +kernel
theorem dX6_setLink_17 : decode cX6_setLink 17 = .ok (.athrow, 1) := by decide +kernel
theorem dX6_setLink_18 : decode cX6_setLink 18 = .ok (.iload_n 2, 1) := by decide +kernel
theorem dX6_setLink_19 : decode cX6_setLink 19 = .ok (.ifCond .eq 8, 3) := by decide +kernel
theorem dX6_setLink_22 : decode cX6_setLink 22 = .ok (.iload_n 2, 1) := by decide +kernel
theorem dX6_setLink_23 : decode cX6_setLink 23 = .ok (.iconst 1, 1) := by decide +kernel
theorem dX6_setLink_24 : decode cX6_setLink 24 = .ok (.if_icmp .ne 10, 3) := by decide +kernel
theorem dX6_setLink_27 : decode cX6_setLink 27 = .ok (.iload_n 3, 1) := by decide +kernel
theorem dX6_setLink_28 : decode cX6_setLink 28 = .ok (.invokestatic 87, 3) := by decide +kernel
theorem dX6_setLink_31 : decode cX6_setLink 31 = .ok (.goto 20, 3) := by decide +kernel
theorem dX6_setLink_34 : decode cX6_setLink 34 = .ok (.iload_n 2, 1) := by decide +kernel
theorem dX6_setLink_35 : decode cX6_setLink 35 = .ok (.iconst 2, 1) := by decide +kernel
theorem dX6_setLink_36 : decode cX6_setLink 36 = .ok (.if_icmp .ne 14, 3) := by decide +kernel
theorem dX6_setLink_39 : decode cX6_setLink 39 = .ok (.iload_n 3, 1) := by decide +kernel
theorem dX6_setLink_40 : decode cX6_setLink 40 = .ok (.invokestatic 113, 3) := by decide +kernel
theorem dX6_setLink_43 : decode cX6_setLink 43 = .ok (.ifCond .eq 7, 3) := by decide +kernel
theorem dX6_setLink_46 : decode cX6_setLink 46 = .ok (.iconst 1, 1) := by decide +kernel
theorem dX6_setLink_47 : decode cX6_setLink 47 = .ok (.goto 4, 3) := by decide +kernel
theorem dX6_setLink_50 : decode cX6_setLink 50 = .ok (.iconst 0, 1) := by decide +kernel
theorem dX6_setLink_51 : decode cX6_setLink 51 = .ok (.istore 4, 2) := by decide +kernel
theorem dX6_setLink_53 : decode cX6_setLink 53 = .ok (.iload 4, 2) := by decide +kernel
theorem dX6_setLink_55 : decode cX6_setLink 55 = .ok (.ifCond .ne 13, 3) := by decide +kernel
theorem dX6_setLink_58 : decode cX6_setLink 58 = .ok (.new 59, 3) := by decide +kernel
theorem dX6_setLink_61 : decode cX6_setLink 61 = .ok (.dup, 1) := by decide +kernel
theorem dX6_setLink_62 : decode cX6_setLink 62 = .ok (.ldc 131, 2) := by decide +kernel
theorem dX6_setLink_64 : decode cX6_setLink 64 = .ok (.invokespecial 63, 3) := by decide +kernel
theorem dX6_setLink_67 : decode cX6_setLink 67 = .ok (.athrow, 1) := by decide +kernel
theorem dX6_setLink_68 : decode cX6_setLink 68 = .ok (.aload_n 0, 1) := by decide +kernel
theorem dX6_setLink_69 : decode cX6_setLink 69 = .ok (.getfield 26, 3) := by decide +kernel
theorem dX6_setLink_72 : decode cX6_setLink 72 = .ok (.iload_n 1, 1) := by decide +kernel
theorem dX6_setLink_73 : decode cX6_setLink 73 = .ok (.iconst 2, 1) := by decide +kernel
theorem dX6_setLink_74 : decode cX6_setLink 74 = .ok (.iload_n 2, 1) := by decide +kernel
theorem dX6_setLink_75 : decode cX6_setLink 75 = .ok (.iadd, 1) := by decide +kernel
theorem dX6_setLink_76 : decode cX6_setLink 76 = .ok (.iload_n 3, 1) := by decide +kernel
theorem dX6_setLink_77 : decode cX6_setLink 77 = .ok (.invokevirtual 141, 3) := by decide +kernel
theorem dX6_setLink_80 : decode cX6_setLink 80 = .ok (.ireturn, 1) := by decide +kernel
theorem dX6_setRules_0 : decode cX6_setRules 0 = .ok (.iload_n 1, 1) := by decide +kernel
theorem dX6_setRules_1 : decode cX6_setRules 1 = .ok (.iconst 1, 1) := by decide +kernel
theorem dX6_setRules_2 : decode cX6_setRules 2 = .ok (.if_icmp .lt 31, 3) := by decide +kernel
theorem dX6_setRules_5 : decode cX6_setRules 5 = .ok (.iload_n 1, 1) := by decide +kernel
theorem dX6_setRules_6 : decode cX6_setRules 6 = .ok (.sipush 200, 3) := by decide +kernel
theorem dX6_setRules_9 : decode cX6_setRules 9 = .ok (.if_icmp .gt 24, 3) := by decide +kernel
theorem dX6_setRules_12 : decode cX6_setRules 12 = .ok (.iload_n 2, 1) := by decide +kernel
theorem dX6_setRules_13 : decode cX6_setRules 13 = .ok (.iconst 1, 1) := by decide +kernel
theorem dX6_setRules_14 : decode cX6_setRules 14 = .ok (.if_icmp .lt 19, 3) := by decide +kernel
theorem dX6_setRules_17 : decode cX6_setRules 17 = .ok (.iload_n 2, 1) := by decide +kernel
theorem dX6_setRules_18 : decode cX6_setRules 18 = .ok (.bipush 9, 2) := by decide +kernel
theorem dX6_setRules_20 : decode cX6_setRules 20 = .ok (.if_icmp .gt 13, 3) := by decide +kernel
theorem dX6_setRules_23 : decode cX6_setRules 23 = .ok (.iload_n 3, 1) := by decide +kernel
theorem dX6_setRules_24 : decode cX6_setRules 24 = .ok (.ifCond .lt 9, 3) := by decide +kernel
theorem dX6_setRules_27 : decode cX6_setRules 27 = .ok (.iload_n 3, 1) := by decide +kernel
theorem dX6_setRules_28 : decode cX6_setRules 28 = .ok (.ldc 144, 2) := by decide +kernel
theorem dX6_setRules_30 : decode cX6_setRules 30 = .ok (.if_icmp .le 13, 3) := by decide +kernel
theorem dX6_setRules_33 : decode cX6_setRules 33 = .ok (.new 59, 3) := by decide +kernel
theorem dX6_setRules_36 : decode cX6_setRules 36 = .ok (.dup, 1) := by decide +kernel
theorem dX6_setRules_37 : decode cX6_setRules 37 = .ok (.ldc 145, 2) := by decide +kernel
theorem dX6_setRules_39 : decode cX6_setRules 39 = .ok (.invokespecial 63, 3) := by decide +kernel
theorem dX6_setRules_42 : decode cX6_setRules 42 = .ok (.athrow, 1) := by decide +kernel
theorem dX6_setRules_43 : decode cX6_setRules 43 = .ok (.aload_n 0, 1) := by decide +kernel
theorem dX6_setRules_44 : decode cX6_setRules 44 = .ok (.getfield 26, 3) := by decide +kernel
theorem dX6_setRules_47 : decode cX6_setRules 47 = .ok (.iload_n 1, 1) := by decide +kernel
theorem dX6_setRules_48 : decode cX6_setRules 48 = .ok (.invokevirtual 147, 3) := by decide +kernel
theorem dX6_setRules_51 : decode cX6_setRules 51 = .ok (.aload_n 0, 1) := by decide +kernel
theorem dX6_setRules_52 : decode cX6_setRules 52 = .ok (.getfield 26, 3) := by decide +kernel
theorem dX6_setRules_55 : decode cX6_setRules 55 = .ok (.iload_n 2, 1) := by decide +kernel
theorem dX6_setRules_56 : decode cX6_setRules 56 = .ok (.invokevirtual 150, 3) := by decide +kernel
theorem dX6_setRules_59 : decode cX6_setRules 59 = .ok (.aload_n 0, 1) := by decide +kernel
theorem dX6_setRules_60 : decode cX6_setRules 60 = .ok (.getfield 26, 3) := by decide +kernel
theorem dX6_setRules_63 : decode cX6_setRules 63 = .ok (.iload_n 3, 1) := by decide +kernel
theorem dX6_setRules_64 : decode cX6_setRules 64 = .ok (.invokevirtual 153, 3) := by decide +kernel
theorem dX6_setRules_67 : decode cX6_setRules 67 = .ok (.return_, 1) := by decide +kernel
theorem dX6_station_0 : decode cX6_station 0 = .ok (.aload_n 0, 1) := by decide +kernel
theorem dX6_station_1 : decode cX6_station 1 = .ok (.iload_n 1, 1) := by decide +kernel
theorem dX6_station_2 : decode cX6_station 2 = .ok (.invokevirtual 105, 3) := by decide +kernel
theorem dX6_station_5 : decode cX6_station 5 = .ok (.ifCond .ne 13, 3) := by decide +kernel
theorem dX6_station_8 : decode cX6_station 8 = .ok (.new 108, 3) := by decide +kernel
theorem dX6_station_11 : decode cX6_station 11 = .ok (.dup, 1) := by decide +kernel
theorem dX6_station_12 : decode cX6_station 12 = .ok (.ldc 110, 2) := by decide +kernel
theorem dX6_station_14 : decode cX6_station 14 = .ok (.invokespecial 112, 3) := by decide +kernel
theorem dX6_station_17 : decode cX6_station 17 = .ok (.athrow, 1) := by decide +kernel
theorem dX6_station_18 : decode cX6_station 18 = .ok (.iload_n 2, 1) := by decide +kernel
theorem dX6_station_19 : decode cX6_station 19 = .ok (.ifCond .lt 9, 3) := by decide +kernel
theorem dX6_station_22 : decode cX6_station 22 = .ok (.iload_n 2, 1) := by decide +kernel
theorem dX6_station_23 : decode cX6_station 23 = .ok (.bipush 9, 2) := by decide +kernel
theorem dX6_station_25 : decode cX6_station 25 = .ok (.if_icmp .le 13, 3) := by decide +kernel
theorem dX6_station_28 : decode cX6_station 28 = .ok (.new 59, 3) := by decide +kernel
theorem dX6_station_31 : decode cX6_station 31 = .ok (.dup, 1) := by decide +kernel
theorem dX6_station_32 : decode cX6_station 32 = .ok (.ldc 156, 2) := by decide +kernel
theorem dX6_station_34 : decode cX6_station 34 = .ok (.invokespecial 63, 3) := by decide +kernel
theorem dX6_station_37 : decode cX6_station 37 = .ok (.athrow, 1) := by decide +kernel
theorem dX6_station_38 : decode cX6_station 38 = .ok (.aload_n 0, 1) := by decide +kernel
theorem dX6_station_39 : decode cX6_station 39 = .ok (.getfield 26, 3) := by decide +kernel
theorem dX6_station_42 : decode cX6_station 42 = .ok (.iload_n 1, 1) := by decide +kernel
theorem dX6_station_43 : decode cX6_station 43 = .ok (.iload_n 2, 1) := by decide +kernel
theorem dX6_station_44 : decode cX6_station 44 = .ok (.invokevirtual 158, 3) := by decide +kernel
theorem dX6_station_47 : decode cX6_station 47 = .ok (.ireturn, 1) := by decide +kernel
theorem dX6_link_0 : decode cX6_link 0 = .ok (.aload_n 0, 1) := by decide +kernel
theorem dX6_link_1 : decode cX6_link 1 = .ok (.iload_n 1, 1) := by decide +kernel
theorem dX6_link_2 : decode cX6_link 2 = .ok (.invokevirtual 136, 3) := by decide +kernel
theorem dX6_link_5 : decode cX6_link 5 = .ok (.ifCond .ne 13, 3) := by decide +kernel
theorem dX6_link_8 : decode cX6_link 8 = .ok (.new 108, 3) := by decide +kernel
theorem dX6_link_11 : decode cX6_link 11 = .ok (.dup, 1) := by decide +kernel
theorem dX6_link_12 : decode cX6_link 12 = .ok (.ldc 139, 2) := by decide +kernel
theorem dX6_link_14 : decode cX6_link 14 = .ok (.invokespecial 112, 3) := by decide +kernel
theorem dX6_link_17 : decode cX6_link 17 = .ok (.athrow, 1) := by decide +kernel
theorem dX6_link_18 : decode cX6_link 18 = .ok (.iload_n 2, 1) := by decide +kernel
theorem dX6_link_19 : decode cX6_link 19 = .ok (.ifCond .lt 9, 3) := by decide +kernel
theorem dX6_link_22 : decode cX6_link 22 = .ok (.iload_n 2, 1) := by decide +kernel
theorem dX6_link_23 : decode cX6_link 23 = .ok (.bipush 8, 2) := by decide +kernel
theorem dX6_link_25 : decode cX6_link 25 = .ok (.if_icmp .le 13, 3) := by decide +kernel
theorem dX6_link_28 : decode cX6_link 28 = .ok (.new 59, 3) := by decide +kernel
theorem dX6_link_31 : decode cX6_link 31 = .ok (.dup, 1) := by decide +kernel
theorem dX6_link_32 : decode cX6_link 32 = .ok (.ldc 156, 2) := by decide +kernel
theorem dX6_link_34 : decode cX6_link 34 = .ok (.invokespecial 63, 3) := by decide +kernel
theorem dX6_link_37 : decode cX6_link 37 = .ok (.athrow, 1) := by decide +kernel
theorem dX6_link_38 : decode cX6_link 38 = .ok (.aload_n 0, 1) := by decide +kernel
theorem dX6_link_39 : decode cX6_link 39 = .ok (.getfield 26, 3) := by decide +kernel
theorem dX6_link_42 : decode cX6_link 42 = .ok (.iload_n 1, 1) := by decide +kernel
theorem dX6_link_43 : decode cX6_link 43 = .ok (.iload_n 2, 1) := by decide +kernel
theorem dX6_link_44 : decode cX6_link 44 = .ok (.invokevirtual 161, 3) := by decide +kernel
theorem dX6_link_47 : decode cX6_link 47 = .ok (.ireturn, 1) := by decide +kernel
theorem dX6_count_0 : decode cX6_count 0 = .ok (.iload_n 1, 1) := by decide +kernel
theorem dX6_count_1 : decode cX6_count 1 = .ok (.ifCond .lt 9, 3) := by decide +kernel
theorem dX6_count_4 : decode cX6_count 4 = .ok (.iload_n 1, 1) := by decide +kernel
theorem dX6_count_5 : decode cX6_count 5 = .ok (.bipush 13, 2) := by decide +kernel
theorem dX6_count_7 : decode cX6_count 7 = .ok (.if_icmp .le 13, 3) := by decide +kernel
theorem dX6_count_10 : decode cX6_count 10 = .ok (.new 59, 3) := by decide +kernel
theorem dX6_count_13 : decode cX6_count 13 = .ok (.dup, 1) := by decide +kernel
theorem dX6_count_14 : decode cX6_count 14 = .ok (.ldc 156, 2) := by decide +kernel
theorem dX6_count_16 : decode cX6_count 16 = .ok (.invokespecial 63, 3) := by decide +kernel
theorem dX6_count_19 : decode cX6_count 19 = .ok (.athrow, 1) := by decide +kernel
theorem dX6_count_20 : decode cX6_count 20 = .ok (.aload_n 0, 1) := by decide +kernel
theorem dX6_count_21 : decode cX6_count 21 = .ok (.getfield 26, 3) := by decide +kernel
theorem dX6_count_24 : decode cX6_count 24 = .ok (.iload_n 1, 1) := by decide +kernel
theorem dX6_count_25 : decode cX6_count 25 = .ok (.invokevirtual 164, 3) := by decide +kernel
theorem dX6_count_28 : decode cX6_count 28 = .ok (.ireturn, 1) := by decide +kernel
theorem dX6_way_0 : decode cX6_way 0 = .ok (.aload_n 0, 1) := by decide +kernel
theorem dX6_way_1 : decode cX6_way 1 = .ok (.iload_n 1, 1) := by decide +kernel
theorem dX6_way_2 : decode cX6_way 2 = .ok (.invokevirtual 105, 3) := by decide +kernel
theorem dX6_way_5 : decode cX6_way 5 = .ok (.ifCond .eq 11, 3) := by decide +kernel
theorem dX6_way_8 : decode cX6_way 8 = .ok (.aload_n 0, 1) := by decide +kernel
theorem dX6_way_9 : decode cX6_way 9 = .ok (.iload_n 2, 1) := by decide +kernel
theorem dX6_way_10 : decode cX6_way 10 = .ok (.invokevirtual 105, 3) := by decide +kernel
theorem dX6_way_13 : decode cX6_way 13 = .ok (.ifCond .ne 13, 3) := by decide +kernel
theorem dX6_way_16 : decode cX6_way 16 = .ok (.new 108, 3) := by decide +kernel
theorem dX6_way_19 : decode cX6_way 19 = .ok (.dup, 1) := by decide +kernel
theorem dX6_way_20 : decode cX6_way 20 = .ok (.ldc 110, 2) := by decide +kernel
theorem dX6_way_22 : decode cX6_way 22 = .ok (.invokespecial 112, 3) := by decide +kernel
theorem dX6_way_25 : decode cX6_way 25 = .ok (.athrow, 1) := by decide +kernel
theorem dX6_way_26 : decode cX6_way 26 = .ok (.iload_n 1, 1) := by decide +kernel
theorem dX6_way_27 : decode cX6_way 27 = .ok (.iload_n 2, 1) := by decide +kernel
theorem dX6_way_28 : decode cX6_way 28 = .ok (.if_icmp .eq 24, 3) := by decide +kernel
theorem dX6_way_31 : decode cX6_way 31 = .ok (.iload_n 3, 1) := by decide +kernel
theorem dX6_way_32 : decode cX6_way 32 = .ok (.ifCond .lt 20, 3) := by decide +kernel
theorem dX6_way_35 : decode cX6_way 35 = .ok (.iload_n 3, 1) := by decide +kernel
theorem dX6_way_36 : decode cX6_way 36 = .ok (.ldc 168, 2) := by decide +kernel
theorem dX6_way_38 : decode cX6_way 38 = .ok (.if_icmp .gt 14, 3) := by decide +kernel
theorem dX6_way_41 : decode cX6_way 41 = .ok (.iload 4, 2) := by decide +kernel
theorem dX6_way_43 : decode cX6_way 43 = .ok (.ifCond .lt 9, 3) := by decide +kernel
theorem dX6_way_46 : decode cX6_way 46 = .ok (.iload 4, 2) := by decide +kernel
theorem dX6_way_48 : decode cX6_way 48 = .ok (.iconst 2, 1) := by decide +kernel
theorem dX6_way_49 : decode cX6_way 49 = .ok (.if_icmp .le 13, 3) := by decide +kernel
theorem dX6_way_52 : decode cX6_way 52 = .ok (.new 59, 3) := by decide +kernel
theorem dX6_way_55 : decode cX6_way 55 = .ok (.dup, 1) := by decide +kernel
theorem dX6_way_56 : decode cX6_way 56 = .ok (.ldc 169, 2) := by decide +kernel
theorem dX6_way_58 : decode cX6_way 58 = .ok (.invokespecial 63, 3) := by decide +kernel
theorem dX6_way_61 : decode cX6_way 61 = .ok (.athrow, 1) := by decide +kernel
theorem dX6_way_62 : decode cX6_way 62 = .ok (.aload_n 0, 1) := by decide +kernel
theorem dX6_way_63 : decode cX6_way 63 = .ok (.getfield 26, 3) := by decide +kernel
theorem dX6_way_66 : decode cX6_way 66 = .ok (.iload_n 1, 1) := by decide +kernel
theorem dX6_way_67 : decode cX6_way 67 = .ok (.iload_n 2, 1) := by decide +kernel
theorem dX6_way_68 : decode cX6_way 68 = .ok (.iload_n 3, 1) := by decide +kernel
theorem dX6_way_69 : decode cX6_way 69 = .ok (.iload 4, 2) := by decide +kernel
theorem dX6_way_71 : decode cX6_way 71 = .ok (.invokevirtual 171, 3) := by decide +kernel
theorem dX6_way_74 : decode cX6_way 74 = .ok (.ireturn, 1) := by decide +kernel
theorem dX6_reachable_0 : decode cX6_reachable 0 = .ok (.aload_n 0, 1) := by decide +kernel
theorem dX6_reachable_1 : decode cX6_reachable 1 = .ok (.getfield 26, 3) := by decide +kernel
theorem dX6_reachable_4 : decode cX6_reachable 4 = .ok (.iconst 0, 1) := by decide +kernel
theorem dX6_reachable_5 : decode cX6_reachable 5 = .ok (.invokevirtual 175, 3) := by decide +kernel
theorem dX6_reachable_8 : decode cX6_reachable 8 = .ok (.ireturn, 1) := by decide +kernel
theorem dX6_keyStation_0 : decode cX6_keyStation 0 = .ok (.iconst (-1), 1) := by decide +kernel
theorem dX6_keyStation_1 : decode cX6_keyStation 1 = .ok (.istore_n 1, 1) := by decide +kernel
theorem dX6_keyStation_2 : decode cX6_keyStation 2 = .ok (.iconst 0, 1) := by decide +kernel
theorem dX6_keyStation_3 : decode cX6_keyStation 3 = .ok (.istore_n 2, 1) := by decide +kernel
theorem dX6_keyStation_4 : decode cX6_keyStation 4 = .ok (.iconst 0, 1) := by decide +kernel
theorem dX6_keyStation_5 : decode cX6_keyStation 5 = .ok (.istore_n 3, 1) := by decide +kernel
theorem dX6_keyStation_6 : decode cX6_keyStation 6 = .ok (.iload_n 3, 1) := by decide +kernel
theorem dX6_keyStation_7 : decode cX6_keyStation 7 = .ok (.aload_n 0, 1) := by decide +kernel
theorem dX6_keyStation_8 : decode cX6_keyStation 8 = .ok (.getfield 26, 3) := by decide +kernel
theorem dX6_keyStation_11 : decode cX6_keyStation 11 = .ok (.invokevirtual 96, 3) := by decide +kernel
theorem dX6_keyStation_14 : decode cX6_keyStation 14 = .ok (.if_icmp .ge 37, 3) := by decide +kernel
theorem dX6_keyStation_17 : decode cX6_keyStation 17 = .ok (.aload_n 0, 1) := by decide +kernel
theorem dX6_keyStation_18 : decode cX6_keyStation 18 = .ok (.getfield 26, 3) := by decide +kernel
theorem dX6_keyStation_21 : decode cX6_keyStation 21 = .ok (.iconst 1, 1) := by decide +kernel
theorem dX6_keyStation_22 : decode cX6_keyStation 22 = .ok (.iload_n 3, 1) := by decide +kernel
theorem dX6_keyStation_23 : decode cX6_keyStation 23 = .ok (.ishl, 1) := by decide +kernel
theorem dX6_keyStation_24 : decode cX6_keyStation 24 = .ok (.invokevirtual 175, 3) := by decide +kernel
theorem dX6_keyStation_27 : decode cX6_keyStation 27 = .ok (.istore 4, 2) := by decide +kernel
theorem dX6_keyStation_29 : decode cX6_keyStation 29 = .ok (.iload_n 1, 1) := by decide +kernel
theorem dX6_keyStation_30 : decode cX6_keyStation 30 = .ok (.iconst (-1), 1) := by decide +kernel
theorem dX6_keyStation_31 : decode cX6_keyStation 31 = .ok (.if_icmp .eq 9, 3) := by decide +kernel
theorem dX6_keyStation_34 : decode cX6_keyStation 34 = .ok (.iload 4, 2) := by decide +kernel
theorem dX6_keyStation_36 : decode cX6_keyStation 36 = .ok (.iload_n 2, 1) := by decide +kernel
theorem dX6_keyStation_37 : decode cX6_keyStation 37 = .ok (.if_icmp .ge 8, 3) := by decide +kernel
theorem dX6_keyStation_40 : decode cX6_keyStation 40 = .ok (.iload_n 3, 1) := by decide +kernel
theorem dX6_keyStation_41 : decode cX6_keyStation 41 = .ok (.istore_n 1, 1) := by decide +kernel
theorem dX6_keyStation_42 : decode cX6_keyStation 42 = .ok (.iload 4, 2) := by decide +kernel
theorem dX6_keyStation_44 : decode cX6_keyStation 44 = .ok (.istore_n 2, 1) := by decide +kernel
theorem dX6_keyStation_45 : decode cX6_keyStation 45 = .ok (.iinc 3 1, 3) := by decide +kernel
theorem dX6_keyStation_48 : decode cX6_keyStation 48 = .ok (.goto (-42), 3) := by decide +kernel
theorem dX6_keyStation_51 : decode cX6_keyStation 51 = .ok (.iload_n 1, 1) := by decide +kernel
theorem dX6_keyStation_52 : decode cX6_keyStation 52 = .ok (.ireturn, 1) := by decide +kernel
theorem dX6_send_0 : decode cX6_send 0 = .ok (.aload_n 0, 1) := by decide +kernel
theorem dX6_send_1 : decode cX6_send 1 = .ok (.iload_n 1, 1) := by decide +kernel
theorem dX6_send_2 : decode cX6_send 2 = .ok (.invokevirtual 105, 3) := by decide +kernel
theorem dX6_send_5 : decode cX6_send 5 = .ok (.ifCond .eq 11, 3) := by decide +kernel
theorem dX6_send_8 : decode cX6_send 8 = .ok (.aload_n 0, 1) := by decide +kernel
theorem dX6_send_9 : decode cX6_send 9 = .ok (.iload_n 2, 1) := by decide +kernel
theorem dX6_send_10 : decode cX6_send 10 = .ok (.invokevirtual 105, 3) := by decide +kernel
theorem dX6_send_13 : decode cX6_send 13 = .ok (.ifCond .ne 13, 3) := by decide +kernel
theorem dX6_send_16 : decode cX6_send 16 = .ok (.new 108, 3) := by decide +kernel
theorem dX6_send_19 : decode cX6_send 19 = .ok (.dup, 1) := by decide +kernel
theorem dX6_send_20 : decode cX6_send 20 = .ok (.ldc 110, 2) := by decide +kernel
theorem dX6_send_22 : decode cX6_send 22 = .ok (.invokespecial 112, 3) := by decide +kernel
theorem dX6_send_25 : decode cX6_send 25 = .ok (.athrow, 1) := by decide +kernel
theorem dX6_send_26 : decode cX6_send 26 = .ok (.iload_n 1, 1) := by decide +kernel
theorem dX6_send_27 : decode cX6_send 27 = .ok (.iload_n 2, 1) := by decide +kernel
theorem dX6_send_28 : decode cX6_send 28 = .ok (.if_icmp .eq 10, 3) := by decide +kernel
theorem dX6_send_31 : decode cX6_send 31 = .ok (.iload_n 3, 1) := by decide +kernel
theorem dX6_send_32 : decode cX6_send 32 = .ok (.invokestatic 178, 3) := by decide +kernel
theorem dX6_send_35 : decode cX6_send 35 = .ok (.ifCond .ne 13, 3) := by decide +kernel
theorem dX6_send_38 : decode cX6_send 38 = .ok (.new 59, 3) := by decide +kernel
theorem dX6_send_41 : decode cX6_send 41 = .ok (.dup, 1) := by decide +kernel
theorem dX6_send_42 : decode cX6_send 42 = .ok (.ldc 181, 2) := by decide +kernel
theorem dX6_send_44 : decode cX6_send 44 = .ok (.invokespecial 63, 3) := by decide +kernel
theorem dX6_send_47 : decode cX6_send 47 = .ok (.athrow, 1) := by decide +kernel
theorem dX6_send_48 : decode cX6_send 48 = .ok (.aload_n 0, 1) := by decide +kernel
theorem dX6_send_49 : decode cX6_send 49 = .ok (.getfield 26, 3) := by decide +kernel
theorem dX6_send_52 : decode cX6_send 52 = .ok (.invokevirtual 183, 3) := by decide +kernel
theorem dX6_send_55 : decode cX6_send 55 = .ok (.bipush 24, 2) := by decide +kernel
theorem dX6_send_57 : decode cX6_send 57 = .ok (.if_icmp .lt 13, 3) := by decide +kernel
theorem dX6_send_60 : decode cX6_send 60 = .ok (.new 48, 3) := by decide +kernel
theorem dX6_send_63 : decode cX6_send 63 = .ok (.dup, 1) := by decide +kernel
theorem dX6_send_64 : decode cX6_send 64 = .ok (.ldc 186, 2) := by decide +kernel
theorem dX6_send_66 : decode cX6_send 66 = .ok (.invokespecial 52, 3) := by decide +kernel
theorem dX6_send_69 : decode cX6_send 69 = .ok (.athrow, 1) := by decide +kernel
theorem dX6_send_70 : decode cX6_send 70 = .ok (.aload_n 0, 1) := by decide +kernel
theorem dX6_send_71 : decode cX6_send 71 = .ok (.getfield 26, 3) := by decide +kernel
theorem dX6_send_74 : decode cX6_send 74 = .ok (.iload_n 1, 1) := by decide +kernel
theorem dX6_send_75 : decode cX6_send 75 = .ok (.iload_n 2, 1) := by decide +kernel
theorem dX6_send_76 : decode cX6_send 76 = .ok (.iload_n 3, 1) := by decide +kernel
theorem dX6_send_77 : decode cX6_send 77 = .ok (.invokevirtual 188, 3) := by decide +kernel
theorem dX6_send_80 : decode cX6_send 80 = .ok (.ireturn, 1) := by decide +kernel
theorem dX6_setPriority_0 : decode cX6_setPriority 0 = .ok (.aload_n 0, 1) := by decide +kernel
theorem dX6_setPriority_1 : decode cX6_setPriority 1 = .ok (.iload_n 1, 1) := by decide +kernel
theorem dX6_setPriority_2 : decode cX6_setPriority 2 = .ok (.invokevirtual 191, 3) := by decide +kernel
theorem dX6_setPriority_5 : decode cX6_setPriority 5 = .ok (.ifCond .ne 13, 3) := by decide +kernel
theorem dX6_setPriority_8 : decode cX6_setPriority 8 = .ok (.new 108, 3) := by decide +kernel
theorem dX6_setPriority_11 : decode cX6_setPriority 11 = .ok (.dup, 1) := by decide +kernel
theorem dX6_setPriority_12 : decode cX6_setPriority 12 = .ok (.ldc 194, 2) := by decide +kernel
theorem dX6_setPriority_14 : decode cX6_setPriority 14 = .ok (.invokespecial 112, 3) := by decide +kernel
theorem dX6_setPriority_17 : decode cX6_setPriority 17 = .ok (.athrow, 1) := by decide +kernel
theorem dX6_setPriority_18 : decode cX6_setPriority 18 = .ok (.iload_n 2, 1) := by decide +kernel
theorem dX6_setPriority_19 : decode cX6_setPriority 19 = .ok (.invokestatic 178, 3) := by decide +kernel
theorem dX6_setPriority_22 : decode cX6_setPriority 22 = .ok (.ifCond .ne 13, 3) := by decide +kernel
theorem dX6_setPriority_25 : decode cX6_setPriority 25 = .ok (.new 59, 3) := by decide +kernel
theorem dX6_setPriority_28 : decode cX6_setPriority 28 = .ok (.dup, 1) := by decide +kernel
theorem dX6_setPriority_29 : decode cX6_setPriority 29 = .ok (.ldc 196, 2) := by decide +kernel
theorem dX6_setPriority_31 : decode cX6_setPriority 31 = .ok (.invokespecial 63, 3) := by decide +kernel
theorem dX6_setPriority_34 : decode cX6_setPriority 34 = .ok (.athrow, 1) := by decide +kernel
theorem dX6_setPriority_35 : decode cX6_setPriority 35 = .ok (.aload_n 0, 1) := by decide +kernel
theorem dX6_setPriority_36 : decode cX6_setPriority 36 = .ok (.getfield 26, 3) := by decide +kernel
theorem dX6_setPriority_39 : decode cX6_setPriority 39 = .ok (.iload_n 1, 1) := by decide +kernel
theorem dX6_setPriority_40 : decode cX6_setPriority 40 = .ok (.iload_n 2, 1) := by decide +kernel
theorem dX6_setPriority_41 : decode cX6_setPriority 41 = .ok (.invokevirtual 198, 3) := by decide +kernel
theorem dX6_setPriority_44 : decode cX6_setPriority 44 = .ok (.ireturn, 1) := by decide +kernel
theorem dX6_takeBack_0 : decode cX6_takeBack 0 = .ok (.aload_n 0, 1) := by decide +kernel
theorem dX6_takeBack_1 : decode cX6_takeBack 1 = .ok (.iload_n 1, 1) := by decide +kernel
theorem dX6_takeBack_2 : decode cX6_takeBack 2 = .ok (.invokevirtual 191, 3) := by decide +kernel
theorem dX6_takeBack_5 : decode cX6_takeBack 5 = .ok (.ifCond .ne 13, 3) := by decide +kernel
theorem dX6_takeBack_8 : decode cX6_takeBack 8 = .ok (.new 108, 3) := by decide +kernel
theorem dX6_takeBack_11 : decode cX6_takeBack 11 = .ok (.dup, 1) := by decide +kernel
theorem dX6_takeBack_12 : decode cX6_takeBack 12 = .ok (.ldc 194, 2) := by decide +kernel
theorem dX6_takeBack_14 : decode cX6_takeBack 14 = .ok (.invokespecial 112, 3) := by decide +kernel
theorem dX6_takeBack_17 : decode cX6_takeBack 17 = .ok (.athrow, 1) := by decide +kernel
theorem dX6_takeBack_18 : decode cX6_takeBack 18 = .ok (.aload_n 0, 1) := by decide +kernel
theorem dX6_takeBack_19 : decode cX6_takeBack 19 = .ok (.getfield 26, 3) := by decide +kernel
theorem dX6_takeBack_22 : decode cX6_takeBack 22 = .ok (.iload_n 1, 1) := by decide +kernel
theorem dX6_takeBack_23 : decode cX6_takeBack 23 = .ok (.invokevirtual 201, 3) := by decide +kernel
theorem dX6_takeBack_26 : decode cX6_takeBack 26 = .ok (.ireturn, 1) := by decide +kernel
theorem dX6_message_0 : decode cX6_message 0 = .ok (.aload_n 0, 1) := by decide +kernel
theorem dX6_message_1 : decode cX6_message 1 = .ok (.iload_n 1, 1) := by decide +kernel
theorem dX6_message_2 : decode cX6_message 2 = .ok (.invokevirtual 191, 3) := by decide +kernel
theorem dX6_message_5 : decode cX6_message 5 = .ok (.ifCond .ne 13, 3) := by decide +kernel
theorem dX6_message_8 : decode cX6_message 8 = .ok (.new 108, 3) := by decide +kernel
theorem dX6_message_11 : decode cX6_message 11 = .ok (.dup, 1) := by decide +kernel
theorem dX6_message_12 : decode cX6_message 12 = .ok (.ldc 194, 2) := by decide +kernel
theorem dX6_message_14 : decode cX6_message 14 = .ok (.invokespecial 112, 3) := by decide +kernel
theorem dX6_message_17 : decode cX6_message 17 = .ok (.athrow, 1) := by decide +kernel
theorem dX6_message_18 : decode cX6_message 18 = .ok (.iload_n 2, 1) := by decide +kernel
theorem dX6_message_19 : decode cX6_message 19 = .ok (.ifCond .lt 9, 3) := by decide +kernel
theorem dX6_message_22 : decode cX6_message 22 = .ok (.iload_n 2, 1) := by decide +kernel
theorem dX6_message_23 : decode cX6_message 23 = .ok (.bipush 11, 2) := by decide +kernel
theorem dX6_message_25 : decode cX6_message 25 = .ok (.if_icmp .le 13, 3) := by decide +kernel
theorem dX6_message_28 : decode cX6_message 28 = .ok (.new 59, 3) := by decide +kernel
theorem dX6_message_31 : decode cX6_message 31 = .ok (.dup, 1) := by decide +kernel
theorem dX6_message_32 : decode cX6_message 32 = .ok (.ldc 156, 2) := by decide +kernel
theorem dX6_message_34 : decode cX6_message 34 = .ok (.invokespecial 63, 3) := by decide +kernel
theorem dX6_message_37 : decode cX6_message 37 = .ok (.athrow, 1) := by decide +kernel
theorem dX6_message_38 : decode cX6_message 38 = .ok (.aload_n 0, 1) := by decide +kernel
theorem dX6_message_39 : decode cX6_message 39 = .ok (.getfield 26, 3) := by decide +kernel
theorem dX6_message_42 : decode cX6_message 42 = .ok (.iload_n 1, 1) := by decide +kernel
theorem dX6_message_43 : decode cX6_message 43 = .ok (.iload_n 2, 1) := by decide +kernel
theorem dX6_message_44 : decode cX6_message 44 = .ok (.invokevirtual 204, 3) := by decide +kernel
theorem dX6_message_47 : decode cX6_message 47 = .ok (.ireturn, 1) := by decide +kernel
theorem dX6_copy_0 : decode cX6_copy 0 = .ok (.aload_n 0, 1) := by decide +kernel
theorem dX6_copy_1 : decode cX6_copy 1 = .ok (.iload_n 1, 1) := by decide +kernel
theorem dX6_copy_2 : decode cX6_copy 2 = .ok (.invokevirtual 191, 3) := by decide +kernel
theorem dX6_copy_5 : decode cX6_copy 5 = .ok (.ifCond .eq 11, 3) := by decide +kernel
theorem dX6_copy_8 : decode cX6_copy 8 = .ok (.aload_n 0, 1) := by decide +kernel
theorem dX6_copy_9 : decode cX6_copy 9 = .ok (.iload_n 2, 1) := by decide +kernel
theorem dX6_copy_10 : decode cX6_copy 10 = .ok (.invokevirtual 105, 3) := by decide +kernel
theorem dX6_copy_13 : decode cX6_copy 13 = .ok (.ifCond .ne 13, 3) := by decide +kernel
theorem dX6_copy_16 : decode cX6_copy 16 = .ok (.new 108, 3) := by decide +kernel
theorem dX6_copy_19 : decode cX6_copy 19 = .ok (.dup, 1) := by decide +kernel
theorem dX6_copy_20 : decode cX6_copy 20 = .ok (.ldc 207, 2) := by decide +kernel
theorem dX6_copy_22 : decode cX6_copy 22 = .ok (.invokespecial 112, 3) := by decide +kernel
theorem dX6_copy_25 : decode cX6_copy 25 = .ok (.athrow, 1) := by decide +kernel
theorem dX6_copy_26 : decode cX6_copy 26 = .ok (.iload_n 3, 1) := by decide +kernel
theorem dX6_copy_27 : decode cX6_copy 27 = .ok (.ifCond .lt 8, 3) := by decide +kernel
theorem dX6_copy_30 : decode cX6_copy 30 = .ok (.iload_n 3, 1) := by decide +kernel
theorem dX6_copy_31 : decode cX6_copy 31 = .ok (.iconst 4, 1) := by decide +kernel
theorem dX6_copy_32 : decode cX6_copy 32 = .ok (.if_icmp .le 13, 3) := by decide +kernel
theorem dX6_copy_35 : decode cX6_copy 35 = .ok (.new 59, 3) := by decide +kernel
theorem dX6_copy_38 : decode cX6_copy 38 = .ok (.dup, 1) := by decide +kernel
theorem dX6_copy_39 : decode cX6_copy 39 = .ok (.ldc 156, 2) := by decide +kernel
theorem dX6_copy_41 : decode cX6_copy 41 = .ok (.invokespecial 63, 3) := by decide +kernel
theorem dX6_copy_44 : decode cX6_copy 44 = .ok (.athrow, 1) := by decide +kernel
theorem dX6_copy_45 : decode cX6_copy 45 = .ok (.aload_n 0, 1) := by decide +kernel
theorem dX6_copy_46 : decode cX6_copy 46 = .ok (.getfield 26, 3) := by decide +kernel
theorem dX6_copy_49 : decode cX6_copy 49 = .ok (.iload_n 1, 1) := by decide +kernel
theorem dX6_copy_50 : decode cX6_copy 50 = .ok (.iload_n 2, 1) := by decide +kernel
theorem dX6_copy_51 : decode cX6_copy 51 = .ok (.iload_n 3, 1) := by decide +kernel
theorem dX6_copy_52 : decode cX6_copy 52 = .ok (.invokevirtual 209, 3) := by decide +kernel
theorem dX6_copy_55 : decode cX6_copy 55 = .ok (.ireturn, 1) := by decide +kernel
theorem dX6_path_0 : decode cX6_path 0 = .ok (.aload_n 0, 1) := by decide +kernel
theorem dX6_path_1 : decode cX6_path 1 = .ok (.iload_n 1, 1) := by decide +kernel
theorem dX6_path_2 : decode cX6_path 2 = .ok (.invokevirtual 191, 3) := by decide +kernel
theorem dX6_path_5 : decode cX6_path 5 = .ok (.ifCond .eq 11, 3) := by decide +kernel
theorem dX6_path_8 : decode cX6_path 8 = .ok (.aload_n 0, 1) := by decide +kernel
theorem dX6_path_9 : decode cX6_path 9 = .ok (.iload_n 2, 1) := by decide +kernel
theorem dX6_path_10 : decode cX6_path 10 = .ok (.invokevirtual 105, 3) := by decide +kernel
theorem dX6_path_13 : decode cX6_path 13 = .ok (.ifCond .ne 13, 3) := by decide +kernel
theorem dX6_path_16 : decode cX6_path 16 = .ok (.new 108, 3) := by decide +kernel
theorem dX6_path_19 : decode cX6_path 19 = .ok (.dup, 1) := by decide +kernel
theorem dX6_path_20 : decode cX6_path 20 = .ok (.ldc 207, 2) := by decide +kernel
theorem dX6_path_22 : decode cX6_path 22 = .ok (.invokespecial 112, 3) := by decide +kernel
theorem dX6_path_25 : decode cX6_path 25 = .ok (.athrow, 1) := by decide +kernel
theorem dX6_path_26 : decode cX6_path 26 = .ok (.aload_n 0, 1) := by decide +kernel
theorem dX6_path_27 : decode cX6_path 27 = .ok (.getfield 26, 3) := by decide +kernel
theorem dX6_path_30 : decode cX6_path 30 = .ok (.iload_n 1, 1) := by decide +kernel
theorem dX6_path_31 : decode cX6_path 31 = .ok (.iload_n 2, 1) := by decide +kernel
theorem dX6_path_32 : decode cX6_path 32 = .ok (.iload_n 3, 1) := by decide +kernel
theorem dX6_path_33 : decode cX6_path 33 = .ok (.invokevirtual 212, 3) := by decide +kernel
theorem dX6_path_36 : decode cX6_path 36 = .ok (.istore 4, 2) := by decide +kernel
theorem dX6_path_38 : decode cX6_path 38 = .ok (.iload 4, 2) := by decide +kernel
theorem dX6_path_40 : decode cX6_path 40 = .ok (.iconst (-1), 1) := by decide +kernel
theorem dX6_path_41 : decode cX6_path 41 = .ok (.if_icmp .ne 13, 3) := by decide +kernel
theorem dX6_path_44 : decode cX6_path 44 = .ok (.new 108, 3) := by decide +kernel
theorem dX6_path_47 : decode cX6_path 47 = .ok (.dup, 1) := by decide +kernel
theorem dX6_path_48 : decode cX6_path 48 = .ok (.ldc 215, 2) := by decide +kernel
theorem dX6_path_50 : decode cX6_path 50 = .ok (.invokespecial 112, 3) := by decide +kernel
theorem dX6_path_53 : decode cX6_path 53 = .ok (.athrow, 1) := by decide +kernel
theorem dX6_path_54 : decode cX6_path 54 = .ok (.iload 4, 2) := by decide +kernel
theorem dX6_path_56 : decode cX6_path 56 = .ok (.ireturn, 1) := by decide +kernel
theorem dX6_sends_0 : decode cX6_sends 0 = .ok (.aload_n 0, 1) := by decide +kernel
theorem dX6_sends_1 : decode cX6_sends 1 = .ok (.iload_n 1, 1) := by decide +kernel
theorem dX6_sends_2 : decode cX6_sends 2 = .ok (.invokevirtual 105, 3) := by decide +kernel
theorem dX6_sends_5 : decode cX6_sends 5 = .ok (.ifCond .eq 7, 3) := by decide +kernel
theorem dX6_sends_8 : decode cX6_sends 8 = .ok (.iload_n 2, 1) := by decide +kernel
theorem dX6_sends_9 : decode cX6_sends 9 = .ok (.ifCond .ge 13, 3) := by decide +kernel
theorem dX6_sends_12 : decode cX6_sends 12 = .ok (.new 108, 3) := by decide +kernel
theorem dX6_sends_15 : decode cX6_sends 15 = .ok (.dup, 1) := by decide +kernel
theorem dX6_sends_16 : decode cX6_sends 16 = .ok (.ldc 217, 2) := by decide +kernel
theorem dX6_sends_18 : decode cX6_sends 18 = .ok (.invokespecial 112, 3) := by decide +kernel
theorem dX6_sends_21 : decode cX6_sends 21 = .ok (.athrow, 1) := by decide +kernel
theorem dX6_sends_22 : decode cX6_sends 22 = .ok (.aload_n 0, 1) := by decide +kernel
theorem dX6_sends_23 : decode cX6_sends 23 = .ok (.getfield 26, 3) := by decide +kernel
theorem dX6_sends_26 : decode cX6_sends 26 = .ok (.iload_n 1, 1) := by decide +kernel
theorem dX6_sends_27 : decode cX6_sends 27 = .ok (.iload_n 2, 1) := by decide +kernel
theorem dX6_sends_28 : decode cX6_sends 28 = .ok (.invokevirtual 219, 3) := by decide +kernel
theorem dX6_sends_31 : decode cX6_sends 31 = .ok (.ireturn, 1) := by decide +kernel
theorem dX6_run_0 : decode cX6_run 0 = .ok (.iload_n 1, 1) := by decide +kernel
theorem dX6_run_1 : decode cX6_run 1 = .ok (.invokestatic 222, 3) := by decide +kernel
theorem dX6_run_4 : decode cX6_run 4 = .ok (.ifCond .ne 13, 3) := by decide +kernel
theorem dX6_run_7 : decode cX6_run 7 = .ok (.new 59, 3) := by decide +kernel
theorem dX6_run_10 : decode cX6_run 10 = .ok (.dup, 1) := by decide +kernel
theorem dX6_run_11 : decode cX6_run 11 = .ok (.ldc 225, 2) := by decide +kernel
theorem dX6_run_13 : decode cX6_run 13 = .ok (.invokespecial 63, 3) := by decide +kernel
theorem dX6_run_16 : decode cX6_run 16 = .ok (.athrow, 1) := by decide +kernel
theorem dX6_run_17 : decode cX6_run 17 = .ok (.aload_n 0, 1) := by decide +kernel
theorem dX6_run_18 : decode cX6_run 18 = .ok (.getfield 26, 3) := by decide +kernel
theorem dX6_run_21 : decode cX6_run 21 = .ok (.iconst 1, 1) := by decide +kernel
theorem dX6_run_22 : decode cX6_run 22 = .ok (.invokevirtual 227, 3) := by decide +kernel
theorem dX6_run_25 : decode cX6_run 25 = .ok (.istore_n 2, 1) := by decide +kernel
theorem dX6_run_26 : decode cX6_run 26 = .ok (.iconst 0, 1) := by decide +kernel
theorem dX6_run_27 : decode cX6_run 27 = .ok (.istore_n 3, 1) := by decide +kernel
theorem dX6_run_28 : decode cX6_run 28 = .ok (.iload_n 3, 1) := by decide +kernel
theorem dX6_run_29 : decode cX6_run 29 = .ok (.iload_n 1, 1) := by decide +kernel
theorem dX6_run_30 : decode cX6_run 30 = .ok (.if_icmp .ge 16, 3) := by decide +kernel
theorem dX6_run_33 : decode cX6_run 33 = .ok (.aload_n 0, 1) := by decide +kernel
theorem dX6_run_34 : decode cX6_run 34 = .ok (.getfield 26, 3) := by decide +kernel
theorem dX6_run_37 : decode cX6_run 37 = .ok (.invokevirtual 230, 3) := by decide +kernel
theorem dX6_run_40 : decode cX6_run 40 = .ok (.iinc 3 1, 3) := by decide +kernel
theorem dX6_run_43 : decode cX6_run 43 = .ok (.goto (-15), 3) := by decide +kernel
theorem dX6_run_46 : decode cX6_run 46 = .ok (.aload_n 0, 1) := by decide +kernel
theorem dX6_run_47 : decode cX6_run 47 = .ok (.getfield 26, 3) := by decide +kernel
theorem dX6_run_50 : decode cX6_run 50 = .ok (.iconst 1, 1) := by decide +kernel
theorem dX6_run_51 : decode cX6_run 51 = .ok (.invokevirtual 227, 3) := by decide +kernel
theorem dX6_run_54 : decode cX6_run 54 = .ok (.iload_n 2, 1) := by decide +kernel
theorem dX6_run_55 : decode cX6_run 55 = .ok (.isub, 1) := by decide +kernel
theorem dX6_run_56 : decode cX6_run 56 = .ok (.ireturn, 1) := by decide +kernel
theorem dX6_stateAfter_0 : decode cX6_stateAfter 0 = .ok (.aload_n 0, 1) := by decide +kernel
theorem dX6_stateAfter_1 : decode cX6_stateAfter 1 = .ok (.iload_n 1, 1) := by decide +kernel
theorem dX6_stateAfter_2 : decode cX6_stateAfter 2 = .ok (.invokevirtual 191, 3) := by decide +kernel
theorem dX6_stateAfter_5 : decode cX6_stateAfter 5 = .ok (.ifCond .ne 13, 3) := by decide +kernel
theorem dX6_stateAfter_8 : decode cX6_stateAfter 8 = .ok (.new 108, 3) := by decide +kernel
theorem dX6_stateAfter_11 : decode cX6_stateAfter 11 = .ok (.dup, 1) := by decide +kernel
theorem dX6_stateAfter_12 : decode cX6_stateAfter 12 = .ok (.ldc 194, 2) := by decide +kernel
theorem dX6_stateAfter_14 : decode cX6_stateAfter 14 = .ok (.invokespecial 112, 3) := by decide +kernel
theorem dX6_stateAfter_17 : decode cX6_stateAfter 17 = .ok (.athrow, 1) := by decide +kernel
theorem dX6_stateAfter_18 : decode cX6_stateAfter 18 = .ok (.iload_n 2, 1) := by decide +kernel
theorem dX6_stateAfter_19 : decode cX6_stateAfter 19 = .ok (.invokestatic 222, 3) := by decide +kernel
theorem dX6_stateAfter_22 : decode cX6_stateAfter 22 = .ok (.ifCond .ne 13, 3) := by decide +kernel
theorem dX6_stateAfter_25 : decode cX6_stateAfter 25 = .ok (.new 59, 3) := by decide +kernel
theorem dX6_stateAfter_28 : decode cX6_stateAfter 28 = .ok (.dup, 1) := by decide +kernel
theorem dX6_stateAfter_29 : decode cX6_stateAfter 29 = .ok (.ldc 225, 2) := by decide +kernel
theorem dX6_stateAfter_31 : decode cX6_stateAfter 31 = .ok (.invokespecial 63, 3) := by decide +kernel
theorem dX6_stateAfter_34 : decode cX6_stateAfter 34 = .ok (.athrow, 1) := by decide +kernel
theorem dX6_stateAfter_35 : decode cX6_stateAfter 35 = .ok (.aload_n 0, 1) := by decide +kernel
theorem dX6_stateAfter_36 : decode cX6_stateAfter 36 = .ok (.getfield 30, 3) := by decide +kernel
theorem dX6_stateAfter_39 : decode cX6_stateAfter 39 = .ok (.aload_n 0, 1) := by decide +kernel
theorem dX6_stateAfter_40 : decode cX6_stateAfter 40 = .ok (.getfield 26, 3) := by decide +kernel
theorem dX6_stateAfter_43 : decode cX6_stateAfter 43 = .ok (.invokevirtual 83, 3) := by decide +kernel
theorem dX6_stateAfter_46 : decode cX6_stateAfter 46 = .ok (.iconst 0, 1) := by decide +kernel
theorem dX6_stateAfter_47 : decode cX6_stateAfter 47 = .ok (.istore_n 3, 1) := by decide +kernel
theorem dX6_stateAfter_48 : decode cX6_stateAfter 48 = .ok (.iload_n 3, 1) := by decide +kernel
theorem dX6_stateAfter_49 : decode cX6_stateAfter 49 = .ok (.iload_n 2, 1) := by decide +kernel
theorem dX6_stateAfter_50 : decode cX6_stateAfter 50 = .ok (.if_icmp .ge 16, 3) := by decide +kernel
theorem dX6_stateAfter_53 : decode cX6_stateAfter 53 = .ok (.aload_n 0, 1) := by decide +kernel
theorem dX6_stateAfter_54 : decode cX6_stateAfter 54 = .ok (.getfield 30, 3) := by decide +kernel
theorem dX6_stateAfter_57 : decode cX6_stateAfter 57 = .ok (.invokevirtual 230, 3) := by decide +kernel
theorem dX6_stateAfter_60 : decode cX6_stateAfter 60 = .ok (.iinc 3 1, 3) := by decide +kernel
theorem dX6_stateAfter_63 : decode cX6_stateAfter 63 = .ok (.goto (-15), 3) := by decide +kernel
theorem dX6_stateAfter_66 : decode cX6_stateAfter 66 = .ok (.aload_n 0, 1) := by decide +kernel
theorem dX6_stateAfter_67 : decode cX6_stateAfter 67 = .ok (.getfield 30, 3) := by decide +kernel
theorem dX6_stateAfter_70 : decode cX6_stateAfter 70 = .ok (.iload_n 1, 1) := by decide +kernel
theorem dX6_stateAfter_71 : decode cX6_stateAfter 71 = .ok (.invokevirtual 233, 3) := by decide +kernel
theorem dX6_stateAfter_74 : decode cX6_stateAfter 74 = .ok (.ireturn, 1) := by decide +kernel
theorem dX6_hoursTo_0 : decode cX6_hoursTo 0 = .ok (.iload_n 1, 1) := by decide +kernel
theorem dX6_hoursTo_1 : decode cX6_hoursTo 1 = .ok (.iconst 1, 1) := by decide +kernel
theorem dX6_hoursTo_2 : decode cX6_hoursTo 2 = .ok (.if_icmp .lt 9, 3) := by decide +kernel
theorem dX6_hoursTo_5 : decode cX6_hoursTo 5 = .ok (.iload_n 1, 1) := by decide +kernel
theorem dX6_hoursTo_6 : decode cX6_hoursTo 6 = .ok (.bipush 24, 2) := by decide +kernel
theorem dX6_hoursTo_8 : decode cX6_hoursTo 8 = .ok (.if_icmp .le 13, 3) := by decide +kernel
theorem dX6_hoursTo_11 : decode cX6_hoursTo 11 = .ok (.new 59, 3) := by decide +kernel
theorem dX6_hoursTo_14 : decode cX6_hoursTo 14 = .ok (.dup, 1) := by decide +kernel
theorem dX6_hoursTo_15 : decode cX6_hoursTo 15 = .ok (.ldc 236, 2) := by decide +kernel
theorem dX6_hoursTo_17 : decode cX6_hoursTo 17 = .ok (.invokespecial 63, 3) := by decide +kernel
theorem dX6_hoursTo_20 : decode cX6_hoursTo 20 = .ok (.athrow, 1) := by decide +kernel
theorem dX6_hoursTo_21 : decode cX6_hoursTo 21 = .ok (.aload_n 0, 1) := by decide +kernel
theorem dX6_hoursTo_22 : decode cX6_hoursTo 22 = .ok (.getfield 30, 3) := by decide +kernel
theorem dX6_hoursTo_25 : decode cX6_hoursTo 25 = .ok (.aload_n 0, 1) := by decide +kernel
theorem dX6_hoursTo_26 : decode cX6_hoursTo 26 = .ok (.getfield 26, 3) := by decide +kernel
theorem dX6_hoursTo_29 : decode cX6_hoursTo 29 = .ok (.invokevirtual 83, 3) := by decide +kernel
theorem dX6_hoursTo_32 : decode cX6_hoursTo 32 = .ok (.iconst 0, 1) := by decide +kernel
theorem dX6_hoursTo_33 : decode cX6_hoursTo 33 = .ok (.istore_n 2, 1) := by decide +kernel
theorem dX6_hoursTo_34 : decode cX6_hoursTo 34 = .ok (.iload_n 2, 1) := by decide +kernel
theorem dX6_hoursTo_35 : decode cX6_hoursTo 35 = .ok (.bipush 72, 2) := by decide +kernel
theorem dX6_hoursTo_37 : decode cX6_hoursTo 37 = .ok (.if_icmp .ge 28, 3) := by decide +kernel
theorem dX6_hoursTo_40 : decode cX6_hoursTo 40 = .ok (.aload_n 0, 1) := by decide +kernel
theorem dX6_hoursTo_41 : decode cX6_hoursTo 41 = .ok (.getfield 30, 3) := by decide +kernel
theorem dX6_hoursTo_44 : decode cX6_hoursTo 44 = .ok (.iconst 1, 1) := by decide +kernel
theorem dX6_hoursTo_45 : decode cX6_hoursTo 45 = .ok (.invokevirtual 227, 3) := by decide +kernel
theorem dX6_hoursTo_48 : decode cX6_hoursTo 48 = .ok (.iload_n 1, 1) := by decide +kernel
theorem dX6_hoursTo_49 : decode cX6_hoursTo 49 = .ok (.if_icmp .ge 16, 3) := by decide +kernel
theorem dX6_hoursTo_52 : decode cX6_hoursTo 52 = .ok (.aload_n 0, 1) := by decide +kernel
theorem dX6_hoursTo_53 : decode cX6_hoursTo 53 = .ok (.getfield 30, 3) := by decide +kernel
theorem dX6_hoursTo_56 : decode cX6_hoursTo 56 = .ok (.invokevirtual 230, 3) := by decide +kernel
theorem dX6_hoursTo_59 : decode cX6_hoursTo 59 = .ok (.iinc 2 1, 3) := by decide +kernel
theorem dX6_hoursTo_62 : decode cX6_hoursTo 62 = .ok (.goto (-28), 3) := by decide +kernel
theorem dX6_hoursTo_65 : decode cX6_hoursTo 65 = .ok (.aload_n 0, 1) := by decide +kernel
theorem dX6_hoursTo_66 : decode cX6_hoursTo 66 = .ok (.getfield 30, 3) := by decide +kernel
theorem dX6_hoursTo_69 : decode cX6_hoursTo 69 = .ok (.iconst 1, 1) := by decide +kernel
theorem dX6_hoursTo_70 : decode cX6_hoursTo 70 = .ok (.invokevirtual 227, 3) := by decide +kernel
theorem dX6_hoursTo_73 : decode cX6_hoursTo 73 = .ok (.iload_n 1, 1) := by decide +kernel
theorem dX6_hoursTo_74 : decode cX6_hoursTo 74 = .ok (.if_icmp .ge 7, 3) := by decide +kernel
theorem dX6_hoursTo_77 : decode cX6_hoursTo 77 = .ok (.iconst (-1), 1) := by decide +kernel
theorem dX6_hoursTo_78 : decode cX6_hoursTo 78 = .ok (.goto 4, 3) := by decide +kernel
theorem dX6_hoursTo_81 : decode cX6_hoursTo 81 = .ok (.iload_n 2, 1) := by decide +kernel
theorem dX6_hoursTo_82 : decode cX6_hoursTo 82 = .ok (.ireturn, 1) := by decide +kernel
theorem dX6_meanHours_0 : decode cX6_meanHours 0 = .ok (.aload_n 0, 1) := by decide +kernel
theorem dX6_meanHours_1 : decode cX6_meanHours 1 = .ok (.getfield 26, 3) := by decide +kernel
theorem dX6_meanHours_4 : decode cX6_meanHours 4 = .ok (.iconst 1, 1) := by decide +kernel
theorem dX6_meanHours_5 : decode cX6_meanHours 5 = .ok (.invokevirtual 227, 3) := by decide +kernel
theorem dX6_meanHours_8 : decode cX6_meanHours 8 = .ok (.istore_n 1, 1) := by decide +kernel
theorem dX6_meanHours_9 : decode cX6_meanHours 9 = .ok (.iload_n 1, 1) := by decide +kernel
theorem dX6_meanHours_10 : decode cX6_meanHours 10 = .ok (.ifCond .ne 9, 3) := by decide +kernel
theorem dX6_meanHours_13 : decode cX6_meanHours 13 = .ok (.ldc2_w 238, 3) := by decide +kernel
theorem dX6_meanHours_16 : decode cX6_meanHours 16 = .ok (.goto 14, 3) := by decide +kernel
theorem dX6_meanHours_19 : decode cX6_meanHours 19 = .ok (.aload_n 0, 1) := by decide +kernel
theorem dX6_meanHours_20 : decode cX6_meanHours 20 = .ok (.getfield 26, 3) := by decide +kernel
theorem dX6_meanHours_23 : decode cX6_meanHours 23 = .ok (.invokevirtual 240, 3) := by decide +kernel
theorem dX6_meanHours_26 : decode cX6_meanHours 26 = .ok (.i2d, 1) := by decide +kernel
theorem dX6_meanHours_27 : decode cX6_meanHours 27 = .ok (.iload_n 1, 1) := by decide +kernel
theorem dX6_meanHours_28 : decode cX6_meanHours 28 = .ok (.i2d, 1) := by decide +kernel
theorem dX6_meanHours_29 : decode cX6_meanHours 29 = .ok (.ddiv, 1) := by decide +kernel
theorem dX6_meanHours_30 : decode cX6_meanHours 30 = .ok (.dreturn, 1) := by decide +kernel
theorem dX6_lossRate_0 : decode cX6_lossRate 0 = .ok (.aload_n 0, 1) := by decide +kernel
theorem dX6_lossRate_1 : decode cX6_lossRate 1 = .ok (.getfield 26, 3) := by decide +kernel
theorem dX6_lossRate_4 : decode cX6_lossRate 4 = .ok (.invokevirtual 243, 3) := by decide +kernel
theorem dX6_lossRate_7 : decode cX6_lossRate 7 = .ok (.istore_n 1, 1) := by decide +kernel
theorem dX6_lossRate_8 : decode cX6_lossRate 8 = .ok (.iload_n 1, 1) := by decide +kernel
theorem dX6_lossRate_9 : decode cX6_lossRate 9 = .ok (.ifCond .ne 7, 3) := by decide +kernel
theorem dX6_lossRate_12 : decode cX6_lossRate 12 = .ok (.fconst 0, 1) := by decide +kernel
theorem dX6_lossRate_13 : decode cX6_lossRate 13 = .ok (.goto 14, 3) := by decide +kernel
theorem dX6_lossRate_16 : decode cX6_lossRate 16 = .ok (.aload_n 0, 1) := by decide +kernel
theorem dX6_lossRate_17 : decode cX6_lossRate 17 = .ok (.getfield 26, 3) := by decide +kernel
theorem dX6_lossRate_20 : decode cX6_lossRate 20 = .ok (.invokevirtual 246, 3) := by decide +kernel
theorem dX6_lossRate_23 : decode cX6_lossRate 23 = .ok (.i2f, 1) := by decide +kernel
theorem dX6_lossRate_24 : decode cX6_lossRate 24 = .ok (.iload_n 1, 1) := by decide +kernel
theorem dX6_lossRate_25 : decode cX6_lossRate 25 = .ok (.i2f, 1) := by decide +kernel
theorem dX6_lossRate_26 : decode cX6_lossRate 26 = .ok (.fdiv, 1) := by decide +kernel
theorem dX6_lossRate_27 : decode cX6_lossRate 27 = .ok (.freturn, 1) := by decide +kernel
theorem dX6_event_0 : decode cX6_event 0 = .ok (.aload_n 0, 1) := by decide +kernel
theorem dX6_event_1 : decode cX6_event 1 = .ok (.iload_n 1, 1) := by decide +kernel
theorem dX6_event_2 : decode cX6_event 2 = .ok (.invokevirtual 249, 3) := by decide +kernel
theorem dX6_event_5 : decode cX6_event 5 = .ok (.ifCond .ne 13, 3) := by decide +kernel
theorem dX6_event_8 : decode cX6_event 8 = .ok (.new 108, 3) := by decide +kernel
theorem dX6_event_11 : decode cX6_event 11 = .ok (.dup, 1) := by decide +kernel
theorem dX6_event_12 : decode cX6_event 12 = .ok (.ldc 252, 2) := by decide +kernel
theorem dX6_event_14 : decode cX6_event 14 = .ok (.invokespecial 112, 3) := by decide +kernel
theorem dX6_event_17 : decode cX6_event 17 = .ok (.athrow, 1) := by decide +kernel
theorem dX6_event_18 : decode cX6_event 18 = .ok (.iload_n 2, 1) := by decide +kernel
theorem dX6_event_19 : decode cX6_event 19 = .ok (.ifCond .lt 8, 3) := by decide +kernel
theorem dX6_event_22 : decode cX6_event 22 = .ok (.iload_n 2, 1) := by decide +kernel
theorem dX6_event_23 : decode cX6_event 23 = .ok (.iconst 4, 1) := by decide +kernel
theorem dX6_event_24 : decode cX6_event 24 = .ok (.if_icmp .le 13, 3) := by decide +kernel
theorem dX6_event_27 : decode cX6_event 27 = .ok (.new 59, 3) := by decide +kernel
theorem dX6_event_30 : decode cX6_event 30 = .ok (.dup, 1) := by decide +kernel
theorem dX6_event_31 : decode cX6_event 31 = .ok (.ldc 156, 2) := by decide +kernel
theorem dX6_event_33 : decode cX6_event 33 = .ok (.invokespecial 63, 3) := by decide +kernel
theorem dX6_event_36 : decode cX6_event 36 = .ok (.athrow, 1) := by decide +kernel
theorem dX6_event_37 : decode cX6_event 37 = .ok (.aload_n 0, 1) := by decide +kernel
theorem dX6_event_38 : decode cX6_event 38 = .ok (.getfield 26, 3) := by decide +kernel
theorem dX6_event_41 : decode cX6_event 41 = .ok (.iload_n 1, 1) := by decide +kernel
theorem dX6_event_42 : decode cX6_event 42 = .ok (.iload_n 2, 1) := by decide +kernel
theorem dX6_event_43 : decode cX6_event 43 = .ok (.invokevirtual 254, 3) := by decide +kernel
theorem dX6_event_46 : decode cX6_event 46 = .ok (.ireturn, 1) := by decide +kernel
theorem dX6_write_0 : decode cX6_write 0 = .ok (.aload_n 0, 1) := by decide +kernel
theorem dX6_write_1 : decode cX6_write 1 = .ok (.iload_n 1, 1) := by decide +kernel
theorem dX6_write_2 : decode cX6_write 2 = .ok (.invokevirtual 249, 3) := by decide +kernel
theorem dX6_write_5 : decode cX6_write 5 = .ok (.ifCond .ne 13, 3) := by decide +kernel
theorem dX6_write_8 : decode cX6_write 8 = .ok (.new 108, 3) := by decide +kernel
theorem dX6_write_11 : decode cX6_write 11 = .ok (.dup, 1) := by decide +kernel
theorem dX6_write_12 : decode cX6_write 12 = .ok (.ldc 252, 2) := by decide +kernel
theorem dX6_write_14 : decode cX6_write 14 = .ok (.invokespecial 112, 3) := by decide +kernel
theorem dX6_write_17 : decode cX6_write 17 = .ok (.athrow, 1) := by decide +kernel
theorem dX6_write_18 : decode cX6_write 18 = .ok (.aload_n 0, 1) := by decide +kernel
theorem dX6_write_19 : decode cX6_write 19 = .ok (.getfield 40, 3) := by decide +kernel
theorem dX6_write_22 : decode cX6_write 22 = .ok (.invokevirtual 257, 3) := by decide +kernel
theorem dX6_write_25 : decode cX6_write 25 = .ok (.aload_n 0, 1) := by decide +kernel
theorem dX6_write_26 : decode cX6_write 26 = .ok (.getfield 40, 3) := by decide +kernel
theorem dX6_write_29 : decode cX6_write 29 = .ok (.aload_n 0, 1) := by decide +kernel
theorem dX6_write_30 : decode cX6_write 30 = .ok (.getfield 26, 3) := by decide +kernel
theorem dX6_write_33 : decode cX6_write 33 = .ok (.iload_n 1, 1) := by decide +kernel
theorem dX6_write_34 : decode cX6_write 34 = .ok (.iconst 0, 1) := by decide +kernel
theorem dX6_write_35 : decode cX6_write 35 = .ok (.invokevirtual 254, 3) := by decide +kernel
theorem dX6_write_38 : decode cX6_write 38 = .ok (.invokevirtual 260, 3) := by decide +kernel
theorem dX6_write_41 : decode cX6_write 41 = .ok (.aload_n 0, 1) := by decide +kernel
theorem dX6_write_42 : decode cX6_write 42 = .ok (.getfield 40, 3) := by decide +kernel
theorem dX6_write_45 : decode cX6_write 45 = .ok (.ldc_w 263, 3) := by decide +kernel
theorem dX6_write_48 : decode cX6_write 48 = .ok (.invokevirtual 265, 3) := by decide +kernel
theorem dX6_write_51 : decode cX6_write 51 = .ok (.aload_n 0, 1) := by decide +kernel
theorem dX6_write_52 : decode cX6_write 52 = .ok (.getfield 40, 3) := by decide +kernel
theorem dX6_write_55 : decode cX6_write 55 = .ok (.aload_n 0, 1) := by decide +kernel
theorem dX6_write_56 : decode cX6_write 56 = .ok (.getfield 26, 3) := by decide +kernel
theorem dX6_write_59 : decode cX6_write 59 = .ok (.iload_n 1, 1) := by decide +kernel
theorem dX6_write_60 : decode cX6_write 60 = .ok (.iconst 2, 1) := by decide +kernel
theorem dX6_write_61 : decode cX6_write 61 = .ok (.invokevirtual 254, 3) := by decide +kernel
theorem dX6_write_64 : decode cX6_write 64 = .ok (.invokevirtual 260, 3) := by decide +kernel
theorem dX6_write_67 : decode cX6_write 67 = .ok (.aload_n 0, 1) := by decide +kernel
theorem dX6_write_68 : decode cX6_write 68 = .ok (.getfield 40, 3) := by decide +kernel
theorem dX6_write_71 : decode cX6_write 71 = .ok (.ldc_w 268, 3) := by decide +kernel
theorem dX6_write_74 : decode cX6_write 74 = .ok (.invokevirtual 265, 3) := by decide +kernel
theorem dX6_write_77 : decode cX6_write 77 = .ok (.aload_n 0, 1) := by decide +kernel
theorem dX6_write_78 : decode cX6_write 78 = .ok (.getfield 40, 3) := by decide +kernel
theorem dX6_write_81 : decode cX6_write 81 = .ok (.aload_n 0, 1) := by decide +kernel
theorem dX6_write_82 : decode cX6_write 82 = .ok (.getfield 26, 3) := by decide +kernel
theorem dX6_write_85 : decode cX6_write 85 = .ok (.iload_n 1, 1) := by decide +kernel
theorem dX6_write_86 : decode cX6_write 86 = .ok (.iconst 3, 1) := by decide +kernel
theorem dX6_write_87 : decode cX6_write 87 = .ok (.invokevirtual 254, 3) := by decide +kernel
theorem dX6_write_90 : decode cX6_write 90 = .ok (.invokevirtual 260, 3) := by decide +kernel
theorem dX6_write_93 : decode cX6_write 93 = .ok (.aload_n 0, 1) := by decide +kernel
theorem dX6_write_94 : decode cX6_write 94 = .ok (.getfield 26, 3) := by decide +kernel
theorem dX6_write_97 : decode cX6_write 97 = .ok (.iload_n 1, 1) := by decide +kernel
theorem dX6_write_98 : decode cX6_write 98 = .ok (.iconst 4, 1) := by decide +kernel
theorem dX6_write_99 : decode cX6_write 99 = .ok (.invokevirtual 254, 3) := by decide +kernel
theorem dX6_write_102 : decode cX6_write 102 = .ok (.istore_n 2, 1) := by decide +kernel
theorem dX6_write_103 : decode cX6_write 103 = .ok (.iload_n 2, 1) := by decide +kernel
theorem dX6_write_104 : decode cX6_write 104 = .ok (.iconst (-1), 1) := by decide +kernel
theorem dX6_write_105 : decode cX6_write 105 = .ok (.if_icmp .eq 21, 3) := by decide +kernel
theorem dX6_write_108 : decode cX6_write 108 = .ok (.aload_n 0, 1) := by decide +kernel
theorem dX6_write_109 : decode cX6_write 109 = .ok (.getfield 40, 3) := by decide +kernel
theorem dX6_write_112 : decode cX6_write 112 = .ok (.ldc_w 270, 3) := by decide +kernel
theorem dX6_write_115 : decode cX6_write 115 = .ok (.invokevirtual 265, 3) := by decide +kernel
theorem dX6_write_118 : decode cX6_write 118 = .ok (.aload_n 0, 1) := by decide +kernel
theorem dX6_write_119 : decode cX6_write 119 = .ok (.getfield 40, 3) := by decide +kernel
theorem dX6_write_122 : decode cX6_write 122 = .ok (.iload_n 2, 1) := by decide +kernel
theorem dX6_write_123 : decode cX6_write 123 = .ok (.invokevirtual 260, 3) := by decide +kernel
theorem dX6_write_126 : decode cX6_write 126 = .ok (.aload_n 0, 1) := by decide +kernel
theorem dX6_write_127 : decode cX6_write 127 = .ok (.getfield 40, 3) := by decide +kernel
theorem dX6_write_130 : decode cX6_write 130 = .ok (.ldc_w 268, 3) := by decide +kernel
theorem dX6_write_133 : decode cX6_write 133 = .ok (.invokevirtual 265, 3) := by decide +kernel
theorem dX6_write_136 : decode cX6_write 136 = .ok (.aload_n 0, 1) := by decide +kernel
theorem dX6_write_137 : decode cX6_write 137 = .ok (.getfield 40, 3) := by decide +kernel
theorem dX6_write_140 : decode cX6_write 140 = .ok (.aload_n 0, 1) := by decide +kernel
theorem dX6_write_141 : decode cX6_write 141 = .ok (.getfield 26, 3) := by decide +kernel
theorem dX6_write_144 : decode cX6_write 144 = .ok (.iload_n 1, 1) := by decide +kernel
theorem dX6_write_145 : decode cX6_write 145 = .ok (.iconst 1, 1) := by decide +kernel
theorem dX6_write_146 : decode cX6_write 146 = .ok (.invokevirtual 254, 3) := by decide +kernel
theorem dX6_write_149 : decode cX6_write 149 = .ok (.invokestatic 272, 3) := by decide +kernel
theorem dX6_write_152 : decode cX6_write 152 = .ok (.invokevirtual 265, 3) := by decide +kernel
theorem dX6_write_155 : decode cX6_write 155 = .ok (.aload_n 0, 1) := by decide +kernel
theorem dX6_write_156 : decode cX6_write 156 = .ok (.getfield 40, 3) := by decide +kernel
theorem dX6_write_159 : decode cX6_write 159 = .ok (.invokevirtual 276, 3) := by decide +kernel
theorem dX6_write_162 : decode cX6_write 162 = .ok (.ireturn, 1) := by decide +kernel
theorem dX6_output_0 : decode cX6_output 0 = .ok (.aload_n 0, 1) := by decide +kernel
theorem dX6_output_1 : decode cX6_output 1 = .ok (.getfield 40, 3) := by decide +kernel
theorem dX6_output_4 : decode cX6_output 4 = .ok (.iload_n 1, 1) := by decide +kernel
theorem dX6_output_5 : decode cX6_output 5 = .ok (.invokevirtual 277, 3) := by decide +kernel
theorem dX6_output_8 : decode cX6_output 8 = .ok (.ireturn, 1) := by decide +kernel
theorem dX6_save_0 : decode cX6_save 0 = .ok (.iload_n 1, 1) := by decide +kernel
theorem dX6_save_1 : decode cX6_save 1 = .ok (.ifCond .lt 12, 3) := by decide +kernel
theorem dX6_save_4 : decode cX6_save 4 = .ok (.iload_n 1, 1) := by decide +kernel
theorem dX6_save_5 : decode cX6_save 5 = .ok (.aload_n 0, 1) := by decide +kernel
theorem dX6_save_6 : decode cX6_save 6 = .ok (.getfield 33, 3) := by decide +kernel
theorem dX6_save_9 : decode cX6_save 9 = .ok (.arraylength, 1) := by decide +kernel
theorem dX6_save_10 : decode cX6_save 10 = .ok (.if_icmp .lt 14, 3) := by decide +kernel
theorem dX6_save_13 : decode cX6_save 13 = .ok (.new 59, 3) := by decide +kernel
theorem dX6_save_16 : decode cX6_save 16 = .ok (.dup, 1) := by decide +kernel
theorem dX6_save_17 : decode cX6_save 17 = .ok (.ldc_w 280, 3) := by decide +kernel
theorem dX6_save_20 : decode cX6_save 20 = .ok (.invokespecial 63, 3) := by decide +kernel
theorem dX6_save_23 : decode cX6_save 23 = .ok (.athrow, 1) := by decide +kernel
theorem dX6_save_24 : decode cX6_save 24 = .ok (.aload_n 0, 1) := by decide +kernel
theorem dX6_save_25 : decode cX6_save 25 = .ok (.getfield 33, 3) := by decide +kernel
theorem dX6_save_28 : decode cX6_save 28 = .ok (.iload_n 1, 1) := by decide +kernel
theorem dX6_save_29 : decode cX6_save 29 = .ok (.aaload, 1) := by decide +kernel
theorem dX6_save_30 : decode cX6_save 30 = .ok (.astore_n 2, 1) := by decide +kernel
theorem dX6_save_31 : decode cX6_save 31 = .ok (.aload_n 2, 1) := by decide +kernel
theorem dX6_save_32 : decode cX6_save 32 = .ok (.ifnonnull 18, 3) := by decide +kernel
theorem dX6_save_35 : decode cX6_save 35 = .ok (.new 23, 3) := by decide +kernel
theorem dX6_save_38 : decode cX6_save 38 = .ok (.dup, 1) := by decide +kernel
theorem dX6_save_39 : decode cX6_save 39 = .ok (.invokespecial 25, 3) := by decide +kernel
theorem dX6_save_42 : decode cX6_save 42 = .ok (.astore_n 2, 1) := by decide +kernel
theorem dX6_save_43 : decode cX6_save 43 = .ok (.aload_n 0, 1) := by decide +kernel
theorem dX6_save_44 : decode cX6_save 44 = .ok (.getfield 33, 3) := by decide +kernel
theorem dX6_save_47 : decode cX6_save 47 = .ok (.iload_n 1, 1) := by decide +kernel
theorem dX6_save_48 : decode cX6_save 48 = .ok (.aload_n 2, 1) := by decide +kernel
theorem dX6_save_49 : decode cX6_save 49 = .ok (.aastore, 1) := by decide +kernel
theorem dX6_save_50 : decode cX6_save 50 = .ok (.aload_n 2, 1) := by decide +kernel
theorem dX6_save_51 : decode cX6_save 51 = .ok (.aload_n 0, 1) := by decide +kernel
theorem dX6_save_52 : decode cX6_save 52 = .ok (.getfield 26, 3) := by decide +kernel
theorem dX6_save_55 : decode cX6_save 55 = .ok (.invokevirtual 83, 3) := by decide +kernel
theorem dX6_save_58 : decode cX6_save 58 = .ok (.return_, 1) := by decide +kernel
theorem dX6_restore_0 : decode cX6_restore 0 = .ok (.iload_n 1, 1) := by decide +kernel
theorem dX6_restore_1 : decode cX6_restore 1 = .ok (.ifCond .lt 12, 3) := by decide +kernel
theorem dX6_restore_4 : decode cX6_restore 4 = .ok (.iload_n 1, 1) := by decide +kernel
theorem dX6_restore_5 : decode cX6_restore 5 = .ok (.aload_n 0, 1) := by decide +kernel
theorem dX6_restore_6 : decode cX6_restore 6 = .ok (.getfield 33, 3) := by decide +kernel
theorem dX6_restore_9 : decode cX6_restore 9 = .ok (.arraylength, 1) := by decide +kernel
theorem dX6_restore_10 : decode cX6_restore 10 = .ok (.if_icmp .lt 14, 3) := by decide +kernel
theorem dX6_restore_13 : decode cX6_restore 13 = .ok (.new 59, 3) := by decide +kernel
theorem dX6_restore_16 : decode cX6_restore 16 = .ok (.dup, 1) := by decide +kernel
theorem dX6_restore_17 : decode cX6_restore 17 = .ok (.ldc_w 280, 3) := by decide +kernel
theorem dX6_restore_20 : decode cX6_restore 20 = .ok (.invokespecial 63, 3) := by decide +kernel
theorem dX6_restore_23 : decode cX6_restore 23 = .ok (.athrow, 1) := by decide +kernel
theorem dX6_restore_24 : decode cX6_restore 24 = .ok (.aload_n 0, 1) := by decide +kernel
theorem dX6_restore_25 : decode cX6_restore 25 = .ok (.getfield 33, 3) := by decide +kernel
theorem dX6_restore_28 : decode cX6_restore 28 = .ok (.iload_n 1, 1) := by decide +kernel
theorem dX6_restore_29 : decode cX6_restore 29 = .ok (.aaload, 1) := by decide +kernel
theorem dX6_restore_30 : decode cX6_restore 30 = .ok (.astore_n 2, 1) := by decide +kernel
theorem dX6_restore_31 : decode cX6_restore 31 = .ok (.aload_n 2, 1) := by decide +kernel
theorem dX6_restore_32 : decode cX6_restore 32 = .ok (.ifnonnull 14, 3) := by decide +kernel
theorem dX6_restore_35 : decode cX6_restore 35 = .ok (.new 48, 3) := by decide +kernel
theorem dX6_restore_38 : decode cX6_restore 38 = .ok (.dup, 1) := by decide +kernel
theorem dX6_restore_39 : decode cX6_restore 39 = .ok (.ldc_w 282, 3) := by decide +kernel
theorem dX6_restore_42 : decode cX6_restore 42 = .ok (.invokespecial 52, 3) := by decide +kernel
theorem dX6_restore_45 : decode cX6_restore 45 = .ok (.athrow, 1) := by decide +kernel
theorem dX6_restore_46 : decode cX6_restore 46 = .ok (.aload_n 0, 1) := by decide +kernel
theorem dX6_restore_47 : decode cX6_restore 47 = .ok (.getfield 26, 3) := by decide +kernel
theorem dX6_restore_50 : decode cX6_restore 50 = .ok (.aload_n 2, 1) := by decide +kernel
theorem dX6_restore_51 : decode cX6_restore 51 = .ok (.invokevirtual 83, 3) := by decide +kernel
theorem dX6_restore_54 : decode cX6_restore 54 = .ok (.return_, 1) := by decide +kernel
theorem dX6_isStation_0 : decode cX6_isStation 0 = .ok (.iload_n 1, 1) := by decide +kernel
theorem dX6_isStation_1 : decode cX6_isStation 1 = .ok (.ifCond .lt 18, 3) := by decide +kernel
theorem dX6_isStation_4 : decode cX6_isStation 4 = .ok (.iload_n 1, 1) := by decide +kernel
theorem dX6_isStation_5 : decode cX6_isStation 5 = .ok (.aload_n 0, 1) := by decide +kernel
theorem dX6_isStation_6 : decode cX6_isStation 6 = .ok (.getfield 26, 3) := by decide +kernel
theorem dX6_isStation_9 : decode cX6_isStation 9 = .ok (.invokevirtual 96, 3) := by decide +kernel
theorem dX6_isStation_12 : decode cX6_isStation 12 = .ok (.if_icmp .ge 7, 3) := by decide +kernel
theorem dX6_isStation_15 : decode cX6_isStation 15 = .ok (.iconst 1, 1) := by decide +kernel
theorem dX6_isStation_16 : decode cX6_isStation 16 = .ok (.goto 4, 3) := by decide +kernel
theorem dX6_isStation_19 : decode cX6_isStation 19 = .ok (.iconst 0, 1) := by decide +kernel
theorem dX6_isStation_20 : decode cX6_isStation 20 = .ok (.ireturn, 1) := by decide +kernel
theorem dX6_isLink_0 : decode cX6_isLink 0 = .ok (.iload_n 1, 1) := by decide +kernel
theorem dX6_isLink_1 : decode cX6_isLink 1 = .ok (.ifCond .lt 18, 3) := by decide +kernel
theorem dX6_isLink_4 : decode cX6_isLink 4 = .ok (.iload_n 1, 1) := by decide +kernel
theorem dX6_isLink_5 : decode cX6_isLink 5 = .ok (.aload_n 0, 1) := by decide +kernel
theorem dX6_isLink_6 : decode cX6_isLink 6 = .ok (.getfield 26, 3) := by decide +kernel
theorem dX6_isLink_9 : decode cX6_isLink 9 = .ok (.invokevirtual 122, 3) := by decide +kernel
theorem dX6_isLink_12 : decode cX6_isLink 12 = .ok (.if_icmp .ge 7, 3) := by decide +kernel
theorem dX6_isLink_15 : decode cX6_isLink 15 = .ok (.iconst 1, 1) := by decide +kernel
theorem dX6_isLink_16 : decode cX6_isLink 16 = .ok (.goto 4, 3) := by decide +kernel
theorem dX6_isLink_19 : decode cX6_isLink 19 = .ok (.iconst 0, 1) := by decide +kernel
theorem dX6_isLink_20 : decode cX6_isLink 20 = .ok (.ireturn, 1) := by decide +kernel
theorem dX6_isMessage_0 : decode cX6_isMessage 0 = .ok (.iload_n 1, 1) := by decide +kernel
theorem dX6_isMessage_1 : decode cX6_isMessage 1 = .ok (.ifCond .lt 18, 3) := by decide +kernel
theorem dX6_isMessage_4 : decode cX6_isMessage 4 = .ok (.iload_n 1, 1) := by decide +kernel
theorem dX6_isMessage_5 : decode cX6_isMessage 5 = .ok (.aload_n 0, 1) := by decide +kernel
theorem dX6_isMessage_6 : decode cX6_isMessage 6 = .ok (.getfield 26, 3) := by decide +kernel
theorem dX6_isMessage_9 : decode cX6_isMessage 9 = .ok (.invokevirtual 183, 3) := by decide +kernel
theorem dX6_isMessage_12 : decode cX6_isMessage 12 = .ok (.if_icmp .ge 7, 3) := by decide +kernel
theorem dX6_isMessage_15 : decode cX6_isMessage 15 = .ok (.iconst 1, 1) := by decide +kernel
theorem dX6_isMessage_16 : decode cX6_isMessage 16 = .ok (.goto 4, 3) := by decide +kernel
theorem dX6_isMessage_19 : decode cX6_isMessage 19 = .ok (.iconst 0, 1) := by decide +kernel
theorem dX6_isMessage_20 : decode cX6_isMessage 20 = .ok (.ireturn, 1) := by decide +kernel
theorem dX6_isEvent_0 : decode cX6_isEvent 0 = .ok (.iload_n 1, 1) := by decide +kernel
theorem dX6_isEvent_1 : decode cX6_isEvent 1 = .ok (.ifCond .lt 18, 3) := by decide +kernel
theorem dX6_isEvent_4 : decode cX6_isEvent 4 = .ok (.iload_n 1, 1) := by decide +kernel
theorem dX6_isEvent_5 : decode cX6_isEvent 5 = .ok (.aload_n 0, 1) := by decide +kernel
theorem dX6_isEvent_6 : decode cX6_isEvent 6 = .ok (.getfield 26, 3) := by decide +kernel
theorem dX6_isEvent_9 : decode cX6_isEvent 9 = .ok (.invokevirtual 284, 3) := by decide +kernel
theorem dX6_isEvent_12 : decode cX6_isEvent 12 = .ok (.if_icmp .ge 7, 3) := by decide +kernel
theorem dX6_isEvent_15 : decode cX6_isEvent 15 = .ok (.iconst 1, 1) := by decide +kernel
theorem dX6_isEvent_16 : decode cX6_isEvent 16 = .ok (.goto 4, 3) := by decide +kernel
theorem dX6_isEvent_19 : decode cX6_isEvent 19 = .ok (.iconst 0, 1) := by decide +kernel
theorem dX6_isEvent_20 : decode cX6_isEvent 20 = .ok (.ireturn, 1) := by decide +kernel
theorem dX6_isHour_0 : decode cX6_isHour 0 = .ok (.iload_n 0, 1) := by decide +kernel
theorem dX6_isHour_1 : decode cX6_isHour 1 = .ok (.ifCond .lt 13, 3) := by decide +kernel
theorem dX6_isHour_4 : decode cX6_isHour 4 = .ok (.iload_n 0, 1) := by decide +kernel
theorem dX6_isHour_5 : decode cX6_isHour 5 = .ok (.bipush 24, 2) := by decide +kernel
theorem dX6_isHour_7 : decode cX6_isHour 7 = .ok (.if_icmp .ge 7, 3) := by decide +kernel
theorem dX6_isHour_10 : decode cX6_isHour 10 = .ok (.iconst 1, 1) := by decide +kernel
theorem dX6_isHour_11 : decode cX6_isHour 11 = .ok (.goto 4, 3) := by decide +kernel
theorem dX6_isHour_14 : decode cX6_isHour 14 = .ok (.iconst 0, 1) := by decide +kernel
theorem dX6_isHour_15 : decode cX6_isHour 15 = .ok (.ireturn, 1) := by decide +kernel
theorem dX6_isRate_0 : decode cX6_isRate 0 = .ok (.iload_n 0, 1) := by decide +kernel
theorem dX6_isRate_1 : decode cX6_isRate 1 = .ok (.iconst 1, 1) := by decide +kernel
theorem dX6_isRate_2 : decode cX6_isRate 2 = .ok (.if_icmp .lt 13, 3) := by decide +kernel
theorem dX6_isRate_5 : decode cX6_isRate 5 = .ok (.iload_n 0, 1) := by decide +kernel
theorem dX6_isRate_6 : decode cX6_isRate 6 = .ok (.bipush 9, 2) := by decide +kernel
theorem dX6_isRate_8 : decode cX6_isRate 8 = .ok (.if_icmp .gt 7, 3) := by decide +kernel
theorem dX6_isRate_11 : decode cX6_isRate 11 = .ok (.iconst 1, 1) := by decide +kernel
theorem dX6_isRate_12 : decode cX6_isRate 12 = .ok (.goto 4, 3) := by decide +kernel
theorem dX6_isRate_15 : decode cX6_isRate 15 = .ok (.iconst 0, 1) := by decide +kernel
theorem dX6_isRate_16 : decode cX6_isRate 16 = .ok (.ireturn, 1) := by decide +kernel
theorem dX6_isQuality_0 : decode cX6_isQuality 0 = .ok (.iload_n 0, 1) := by decide +kernel
theorem dX6_isQuality_1 : decode cX6_isQuality 1 = .ok (.ifCond .lt 13, 3) := by decide +kernel
theorem dX6_isQuality_4 : decode cX6_isQuality 4 = .ok (.iload_n 0, 1) := by decide +kernel
theorem dX6_isQuality_5 : decode cX6_isQuality 5 = .ok (.bipush 100, 2) := by decide +kernel
theorem dX6_isQuality_7 : decode cX6_isQuality 7 = .ok (.if_icmp .gt 7, 3) := by decide +kernel
theorem dX6_isQuality_10 : decode cX6_isQuality 10 = .ok (.iconst 1, 1) := by decide +kernel
theorem dX6_isQuality_11 : decode cX6_isQuality 11 = .ok (.goto 4, 3) := by decide +kernel
theorem dX6_isQuality_14 : decode cX6_isQuality 14 = .ok (.iconst 0, 1) := by decide +kernel
theorem dX6_isQuality_15 : decode cX6_isQuality 15 = .ok (.ireturn, 1) := by decide +kernel
theorem dX6_isPriority_0 : decode cX6_isPriority 0 = .ok (.iload_n 0, 1) := by decide +kernel
theorem dX6_isPriority_1 : decode cX6_isPriority 1 = .ok (.ifCond .lt 12, 3) := by decide +kernel
theorem dX6_isPriority_4 : decode cX6_isPriority 4 = .ok (.iload_n 0, 1) := by decide +kernel
theorem dX6_isPriority_5 : decode cX6_isPriority 5 = .ok (.iconst 3, 1) := by decide +kernel
theorem dX6_isPriority_6 : decode cX6_isPriority 6 = .ok (.if_icmp .gt 7, 3) := by decide +kernel
theorem dX6_isPriority_9 : decode cX6_isPriority 9 = .ok (.iconst 1, 1) := by decide +kernel
theorem dX6_isPriority_10 : decode cX6_isPriority 10 = .ok (.goto 4, 3) := by decide +kernel
theorem dX6_isPriority_13 : decode cX6_isPriority 13 = .ok (.iconst 0, 1) := by decide +kernel
theorem dX6_isPriority_14 : decode cX6_isPriority 14 = .ok (.ireturn, 1) := by decide +kernel
theorem dX6_isHours_0 : decode cX6_isHours 0 = .ok (.iload_n 0, 1) := by decide +kernel
theorem dX6_isHours_1 : decode cX6_isHours 1 = .ok (.iconst 1, 1) := by decide +kernel
theorem dX6_isHours_2 : decode cX6_isHours 2 = .ok (.if_icmp .lt 13, 3) := by decide +kernel
theorem dX6_isHours_5 : decode cX6_isHours 5 = .ok (.iload_n 0, 1) := by decide +kernel
theorem dX6_isHours_6 : decode cX6_isHours 6 = .ok (.bipush 72, 2) := by decide +kernel
theorem dX6_isHours_8 : decode cX6_isHours 8 = .ok (.if_icmp .gt 7, 3) := by decide +kernel
theorem dX6_isHours_11 : decode cX6_isHours 11 = .ok (.iconst 1, 1) := by decide +kernel
theorem dX6_isHours_12 : decode cX6_isHours 12 = .ok (.goto 4, 3) := by decide +kernel
theorem dX6_isHours_15 : decode cX6_isHours 15 = .ok (.iconst 0, 1) := by decide +kernel
theorem dX6_isHours_16 : decode cX6_isHours 16 = .ok (.ireturn, 1) := by decide +kernel

theorem dX0_init_0 : decode cX0_init 0 = .ok (.aload_n 0, 1) := by decide +kernel
theorem dX0_init_1 : decode cX0_init 1 = .ok (.invokespecial 3, 3) := by decide +kernel
theorem dX0_init_4 : decode cX0_init 4 = .ok (.aload_n 0, 1) := by decide +kernel
theorem dX0_init_5 : decode cX0_init 5 = .ok (.new 9, 3) := by decide +kernel
theorem dX0_init_8 : decode cX0_init 8 = .ok (.dup, 1) := by decide +kernel
theorem dX0_init_9 : decode cX0_init 9 = .ok (.bipush 40, 2) := by decide +kernel
theorem dX0_init_11 : decode cX0_init 11 = .ok (.iconst 5, 1) := by decide +kernel
theorem dX0_init_12 : decode cX0_init 12 = .ok (.invokespecial 11, 3) := by decide +kernel
theorem dX0_init_15 : decode cX0_init 15 = .ok (.putfield 14, 3) := by decide +kernel
theorem dX0_init_18 : decode cX0_init 18 = .ok (.aload_n 0, 1) := by decide +kernel
theorem dX0_init_19 : decode cX0_init 19 = .ok (.iconst 0, 1) := by decide +kernel
theorem dX0_init_20 : decode cX0_init 20 = .ok (.putfield 20, 3) := by decide +kernel
theorem dX0_init_23 : decode cX0_init 23 = .ok (.aload_n 0, 1) := by decide +kernel
theorem dX0_init_24 : decode cX0_init 24 = .ok (.iconst 0, 1) := by decide +kernel
theorem dX0_init_25 : decode cX0_init 25 = .ok (.putfield 24, 3) := by decide +kernel
theorem dX0_init_28 : decode cX0_init 28 = .ok (.return_, 1) := by decide +kernel
theorem dX0_takeFrom_0 : decode cX0_takeFrom 0 = .ok (.aload_n 0, 1) := by decide +kernel
theorem dX0_takeFrom_1 : decode cX0_takeFrom 1 = .ok (.getfield 14, 3) := by decide +kernel
theorem dX0_takeFrom_4 : decode cX0_takeFrom 4 = .ok (.aload_n 1, 1) := by decide +kernel
theorem dX0_takeFrom_5 : decode cX0_takeFrom 5 = .ok (.getfield 14, 3) := by decide +kernel
theorem dX0_takeFrom_8 : decode cX0_takeFrom 8 = .ok (.invokevirtual 30, 3) := by decide +kernel
theorem dX0_takeFrom_11 : decode cX0_takeFrom 11 = .ok (.aload_n 0, 1) := by decide +kernel
theorem dX0_takeFrom_12 : decode cX0_takeFrom 12 = .ok (.aload_n 1, 1) := by decide +kernel
theorem dX0_takeFrom_13 : decode cX0_takeFrom 13 = .ok (.getfield 20, 3) := by decide +kernel
theorem dX0_takeFrom_16 : decode cX0_takeFrom 16 = .ok (.putfield 20, 3) := by decide +kernel
theorem dX0_takeFrom_19 : decode cX0_takeFrom 19 = .ok (.aload_n 0, 1) := by decide +kernel
theorem dX0_takeFrom_20 : decode cX0_takeFrom 20 = .ok (.aload_n 1, 1) := by decide +kernel
theorem dX0_takeFrom_21 : decode cX0_takeFrom 21 = .ok (.getfield 24, 3) := by decide +kernel
theorem dX0_takeFrom_24 : decode cX0_takeFrom 24 = .ok (.putfield 24, 3) := by decide +kernel
theorem dX0_takeFrom_27 : decode cX0_takeFrom 27 = .ok (.return_, 1) := by decide +kernel
theorem dX0_size_0 : decode cX0_size 0 = .ok (.aload_n 0, 1) := by decide +kernel
theorem dX0_size_1 : decode cX0_size 1 = .ok (.getfield 24, 3) := by decide +kernel
theorem dX0_size_4 : decode cX0_size 4 = .ok (.ireturn, 1) := by decide +kernel
theorem dX0_number_0 : decode cX0_number 0 = .ok (.aload_n 0, 1) := by decide +kernel
theorem dX0_number_1 : decode cX0_number 1 = .ok (.getfield 14, 3) := by decide +kernel
theorem dX0_number_4 : decode cX0_number 4 = .ok (.aload_n 0, 1) := by decide +kernel
theorem dX0_number_5 : decode cX0_number 5 = .ok (.getfield 20, 3) := by decide +kernel
theorem dX0_number_8 : decode cX0_number 8 = .ok (.iload_n 1, 1) := by decide +kernel
theorem dX0_number_9 : decode cX0_number 9 = .ok (.iadd, 1) := by decide +kernel
theorem dX0_number_10 : decode cX0_number 10 = .ok (.bipush 40, 2) := by decide +kernel
theorem dX0_number_12 : decode cX0_number 12 = .ok (.irem, 1) := by decide +kernel
theorem dX0_number_13 : decode cX0_number 13 = .ok (.iload_n 2, 1) := by decide +kernel
theorem dX0_number_14 : decode cX0_number 14 = .ok (.invokevirtual 34, 3) := by decide +kernel
theorem dX0_number_17 : decode cX0_number 17 = .ok (.ireturn, 1) := by decide +kernel
theorem dX0_add_0 : decode cX0_add 0 = .ok (.aload_n 0, 1) := by decide +kernel
theorem dX0_add_1 : decode cX0_add 1 = .ok (.getfield 20, 3) := by decide +kernel
theorem dX0_add_4 : decode cX0_add 4 = .ok (.aload_n 0, 1) := by decide +kernel
theorem dX0_add_5 : decode cX0_add 5 = .ok (.getfield 24, 3) := by decide +kernel
theorem dX0_add_8 : decode cX0_add 8 = .ok (.iadd, 1) := by decide +kernel
theorem dX0_add_9 : decode cX0_add 9 = .ok (.bipush 40, 2) := by decide +kernel
theorem dX0_add_11 : decode cX0_add 11 = .ok (.irem, 1) := by decide +kernel
theorem dX0_add_12 : decode cX0_add 12 = .ok (.istore 6, 2) := by decide +kernel
theorem dX0_add_14 : decode cX0_add 14 = .ok (.aload_n 0, 1) := by decide +kernel
theorem dX0_add_15 : decode cX0_add 15 = .ok (.getfield 24, 3) := by decide +kernel
theorem dX0_add_18 : decode cX0_add 18 = .ok (.bipush 40, 2) := by decide +kernel
theorem dX0_add_20 : decode cX0_add 20 = .ok (.if_icmp .ge 16, 3) := by decide +kernel
theorem dX0_add_23 : decode cX0_add 23 = .ok (.aload_n 0, 1) := by decide +kernel
theorem dX0_add_24 : decode cX0_add 24 = .ok (.dup, 1) := by decide +kernel
theorem dX0_add_25 : decode cX0_add 25 = .ok (.getfield 24, 3) := by decide +kernel
theorem dX0_add_28 : decode cX0_add 28 = .ok (.iconst 1, 1) := by decide +kernel
theorem dX0_add_29 : decode cX0_add 29 = .ok (.iadd, 1) := by decide +kernel
theorem dX0_add_30 : decode cX0_add 30 = .ok (.putfield 24, 3) := by decide +kernel
theorem dX0_add_33 : decode cX0_add 33 = .ok (.goto 16, 3) := by decide +kernel
theorem dX0_add_36 : decode cX0_add 36 = .ok (.aload_n 0, 1) := by decide +kernel
theorem dX0_add_37 : decode cX0_add 37 = .ok (.aload_n 0, 1) := by decide +kernel
theorem dX0_add_38 : decode cX0_add 38 = .ok (.getfield 20, 3) := by decide +kernel
theorem dX0_add_41 : decode cX0_add 41 = .ok (.iconst 1, 1) := by decide +kernel
theorem dX0_add_42 : decode cX0_add 42 = .ok (.iadd, 1) := by decide +kernel
theorem dX0_add_43 : decode cX0_add 43 = .ok (.bipush 40, 2) := by decide +kernel
theorem dX0_add_45 : decode cX0_add 45 = .ok (.irem, 1) := by decide +kernel
theorem dX0_add_46 : decode cX0_add 46 = .ok (.putfield 20, 3) := by decide +kernel
theorem dX0_add_49 : decode cX0_add 49 = .ok (.aload_n 0, 1) := by decide +kernel
theorem dX0_add_50 : decode cX0_add 50 = .ok (.getfield 14, 3) := by decide +kernel
theorem dX0_add_53 : decode cX0_add 53 = .ok (.iload 6, 2) := by decide +kernel
theorem dX0_add_55 : decode cX0_add 55 = .ok (.iconst 0, 1) := by decide +kernel
theorem dX0_add_56 : decode cX0_add 56 = .ok (.iload_n 1, 1) := by decide +kernel
theorem dX0_add_57 : decode cX0_add 57 = .ok (.invokevirtual 38, 3) := by decide +kernel
theorem dX0_add_60 : decode cX0_add 60 = .ok (.aload_n 0, 1) := by decide +kernel
theorem dX0_add_61 : decode cX0_add 61 = .ok (.getfield 14, 3) := by decide +kernel
theorem dX0_add_64 : decode cX0_add 64 = .ok (.iload 6, 2) := by decide +kernel
theorem dX0_add_66 : decode cX0_add 66 = .ok (.iconst 1, 1) := by decide +kernel
theorem dX0_add_67 : decode cX0_add 67 = .ok (.iload_n 2, 1) := by decide +kernel
theorem dX0_add_68 : decode cX0_add 68 = .ok (.invokevirtual 38, 3) := by decide +kernel
theorem dX0_add_71 : decode cX0_add 71 = .ok (.aload_n 0, 1) := by decide +kernel
theorem dX0_add_72 : decode cX0_add 72 = .ok (.getfield 14, 3) := by decide +kernel
theorem dX0_add_75 : decode cX0_add 75 = .ok (.iload 6, 2) := by decide +kernel
theorem dX0_add_77 : decode cX0_add 77 = .ok (.iconst 2, 1) := by decide +kernel
theorem dX0_add_78 : decode cX0_add 78 = .ok (.iload_n 3, 1) := by decide +kernel
theorem dX0_add_79 : decode cX0_add 79 = .ok (.invokevirtual 38, 3) := by decide +kernel
theorem dX0_add_82 : decode cX0_add 82 = .ok (.aload_n 0, 1) := by decide +kernel
theorem dX0_add_83 : decode cX0_add 83 = .ok (.getfield 14, 3) := by decide +kernel
theorem dX0_add_86 : decode cX0_add 86 = .ok (.iload 6, 2) := by decide +kernel
theorem dX0_add_88 : decode cX0_add 88 = .ok (.iconst 3, 1) := by decide +kernel
theorem dX0_add_89 : decode cX0_add 89 = .ok (.iload 4, 2) := by decide +kernel
theorem dX0_add_91 : decode cX0_add 91 = .ok (.invokevirtual 38, 3) := by decide +kernel
theorem dX0_add_94 : decode cX0_add 94 = .ok (.aload_n 0, 1) := by decide +kernel
theorem dX0_add_95 : decode cX0_add 95 = .ok (.getfield 14, 3) := by decide +kernel
theorem dX0_add_98 : decode cX0_add 98 = .ok (.iload 6, 2) := by decide +kernel
theorem dX0_add_100 : decode cX0_add 100 = .ok (.iconst 4, 1) := by decide +kernel
theorem dX0_add_101 : decode cX0_add 101 = .ok (.iload 5, 2) := by decide +kernel
theorem dX0_add_103 : decode cX0_add 103 = .ok (.invokevirtual 38, 3) := by decide +kernel
theorem dX0_add_106 : decode cX0_add 106 = .ok (.return_, 1) := by decide +kernel
theorem dX1_init_0 : decode cX1_init 0 = .ok (.aload_n 0, 1) := by decide +kernel
theorem dX1_init_1 : decode cX1_init 1 = .ok (.invokespecial 3, 3) := by decide +kernel
theorem dX1_init_4 : decode cX1_init 4 = .ok (.aload_n 0, 1) := by decide +kernel
theorem dX1_init_5 : decode cX1_init 5 = .ok (.bipush 64, 2) := by decide +kernel
theorem dX1_init_7 : decode cX1_init 7 = .ok (.newarray .byte, 2) := by decide +kernel
theorem dX1_init_9 : decode cX1_init 9 = .ok (.putfield 9, 3) := by decide +kernel
theorem dX1_init_12 : decode cX1_init 12 = .ok (.aload_n 0, 1) := by decide +kernel
theorem dX1_init_13 : decode cX1_init 13 = .ok (.iconst 0, 1) := by decide +kernel
theorem dX1_init_14 : decode cX1_init 14 = .ok (.putfield 15, 3) := by decide +kernel
theorem dX1_init_17 : decode cX1_init 17 = .ok (.return_, 1) := by decide +kernel
theorem dX2_init_0 : decode cX2_init 0 = .ok (.aload_n 0, 1) := by decide +kernel
theorem dX2_init_1 : decode cX2_init 1 = .ok (.invokespecial 3, 3) := by decide +kernel
theorem dX2_init_4 : decode cX2_init 4 = .ok (.aload_n 0, 1) := by decide +kernel
theorem dX2_init_5 : decode cX2_init 5 = .ok (.new 9, 3) := by decide +kernel
theorem dX2_init_8 : decode cX2_init 8 = .ok (.dup, 1) := by decide +kernel
theorem dX2_init_9 : decode cX2_init 9 = .ok (.bipush 8, 2) := by decide +kernel
theorem dX2_init_11 : decode cX2_init 11 = .ok (.bipush 10, 2) := by decide +kernel
theorem dX2_init_13 : decode cX2_init 13 = .ok (.invokespecial 11, 3) := by decide +kernel
theorem dX2_init_16 : decode cX2_init 16 = .ok (.putfield 14, 3) := by decide +kernel
theorem dX2_init_19 : decode cX2_init 19 = .ok (.aload_n 0, 1) := by decide +kernel
theorem dX2_init_20 : decode cX2_init 20 = .ok (.new 9, 3) := by decide +kernel
theorem dX2_init_23 : decode cX2_init 23 = .ok (.dup, 1) := by decide +kernel
theorem dX2_init_24 : decode cX2_init 24 = .ok (.bipush 16, 2) := by decide +kernel
theorem dX2_init_26 : decode cX2_init 26 = .ok (.bipush 9, 2) := by decide +kernel
theorem dX2_init_28 : decode cX2_init 28 = .ok (.invokespecial 11, 3) := by decide +kernel
theorem dX2_init_31 : decode cX2_init 31 = .ok (.putfield 20, 3) := by decide +kernel
theorem dX2_init_34 : decode cX2_init 34 = .ok (.aload_n 0, 1) := by decide +kernel
theorem dX2_init_35 : decode cX2_init 35 = .ok (.new 9, 3) := by decide +kernel
theorem dX2_init_38 : decode cX2_init 38 = .ok (.dup, 1) := by decide +kernel
theorem dX2_init_39 : decode cX2_init 39 = .ok (.bipush 24, 2) := by decide +kernel
theorem dX2_init_41 : decode cX2_init 41 = .ok (.bipush 12, 2) := by decide +kernel
theorem dX2_init_43 : decode cX2_init 43 = .ok (.invokespecial 11, 3) := by decide +kernel
theorem dX2_init_46 : decode cX2_init 46 = .ok (.putfield 23, 3) := by decide +kernel
theorem dX2_init_49 : decode cX2_init 49 = .ok (.aload_n 0, 1) := by decide +kernel
theorem dX2_init_50 : decode cX2_init 50 = .ok (.new 9, 3) := by decide +kernel
theorem dX2_init_53 : decode cX2_init 53 = .ok (.dup, 1) := by decide +kernel
theorem dX2_init_54 : decode cX2_init 54 = .ok (.sipush 192, 3) := by decide +kernel
theorem dX2_init_57 : decode cX2_init 57 = .ok (.iconst 5, 1) := by decide +kernel
theorem dX2_init_58 : decode cX2_init 58 = .ok (.invokespecial 11, 3) := by decide +kernel
theorem dX2_init_61 : decode cX2_init 61 = .ok (.putfield 26, 3) := by decide +kernel
theorem dX2_init_64 : decode cX2_init 64 = .ok (.aload_n 0, 1) := by decide +kernel
theorem dX2_init_65 : decode cX2_init 65 = .ok (.new 29, 3) := by decide +kernel
theorem dX2_init_68 : decode cX2_init 68 = .ok (.dup, 1) := by decide +kernel
theorem dX2_init_69 : decode cX2_init 69 = .ok (.invokespecial 31, 3) := by decide +kernel
theorem dX2_init_72 : decode cX2_init 72 = .ok (.putfield 32, 3) := by decide +kernel
theorem dX2_init_75 : decode cX2_init 75 = .ok (.aload_n 0, 1) := by decide +kernel
theorem dX2_init_76 : decode cX2_init 76 = .ok (.new 36, 3) := by decide +kernel
theorem dX2_init_79 : decode cX2_init 79 = .ok (.dup, 1) := by decide +kernel
theorem dX2_init_80 : decode cX2_init 80 = .ok (.invokespecial 38, 3) := by decide +kernel
theorem dX2_init_83 : decode cX2_init 83 = .ok (.putfield 39, 3) := by decide +kernel
theorem dX2_init_86 : decode cX2_init 86 = .ok (.aload_n 0, 1) := by decide +kernel
theorem dX2_init_87 : decode cX2_init 87 = .ok (.new 9, 3) := by decide +kernel
theorem dX2_init_90 : decode cX2_init 90 = .ok (.dup, 1) := by decide +kernel
theorem dX2_init_91 : decode cX2_init 91 = .ok (.bipush 9, 2) := by decide +kernel
theorem dX2_init_93 : decode cX2_init 93 = .ok (.iconst 2, 1) := by decide +kernel
theorem dX2_init_94 : decode cX2_init 94 = .ok (.invokespecial 11, 3) := by decide +kernel
theorem dX2_init_97 : decode cX2_init 97 = .ok (.putfield 43, 3) := by decide +kernel
theorem dX2_init_100 : decode cX2_init 100 = .ok (.aload_n 0, 1) := by decide +kernel
theorem dX2_init_101 : decode cX2_init 101 = .ok (.iconst 0, 1) := by decide +kernel
theorem dX2_init_102 : decode cX2_init 102 = .ok (.putfield 46, 3) := by decide +kernel
theorem dX2_init_105 : decode cX2_init 105 = .ok (.aload_n 0, 1) := by decide +kernel
theorem dX2_init_106 : decode cX2_init 106 = .ok (.iconst 0, 1) := by decide +kernel
theorem dX2_init_107 : decode cX2_init 107 = .ok (.putfield 50, 3) := by decide +kernel
theorem dX2_init_110 : decode cX2_init 110 = .ok (.aload_n 0, 1) := by decide +kernel
theorem dX2_init_111 : decode cX2_init 111 = .ok (.iconst 0, 1) := by decide +kernel
theorem dX2_init_112 : decode cX2_init 112 = .ok (.putfield 53, 3) := by decide +kernel
theorem dX2_init_115 : decode cX2_init 115 = .ok (.aload_n 0, 1) := by decide +kernel
theorem dX2_init_116 : decode cX2_init 116 = .ok (.iconst 0, 1) := by decide +kernel
theorem dX2_init_117 : decode cX2_init 117 = .ok (.putfield 56, 3) := by decide +kernel
theorem dX2_init_120 : decode cX2_init 120 = .ok (.aload_n 0, 1) := by decide +kernel
theorem dX2_init_121 : decode cX2_init 121 = .ok (.bipush 48, 2) := by decide +kernel
theorem dX2_init_123 : decode cX2_init 123 = .ok (.putfield 59, 3) := by decide +kernel
theorem dX2_init_126 : decode cX2_init 126 = .ok (.aload_n 0, 1) := by decide +kernel
theorem dX2_init_127 : decode cX2_init 127 = .ok (.iconst 3, 1) := by decide +kernel
theorem dX2_init_128 : decode cX2_init 128 = .ok (.putfield 62, 3) := by decide +kernel
theorem dX2_init_131 : decode cX2_init 131 = .ok (.aload_n 0, 1) := by decide +kernel
theorem dX2_init_132 : decode cX2_init 132 = .ok (.iconst 1, 1) := by decide +kernel
theorem dX2_init_133 : decode cX2_init 133 = .ok (.putfield 65, 3) := by decide +kernel
theorem dX2_init_136 : decode cX2_init 136 = .ok (.return_, 1) := by decide +kernel
theorem dX2_takeFrom_0 : decode cX2_takeFrom 0 = .ok (.aload_n 0, 1) := by decide +kernel
theorem dX2_takeFrom_1 : decode cX2_takeFrom 1 = .ok (.getfield 14, 3) := by decide +kernel
theorem dX2_takeFrom_4 : decode cX2_takeFrom 4 = .ok (.aload_n 1, 1) := by decide +kernel
theorem dX2_takeFrom_5 : decode cX2_takeFrom 5 = .ok (.getfield 14, 3) := by decide +kernel
theorem dX2_takeFrom_8 : decode cX2_takeFrom 8 = .ok (.invokevirtual 73, 3) := by decide +kernel
theorem dX2_takeFrom_11 : decode cX2_takeFrom 11 = .ok (.aload_n 0, 1) := by decide +kernel
theorem dX2_takeFrom_12 : decode cX2_takeFrom 12 = .ok (.getfield 20, 3) := by decide +kernel
theorem dX2_takeFrom_15 : decode cX2_takeFrom 15 = .ok (.aload_n 1, 1) := by decide +kernel
theorem dX2_takeFrom_16 : decode cX2_takeFrom 16 = .ok (.getfield 20, 3) := by decide +kernel
theorem dX2_takeFrom_19 : decode cX2_takeFrom 19 = .ok (.invokevirtual 73, 3) := by decide +kernel
theorem dX2_takeFrom_22 : decode cX2_takeFrom 22 = .ok (.aload_n 0, 1) := by decide +kernel
theorem dX2_takeFrom_23 : decode cX2_takeFrom 23 = .ok (.getfield 23, 3) := by decide +kernel
theorem dX2_takeFrom_26 : decode cX2_takeFrom 26 = .ok (.aload_n 1, 1) := by decide +kernel
theorem dX2_takeFrom_27 : decode cX2_takeFrom 27 = .ok (.getfield 23, 3) := by decide +kernel
theorem dX2_takeFrom_30 : decode cX2_takeFrom 30 = .ok (.invokevirtual 73, 3) := by decide +kernel
theorem dX2_takeFrom_33 : decode cX2_takeFrom 33 = .ok (.aload_n 0, 1) := by decide +kernel
theorem dX2_takeFrom_34 : decode cX2_takeFrom 34 = .ok (.getfield 26, 3) := by decide +kernel
theorem dX2_takeFrom_37 : decode cX2_takeFrom 37 = .ok (.aload_n 1, 1) := by decide +kernel
theorem dX2_takeFrom_38 : decode cX2_takeFrom 38 = .ok (.getfield 26, 3) := by decide +kernel
theorem dX2_takeFrom_41 : decode cX2_takeFrom 41 = .ok (.invokevirtual 73, 3) := by decide +kernel
theorem dX2_takeFrom_44 : decode cX2_takeFrom 44 = .ok (.aload_n 0, 1) := by decide +kernel
theorem dX2_takeFrom_45 : decode cX2_takeFrom 45 = .ok (.getfield 32, 3) := by decide +kernel
theorem dX2_takeFrom_48 : decode cX2_takeFrom 48 = .ok (.aload_n 1, 1) := by decide +kernel
theorem dX2_takeFrom_49 : decode cX2_takeFrom 49 = .ok (.getfield 32, 3) := by decide +kernel
theorem dX2_takeFrom_52 : decode cX2_takeFrom 52 = .ok (.invokevirtual 77, 3) := by decide +kernel
theorem dX2_takeFrom_55 : decode cX2_takeFrom 55 = .ok (.aload_n 0, 1) := by decide +kernel
theorem dX2_takeFrom_56 : decode cX2_takeFrom 56 = .ok (.getfield 39, 3) := by decide +kernel
theorem dX2_takeFrom_59 : decode cX2_takeFrom 59 = .ok (.aload_n 1, 1) := by decide +kernel
theorem dX2_takeFrom_60 : decode cX2_takeFrom 60 = .ok (.getfield 39, 3) := by decide +kernel
theorem dX2_takeFrom_63 : decode cX2_takeFrom 63 = .ok (.invokevirtual 80, 3) := by decide +kernel
theorem dX2_takeFrom_66 : decode cX2_takeFrom 66 = .ok (.aload_n 0, 1) := by decide +kernel
theorem dX2_takeFrom_67 : decode cX2_takeFrom 67 = .ok (.aload_n 1, 1) := by decide +kernel
theorem dX2_takeFrom_68 : decode cX2_takeFrom 68 = .ok (.getfield 46, 3) := by decide +kernel
theorem dX2_takeFrom_71 : decode cX2_takeFrom 71 = .ok (.putfield 46, 3) := by decide +kernel
theorem dX2_takeFrom_74 : decode cX2_takeFrom 74 = .ok (.aload_n 0, 1) := by decide +kernel
theorem dX2_takeFrom_75 : decode cX2_takeFrom 75 = .ok (.aload_n 1, 1) := by decide +kernel
theorem dX2_takeFrom_76 : decode cX2_takeFrom 76 = .ok (.getfield 50, 3) := by decide +kernel
theorem dX2_takeFrom_79 : decode cX2_takeFrom 79 = .ok (.putfield 50, 3) := by decide +kernel
theorem dX2_takeFrom_82 : decode cX2_takeFrom 82 = .ok (.aload_n 0, 1) := by decide +kernel
theorem dX2_takeFrom_83 : decode cX2_takeFrom 83 = .ok (.aload_n 1, 1) := by decide +kernel
theorem dX2_takeFrom_84 : decode cX2_takeFrom 84 = .ok (.getfield 53, 3) := by decide +kernel
theorem dX2_takeFrom_87 : decode cX2_takeFrom 87 = .ok (.putfield 53, 3) := by decide +kernel
theorem dX2_takeFrom_90 : decode cX2_takeFrom 90 = .ok (.aload_n 0, 1) := by decide +kernel
theorem dX2_takeFrom_91 : decode cX2_takeFrom 91 = .ok (.aload_n 1, 1) := by decide +kernel
theorem dX2_takeFrom_92 : decode cX2_takeFrom 92 = .ok (.getfield 56, 3) := by decide +kernel
theorem dX2_takeFrom_95 : decode cX2_takeFrom 95 = .ok (.putfield 56, 3) := by decide +kernel
theorem dX2_takeFrom_98 : decode cX2_takeFrom 98 = .ok (.aload_n 0, 1) := by decide +kernel
theorem dX2_takeFrom_99 : decode cX2_takeFrom 99 = .ok (.aload_n 1, 1) := by decide +kernel
theorem dX2_takeFrom_100 : decode cX2_takeFrom 100 = .ok (.getfield 59, 3) := by decide +kernel
theorem dX2_takeFrom_103 : decode cX2_takeFrom 103 = .ok (.putfield 59, 3) := by decide +kernel
theorem dX2_takeFrom_106 : decode cX2_takeFrom 106 = .ok (.aload_n 0, 1) := by decide +kernel
theorem dX2_takeFrom_107 : decode cX2_takeFrom 107 = .ok (.aload_n 1, 1) := by decide +kernel
theorem dX2_takeFrom_108 : decode cX2_takeFrom 108 = .ok (.getfield 62, 3) := by decide +kernel
theorem dX2_takeFrom_111 : decode cX2_takeFrom 111 = .ok (.putfield 62, 3) := by decide +kernel
theorem dX2_takeFrom_114 : decode cX2_takeFrom 114 = .ok (.aload_n 0, 1) := by decide +kernel
theorem dX2_takeFrom_115 : decode cX2_takeFrom 115 = .ok (.aload_n 1, 1) := by decide +kernel
theorem dX2_takeFrom_116 : decode cX2_takeFrom 116 = .ok (.getfield 65, 3) := by decide +kernel
theorem dX2_takeFrom_119 : decode cX2_takeFrom 119 = .ok (.putfield 65, 3) := by decide +kernel
theorem dX2_takeFrom_122 : decode cX2_takeFrom 122 = .ok (.return_, 1) := by decide +kernel
theorem dX2_stationCount_0 : decode cX2_stationCount 0 = .ok (.aload_n 0, 1) := by decide +kernel
theorem dX2_stationCount_1 : decode cX2_stationCount 1 = .ok (.getfield 46, 3) := by decide +kernel
theorem dX2_stationCount_4 : decode cX2_stationCount 4 = .ok (.ireturn, 1) := by decide +kernel
theorem dX2_linkCount_0 : decode cX2_linkCount 0 = .ok (.aload_n 0, 1) := by decide +kernel
theorem dX2_linkCount_1 : decode cX2_linkCount 1 = .ok (.getfield 50, 3) := by decide +kernel
theorem dX2_linkCount_4 : decode cX2_linkCount 4 = .ok (.ireturn, 1) := by decide +kernel
theorem dX2_messageCount_0 : decode cX2_messageCount 0 = .ok (.aload_n 0, 1) := by decide +kernel
theorem dX2_messageCount_1 : decode cX2_messageCount 1 = .ok (.getfield 53, 3) := by decide +kernel
theorem dX2_messageCount_4 : decode cX2_messageCount 4 = .ok (.ireturn, 1) := by decide +kernel
theorem dX2_eventCount_0 : decode cX2_eventCount 0 = .ok (.aload_n 0, 1) := by decide +kernel
theorem dX2_eventCount_1 : decode cX2_eventCount 1 = .ok (.getfield 32, 3) := by decide +kernel
theorem dX2_eventCount_4 : decode cX2_eventCount 4 = .ok (.invokevirtual 83, 3) := by decide +kernel
theorem dX2_eventCount_7 : decode cX2_eventCount 7 = .ok (.ireturn, 1) := by decide +kernel
theorem dX2_eventNumber_0 : decode cX2_eventNumber 0 = .ok (.aload_n 0, 1) := by decide +kernel
theorem dX2_eventNumber_1 : decode cX2_eventNumber 1 = .ok (.getfield 32, 3) := by decide +kernel
theorem dX2_eventNumber_4 : decode cX2_eventNumber 4 = .ok (.iload_n 1, 1) := by decide +kernel
theorem dX2_eventNumber_5 : decode cX2_eventNumber 5 = .ok (.iload_n 2, 1) := by decide +kernel
theorem dX2_eventNumber_6 : decode cX2_eventNumber 6 = .ok (.invokevirtual 87, 3) := by decide +kernel
theorem dX2_eventNumber_9 : decode cX2_eventNumber 9 = .ok (.ireturn, 1) := by decide +kernel
theorem dX2_setLife_0 : decode cX2_setLife 0 = .ok (.aload_n 0, 1) := by decide +kernel
theorem dX2_setLife_1 : decode cX2_setLife 1 = .ok (.iload_n 1, 1) := by decide +kernel
theorem dX2_setLife_2 : decode cX2_setLife 2 = .ok (.putfield 59, 3) := by decide +kernel
theorem dX2_setLife_5 : decode cX2_setLife 5 = .ok (.return_, 1) := by decide +kernel
theorem dX2_setTries_0 : decode cX2_setTries 0 = .ok (.aload_n 0, 1) := by decide +kernel
theorem dX2_setTries_1 : decode cX2_setTries 1 = .ok (.iload_n 1, 1) := by decide +kernel
theorem dX2_setTries_2 : decode cX2_setTries 2 = .ok (.putfield 62, 3) := by decide +kernel
theorem dX2_setTries_5 : decode cX2_setTries 5 = .ok (.return_, 1) := by decide +kernel
theorem dX2_setX_0 : decode cX2_setX 0 = .ok (.aload_n 0, 1) := by decide +kernel
theorem dX2_setX_1 : decode cX2_setX 1 = .ok (.iload_n 1, 1) := by decide +kernel
theorem dX2_setX_2 : decode cX2_setX 2 = .ok (.putfield 65, 3) := by decide +kernel
theorem dX2_setX_5 : decode cX2_setX 5 = .ok (.return_, 1) := by decide +kernel
theorem dX2_newStation_0 : decode cX2_newStation 0 = .ok (.aload_n 0, 1) := by decide +kernel
theorem dX2_newStation_1 : decode cX2_newStation 1 = .ok (.getfield 46, 3) := by decide +kernel
theorem dX2_newStation_4 : decode cX2_newStation 4 = .ok (.istore 4, 2) := by decide +kernel
theorem dX2_newStation_6 : decode cX2_newStation 6 = .ok (.aload_n 0, 1) := by decide +kernel
theorem dX2_newStation_7 : decode cX2_newStation 7 = .ok (.getfield 14, 3) := by decide +kernel
theorem dX2_newStation_10 : decode cX2_newStation 10 = .ok (.iload 4, 2) := by decide +kernel
theorem dX2_newStation_12 : decode cX2_newStation 12 = .ok (.iconst 0, 1) := by decide +kernel
theorem dX2_newStation_13 : decode cX2_newStation 13 = .ok (.iload_n 1, 1) := by decide +kernel
theorem dX2_newStation_14 : decode cX2_newStation 14 = .ok (.invokevirtual 91, 3) := by decide +kernel
theorem dX2_newStation_17 : decode cX2_newStation 17 = .ok (.aload_n 0, 1) := by decide +kernel
theorem dX2_newStation_18 : decode cX2_newStation 18 = .ok (.getfield 14, 3) := by decide +kernel
theorem dX2_newStation_21 : decode cX2_newStation 21 = .ok (.iload 4, 2) := by decide +kernel
theorem dX2_newStation_23 : decode cX2_newStation 23 = .ok (.iconst 1, 1) := by decide +kernel
theorem dX2_newStation_24 : decode cX2_newStation 24 = .ok (.iload_n 2, 1) := by decide +kernel
theorem dX2_newStation_25 : decode cX2_newStation 25 = .ok (.invokevirtual 91, 3) := by decide +kernel
theorem dX2_newStation_28 : decode cX2_newStation 28 = .ok (.aload_n 0, 1) := by decide +kernel
theorem dX2_newStation_29 : decode cX2_newStation 29 = .ok (.getfield 14, 3) := by decide +kernel
theorem dX2_newStation_32 : decode cX2_newStation 32 = .ok (.iload 4, 2) := by decide +kernel
theorem dX2_newStation_34 : decode cX2_newStation 34 = .ok (.iconst 2, 1) := by decide +kernel
theorem dX2_newStation_35 : decode cX2_newStation 35 = .ok (.iload_n 3, 1) := by decide +kernel
theorem dX2_newStation_36 : decode cX2_newStation 36 = .ok (.invokevirtual 91, 3) := by decide +kernel
theorem dX2_newStation_39 : decode cX2_newStation 39 = .ok (.aload_n 0, 1) := by decide +kernel
theorem dX2_newStation_40 : decode cX2_newStation 40 = .ok (.dup, 1) := by decide +kernel
theorem dX2_newStation_41 : decode cX2_newStation 41 = .ok (.getfield 46, 3) := by decide +kernel
theorem dX2_newStation_44 : decode cX2_newStation 44 = .ok (.iconst 1, 1) := by decide +kernel
theorem dX2_newStation_45 : decode cX2_newStation 45 = .ok (.iadd, 1) := by decide +kernel
theorem dX2_newStation_46 : decode cX2_newStation 46 = .ok (.putfield 46, 3) := by decide +kernel
theorem dX2_newStation_49 : decode cX2_newStation 49 = .ok (.iload 4, 2) := by decide +kernel
theorem dX2_newStation_51 : decode cX2_newStation 51 = .ok (.ireturn, 1) := by decide +kernel
theorem dX2_newLink_0 : decode cX2_newLink 0 = .ok (.aload_n 0, 1) := by decide +kernel
theorem dX2_newLink_1 : decode cX2_newLink 1 = .ok (.getfield 50, 3) := by decide +kernel
theorem dX2_newLink_4 : decode cX2_newLink 4 = .ok (.istore 6, 2) := by decide +kernel
theorem dX2_newLink_6 : decode cX2_newLink 6 = .ok (.aload_n 0, 1) := by decide +kernel
theorem dX2_newLink_7 : decode cX2_newLink 7 = .ok (.getfield 20, 3) := by decide +kernel
theorem dX2_newLink_10 : decode cX2_newLink 10 = .ok (.iload 6, 2) := by decide +kernel
theorem dX2_newLink_12 : decode cX2_newLink 12 = .ok (.iconst 0, 1) := by decide +kernel
theorem dX2_newLink_13 : decode cX2_newLink 13 = .ok (.iload_n 1, 1) := by decide +kernel
theorem dX2_newLink_14 : decode cX2_newLink 14 = .ok (.invokevirtual 91, 3) := by decide +kernel
theorem dX2_newLink_17 : decode cX2_newLink 17 = .ok (.aload_n 0, 1) := by decide +kernel
theorem dX2_newLink_18 : decode cX2_newLink 18 = .ok (.getfield 20, 3) := by decide +kernel
theorem dX2_newLink_21 : decode cX2_newLink 21 = .ok (.iload 6, 2) := by decide +kernel
theorem dX2_newLink_23 : decode cX2_newLink 23 = .ok (.iconst 1, 1) := by decide +kernel
theorem dX2_newLink_24 : decode cX2_newLink 24 = .ok (.iload_n 2, 1) := by decide +kernel
theorem dX2_newLink_25 : decode cX2_newLink 25 = .ok (.invokevirtual 91, 3) := by decide +kernel
theorem dX2_newLink_28 : decode cX2_newLink 28 = .ok (.aload_n 0, 1) := by decide +kernel
theorem dX2_newLink_29 : decode cX2_newLink 29 = .ok (.getfield 20, 3) := by decide +kernel
theorem dX2_newLink_32 : decode cX2_newLink 32 = .ok (.iload 6, 2) := by decide +kernel
theorem dX2_newLink_34 : decode cX2_newLink 34 = .ok (.iconst 2, 1) := by decide +kernel
theorem dX2_newLink_35 : decode cX2_newLink 35 = .ok (.iload_n 3, 1) := by decide +kernel
theorem dX2_newLink_36 : decode cX2_newLink 36 = .ok (.invokevirtual 91, 3) := by decide +kernel
theorem dX2_newLink_39 : decode cX2_newLink 39 = .ok (.aload_n 0, 1) := by decide +kernel
theorem dX2_newLink_40 : decode cX2_newLink 40 = .ok (.getfield 20, 3) := by decide +kernel
theorem dX2_newLink_43 : decode cX2_newLink 43 = .ok (.iload 6, 2) := by decide +kernel
theorem dX2_newLink_45 : decode cX2_newLink 45 = .ok (.iconst 3, 1) := by decide +kernel
theorem dX2_newLink_46 : decode cX2_newLink 46 = .ok (.iload 4, 2) := by decide +kernel
theorem dX2_newLink_48 : decode cX2_newLink 48 = .ok (.invokevirtual 91, 3) := by decide +kernel
theorem dX2_newLink_51 : decode cX2_newLink 51 = .ok (.aload_n 0, 1) := by decide +kernel
theorem dX2_newLink_52 : decode cX2_newLink 52 = .ok (.getfield 20, 3) := by decide +kernel
theorem dX2_newLink_55 : decode cX2_newLink 55 = .ok (.iload 6, 2) := by decide +kernel
theorem dX2_newLink_57 : decode cX2_newLink 57 = .ok (.iconst 4, 1) := by decide +kernel
theorem dX2_newLink_58 : decode cX2_newLink 58 = .ok (.iload 5, 2) := by decide +kernel
theorem dX2_newLink_60 : decode cX2_newLink 60 = .ok (.invokevirtual 91, 3) := by decide +kernel
theorem dX2_newLink_63 : decode cX2_newLink 63 = .ok (.aload_n 0, 1) := by decide +kernel
theorem dX2_newLink_64 : decode cX2_newLink 64 = .ok (.dup, 1) := by decide +kernel
theorem dX2_newLink_65 : decode cX2_newLink 65 = .ok (.getfield 50, 3) := by decide +kernel
theorem dX2_newLink_68 : decode cX2_newLink 68 = .ok (.iconst 1, 1) := by decide +kernel
theorem dX2_newLink_69 : decode cX2_newLink 69 = .ok (.iadd, 1) := by decide +kernel
theorem dX2_newLink_70 : decode cX2_newLink 70 = .ok (.putfield 50, 3) := by decide +kernel
theorem dX2_newLink_73 : decode cX2_newLink 73 = .ok (.iload 6, 2) := by decide +kernel
theorem dX2_newLink_75 : decode cX2_newLink 75 = .ok (.ireturn, 1) := by decide +kernel
theorem dX2_newMessage_0 : decode cX2_newMessage 0 = .ok (.aload_n 0, 1) := by decide +kernel
theorem dX2_newMessage_1 : decode cX2_newMessage 1 = .ok (.getfield 53, 3) := by decide +kernel
theorem dX2_newMessage_4 : decode cX2_newMessage 4 = .ok (.istore 4, 2) := by decide +kernel
theorem dX2_newMessage_6 : decode cX2_newMessage 6 = .ok (.aload_n 0, 1) := by decide +kernel
theorem dX2_newMessage_7 : decode cX2_newMessage 7 = .ok (.getfield 23, 3) := by decide +kernel
theorem dX2_newMessage_10 : decode cX2_newMessage 10 = .ok (.iload 4, 2) := by decide +kernel
theorem dX2_newMessage_12 : decode cX2_newMessage 12 = .ok (.iconst 0, 1) := by decide +kernel
theorem dX2_newMessage_13 : decode cX2_newMessage 13 = .ok (.iload_n 1, 1) := by decide +kernel
theorem dX2_newMessage_14 : decode cX2_newMessage 14 = .ok (.invokevirtual 91, 3) := by decide +kernel
theorem dX2_newMessage_17 : decode cX2_newMessage 17 = .ok (.aload_n 0, 1) := by decide +kernel
theorem dX2_newMessage_18 : decode cX2_newMessage 18 = .ok (.getfield 23, 3) := by decide +kernel
theorem dX2_newMessage_21 : decode cX2_newMessage 21 = .ok (.iload 4, 2) := by decide +kernel
theorem dX2_newMessage_23 : decode cX2_newMessage 23 = .ok (.iconst 1, 1) := by decide +kernel
theorem dX2_newMessage_24 : decode cX2_newMessage 24 = .ok (.iload_n 2, 1) := by decide +kernel
theorem dX2_newMessage_25 : decode cX2_newMessage 25 = .ok (.invokevirtual 91, 3) := by decide +kernel
theorem dX2_newMessage_28 : decode cX2_newMessage 28 = .ok (.aload_n 0, 1) := by decide +kernel
theorem dX2_newMessage_29 : decode cX2_newMessage 29 = .ok (.getfield 23, 3) := by decide +kernel
theorem dX2_newMessage_32 : decode cX2_newMessage 32 = .ok (.iload 4, 2) := by decide +kernel
theorem dX2_newMessage_34 : decode cX2_newMessage 34 = .ok (.iconst 2, 1) := by decide +kernel
theorem dX2_newMessage_35 : decode cX2_newMessage 35 = .ok (.iload_n 3, 1) := by decide +kernel
theorem dX2_newMessage_36 : decode cX2_newMessage 36 = .ok (.invokevirtual 91, 3) := by decide +kernel
theorem dX2_newMessage_39 : decode cX2_newMessage 39 = .ok (.aload_n 0, 1) := by decide +kernel
theorem dX2_newMessage_40 : decode cX2_newMessage 40 = .ok (.getfield 23, 3) := by decide +kernel
theorem dX2_newMessage_43 : decode cX2_newMessage 43 = .ok (.iload 4, 2) := by decide +kernel
theorem dX2_newMessage_45 : decode cX2_newMessage 45 = .ok (.iconst 3, 1) := by decide +kernel
theorem dX2_newMessage_46 : decode cX2_newMessage 46 = .ok (.aload_n 0, 1) := by decide +kernel
theorem dX2_newMessage_47 : decode cX2_newMessage 47 = .ok (.getfield 56, 3) := by decide +kernel
theorem dX2_newMessage_50 : decode cX2_newMessage 50 = .ok (.invokevirtual 91, 3) := by decide +kernel
theorem dX2_newMessage_53 : decode cX2_newMessage 53 = .ok (.aload_n 0, 1) := by decide +kernel
theorem dX2_newMessage_54 : decode cX2_newMessage 54 = .ok (.getfield 23, 3) := by decide +kernel
theorem dX2_newMessage_57 : decode cX2_newMessage 57 = .ok (.iload 4, 2) := by decide +kernel
theorem dX2_newMessage_59 : decode cX2_newMessage 59 = .ok (.iconst 5, 1) := by decide +kernel
theorem dX2_newMessage_60 : decode cX2_newMessage 60 = .ok (.iconst (-1), 1) := by decide +kernel
theorem dX2_newMessage_61 : decode cX2_newMessage 61 = .ok (.invokevirtual 91, 3) := by decide +kernel
theorem dX2_newMessage_64 : decode cX2_newMessage 64 = .ok (.aload_n 0, 1) := by decide +kernel
theorem dX2_newMessage_65 : decode cX2_newMessage 65 = .ok (.getfield 23, 3) := by decide +kernel
theorem dX2_newMessage_68 : decode cX2_newMessage 68 = .ok (.iload 4, 2) := by decide +kernel
theorem dX2_newMessage_70 : decode cX2_newMessage 70 = .ok (.bipush 6, 2) := by decide +kernel
theorem dX2_newMessage_72 : decode cX2_newMessage 72 = .ok (.iconst (-1), 1) := by decide +kernel
theorem dX2_newMessage_73 : decode cX2_newMessage 73 = .ok (.invokevirtual 91, 3) := by decide +kernel
theorem dX2_newMessage_76 : decode cX2_newMessage 76 = .ok (.aload_n 0, 1) := by decide +kernel
theorem dX2_newMessage_77 : decode cX2_newMessage 77 = .ok (.iload 4, 2) := by decide +kernel
theorem dX2_newMessage_79 : decode cX2_newMessage 79 = .ok (.iconst (-1), 1) := by decide +kernel
theorem dX2_newMessage_80 : decode cX2_newMessage 80 = .ok (.iconst (-1), 1) := by decide +kernel
theorem dX2_newMessage_81 : decode cX2_newMessage 81 = .ok (.invokevirtual 95, 3) := by decide +kernel
theorem dX2_newMessage_84 : decode cX2_newMessage 84 = .ok (.iload 4, 2) := by decide +kernel
theorem dX2_newMessage_86 : decode cX2_newMessage 86 = .ok (.iload_n 1, 1) := by decide +kernel
theorem dX2_newMessage_87 : decode cX2_newMessage 87 = .ok (.invokestatic 98, 3) := by decide +kernel
theorem dX2_newMessage_90 : decode cX2_newMessage 90 = .ok (.istore 5, 2) := by decide +kernel
theorem dX2_newMessage_92 : decode cX2_newMessage 92 = .ok (.aload_n 0, 1) := by decide +kernel
theorem dX2_newMessage_93 : decode cX2_newMessage 93 = .ok (.getfield 26, 3) := by decide +kernel
theorem dX2_newMessage_96 : decode cX2_newMessage 96 = .ok (.iload 5, 2) := by decide +kernel
theorem dX2_newMessage_98 : decode cX2_newMessage 98 = .ok (.iconst 0, 1) := by decide +kernel
theorem dX2_newMessage_99 : decode cX2_newMessage 99 = .ok (.iconst 1, 1) := by decide +kernel
theorem dX2_newMessage_100 : decode cX2_newMessage 100 = .ok (.invokevirtual 91, 3) := by decide +kernel
theorem dX2_newMessage_103 : decode cX2_newMessage 103 = .ok (.aload_n 0, 1) := by decide +kernel
theorem dX2_newMessage_104 : decode cX2_newMessage 104 = .ok (.getfield 26, 3) := by decide +kernel
theorem dX2_newMessage_107 : decode cX2_newMessage 107 = .ok (.iload 5, 2) := by decide +kernel
theorem dX2_newMessage_109 : decode cX2_newMessage 109 = .ok (.iconst 2, 1) := by decide +kernel
theorem dX2_newMessage_110 : decode cX2_newMessage 110 = .ok (.aload_n 0, 1) := by decide +kernel
theorem dX2_newMessage_111 : decode cX2_newMessage 111 = .ok (.getfield 56, 3) := by decide +kernel
theorem dX2_newMessage_114 : decode cX2_newMessage 114 = .ok (.invokevirtual 91, 3) := by decide +kernel
theorem dX2_newMessage_117 : decode cX2_newMessage 117 = .ok (.aload_n 0, 1) := by decide +kernel
theorem dX2_newMessage_118 : decode cX2_newMessage 118 = .ok (.getfield 26, 3) := by decide +kernel
theorem dX2_newMessage_121 : decode cX2_newMessage 121 = .ok (.iload 5, 2) := by decide +kernel
theorem dX2_newMessage_123 : decode cX2_newMessage 123 = .ok (.iconst 3, 1) := by decide +kernel
theorem dX2_newMessage_124 : decode cX2_newMessage 124 = .ok (.iconst 1, 1) := by decide +kernel
theorem dX2_newMessage_125 : decode cX2_newMessage 125 = .ok (.invokevirtual 91, 3) := by decide +kernel
theorem dX2_newMessage_128 : decode cX2_newMessage 128 = .ok (.aload_n 0, 1) := by decide +kernel
theorem dX2_newMessage_129 : decode cX2_newMessage 129 = .ok (.getfield 26, 3) := by decide +kernel
theorem dX2_newMessage_132 : decode cX2_newMessage 132 = .ok (.iload 5, 2) := by decide +kernel
theorem dX2_newMessage_134 : decode cX2_newMessage 134 = .ok (.iconst 4, 1) := by decide +kernel
theorem dX2_newMessage_135 : decode cX2_newMessage 135 = .ok (.iload_n 1, 1) := by decide +kernel
theorem dX2_newMessage_136 : decode cX2_newMessage 136 = .ok (.invokevirtual 91, 3) := by decide +kernel
theorem dX2_newMessage_139 : decode cX2_newMessage 139 = .ok (.aload_n 0, 1) := by decide +kernel
theorem dX2_newMessage_140 : decode cX2_newMessage 140 = .ok (.dup, 1) := by decide +kernel
theorem dX2_newMessage_141 : decode cX2_newMessage 141 = .ok (.getfield 53, 3) := by decide +kernel
theorem dX2_newMessage_144 : decode cX2_newMessage 144 = .ok (.iconst 1, 1) := by decide +kernel
theorem dX2_newMessage_145 : decode cX2_newMessage 145 = .ok (.iadd, 1) := by decide +kernel
theorem dX2_newMessage_146 : decode cX2_newMessage 146 = .ok (.putfield 53, 3) := by decide +kernel
theorem dX2_newMessage_149 : decode cX2_newMessage 149 = .ok (.aload_n 0, 1) := by decide +kernel
theorem dX2_newMessage_150 : decode cX2_newMessage 150 = .ok (.getfield 32, 3) := by decide +kernel
theorem dX2_newMessage_153 : decode cX2_newMessage 153 = .ok (.aload_n 0, 1) := by decide +kernel
theorem dX2_newMessage_154 : decode cX2_newMessage 154 = .ok (.getfield 56, 3) := by decide +kernel
theorem dX2_newMessage_157 : decode cX2_newMessage 157 = .ok (.iconst 0, 1) := by decide +kernel
theorem dX2_newMessage_158 : decode cX2_newMessage 158 = .ok (.iload 4, 2) := by decide +kernel
theorem dX2_newMessage_160 : decode cX2_newMessage 160 = .ok (.iload_n 1, 1) := by decide +kernel
theorem dX2_newMessage_161 : decode cX2_newMessage 161 = .ok (.iconst (-1), 1) := by decide +kernel
theorem dX2_newMessage_162 : decode cX2_newMessage 162 = .ok (.invokevirtual 101, 3) := by decide +kernel
theorem dX2_newMessage_165 : decode cX2_newMessage 165 = .ok (.iload 4, 2) := by decide +kernel
theorem dX2_newMessage_167 : decode cX2_newMessage 167 = .ok (.ireturn, 1) := by decide +kernel
theorem dX2_linkBetween_0 : decode cX2_linkBetween 0 = .ok (.iconst 0, 1) := by decide +kernel
theorem dX2_linkBetween_1 : decode cX2_linkBetween 1 = .ok (.istore_n 3, 1) := by decide +kernel
theorem dX2_linkBetween_2 : decode cX2_linkBetween 2 = .ok (.iload_n 3, 1) := by decide +kernel
theorem dX2_linkBetween_3 : decode cX2_linkBetween 3 = .ok (.aload_n 0, 1) := by decide +kernel
theorem dX2_linkBetween_4 : decode cX2_linkBetween 4 = .ok (.getfield 50, 3) := by decide +kernel
theorem dX2_linkBetween_7 : decode cX2_linkBetween 7 = .ok (.if_icmp .ge 57, 3) := by decide +kernel
theorem dX2_linkBetween_10 : decode cX2_linkBetween 10 = .ok (.aload_n 0, 1) := by decide +kernel
theorem dX2_linkBetween_11 : decode cX2_linkBetween 11 = .ok (.getfield 20, 3) := by decide +kernel
theorem dX2_linkBetween_14 : decode cX2_linkBetween 14 = .ok (.iload_n 3, 1) := by decide +kernel
theorem dX2_linkBetween_15 : decode cX2_linkBetween 15 = .ok (.iconst 0, 1) := by decide +kernel
theorem dX2_linkBetween_16 : decode cX2_linkBetween 16 = .ok (.invokevirtual 105, 3) := by decide +kernel
theorem dX2_linkBetween_19 : decode cX2_linkBetween 19 = .ok (.istore 4, 2) := by decide +kernel
theorem dX2_linkBetween_21 : decode cX2_linkBetween 21 = .ok (.aload_n 0, 1) := by decide +kernel
theorem dX2_linkBetween_22 : decode cX2_linkBetween 22 = .ok (.getfield 20, 3) := by decide +kernel
theorem dX2_linkBetween_25 : decode cX2_linkBetween 25 = .ok (.iload_n 3, 1) := by decide +kernel
theorem dX2_linkBetween_26 : decode cX2_linkBetween 26 = .ok (.iconst 1, 1) := by decide +kernel
theorem dX2_linkBetween_27 : decode cX2_linkBetween 27 = .ok (.invokevirtual 105, 3) := by decide +kernel
theorem dX2_linkBetween_30 : decode cX2_linkBetween 30 = .ok (.istore 5, 2) := by decide +kernel
theorem dX2_linkBetween_32 : decode cX2_linkBetween 32 = .ok (.iload 4, 2) := by decide +kernel
theorem dX2_linkBetween_34 : decode cX2_linkBetween 34 = .ok (.iload_n 1, 1) := by decide +kernel
theorem dX2_linkBetween_35 : decode cX2_linkBetween 35 = .ok (.if_icmp .ne 9, 3) := by decide +kernel
theorem dX2_linkBetween_38 : decode cX2_linkBetween 38 = .ok (.iload 5, 2) := by decide +kernel
theorem dX2_linkBetween_40 : decode cX2_linkBetween 40 = .ok (.iload_n 2, 1) := by decide +kernel
theorem dX2_linkBetween_41 : decode cX2_linkBetween 41 = .ok (.if_icmp .eq 15, 3) := by decide +kernel
theorem dX2_linkBetween_44 : decode cX2_linkBetween 44 = .ok (.iload 4, 2) := by decide +kernel
theorem dX2_linkBetween_46 : decode cX2_linkBetween 46 = .ok (.iload_n 2, 1) := by decide +kernel
theorem dX2_linkBetween_47 : decode cX2_linkBetween 47 = .ok (.if_icmp .ne 11, 3) := by decide +kernel
theorem dX2_linkBetween_50 : decode cX2_linkBetween 50 = .ok (.iload 5, 2) := by decide +kernel
theorem dX2_linkBetween_52 : decode cX2_linkBetween 52 = .ok (.iload_n 1, 1) := by decide +kernel
theorem dX2_linkBetween_53 : decode cX2_linkBetween 53 = .ok (.if_icmp .ne 5, 3) := by decide +kernel
theorem dX2_linkBetween_56 : decode cX2_linkBetween 56 = .ok (.iload_n 3, 1) := by decide +kernel
theorem dX2_linkBetween_57 : decode cX2_linkBetween 57 = .ok (.ireturn, 1) := by decide +kernel
theorem dX2_linkBetween_58 : decode cX2_linkBetween 58 = .ok (.iinc 3 1, 3) := by decide +kernel
theorem dX2_linkBetween_61 : decode cX2_linkBetween 61 = .ok (.goto (-59), 3) := by decide +kernel
theorem dX2_linkBetween_64 : decode cX2_linkBetween 64 = .ok (.iconst (-1), 1) := by decide +kernel
theorem dX2_linkBetween_65 : decode cX2_linkBetween 65 = .ok (.ireturn, 1) := by decide +kernel
theorem dX2_findOpenLinks_0 : decode cX2_findOpenLinks 0 = .ok (.aload_n 0, 1) := by decide +kernel
theorem dX2_findOpenLinks_1 : decode cX2_findOpenLinks 1 = .ok (.getfield 39, 3) := by decide +kernel
theorem dX2_findOpenLinks_4 : decode cX2_findOpenLinks 4 = .ok (.invokevirtual 72, 3) := by decide +kernel
theorem dX2_findOpenLinks_7 : decode cX2_findOpenLinks 7 = .ok (.iconst 0, 1) := by decide +kernel
theorem dX2_findOpenLinks_8 : decode cX2_findOpenLinks 8 = .ok (.istore_n 1, 1) := by decide +kernel
theorem dX2_findOpenLinks_9 : decode cX2_findOpenLinks 9 = .ok (.iload_n 1, 1) := by decide +kernel
theorem dX2_findOpenLinks_10 : decode cX2_findOpenLinks 10 = .ok (.aload_n 0, 1) := by decide +kernel
theorem dX2_findOpenLinks_11 : decode cX2_findOpenLinks 11 = .ok (.getfield 50, 3) := by decide +kernel
theorem dX2_findOpenLinks_14 : decode cX2_findOpenLinks 14 = .ok (.if_icmp .ge 58, 3) := by decide +kernel
theorem dX2_findOpenLinks_17 : decode cX2_findOpenLinks 17 = .ok (.iconst 0, 1) := by decide +kernel
theorem dX2_findOpenLinks_18 : decode cX2_findOpenLinks 18 = .ok (.istore_n 2, 1) := by decide +kernel
theorem dX2_findOpenLinks_19 : decode cX2_findOpenLinks 19 = .ok (.iload_n 2, 1) := by decide +kernel
theorem dX2_findOpenLinks_20 : decode cX2_findOpenLinks 20 = .ok (.bipush 24, 2) := by decide +kernel
theorem dX2_findOpenLinks_22 : decode cX2_findOpenLinks 22 = .ok (.if_icmp .ge 44, 3) := by decide +kernel
theorem dX2_findOpenLinks_25 : decode cX2_findOpenLinks 25 = .ok (.aload_n 0, 1) := by decide +kernel
theorem dX2_findOpenLinks_26 : decode cX2_findOpenLinks 26 = .ok (.iload_n 1, 1) := by decide +kernel
theorem dX2_findOpenLinks_27 : decode cX2_findOpenLinks 27 = .ok (.iload_n 2, 1) := by decide +kernel
theorem dX2_findOpenLinks_28 : decode cX2_findOpenLinks 28 = .ok (.invokevirtual 111, 3) := by decide +kernel
theorem dX2_findOpenLinks_31 : decode cX2_findOpenLinks 31 = .ok (.ifCond .eq 29, 3) := by decide +kernel
theorem dX2_findOpenLinks_34 : decode cX2_findOpenLinks 34 = .ok (.aload_n 0, 1) := by decide +kernel
theorem dX2_findOpenLinks_35 : decode cX2_findOpenLinks 35 = .ok (.getfield 39, 3) := by decide +kernel
theorem dX2_findOpenLinks_38 : decode cX2_findOpenLinks 38 = .ok (.iload_n 2, 1) := by decide +kernel
theorem dX2_findOpenLinks_39 : decode cX2_findOpenLinks 39 = .ok (.aload_n 0, 1) := by decide +kernel
theorem dX2_findOpenLinks_40 : decode cX2_findOpenLinks 40 = .ok (.getfield 20, 3) := by decide +kernel
theorem dX2_findOpenLinks_43 : decode cX2_findOpenLinks 43 = .ok (.iload_n 1, 1) := by decide +kernel
theorem dX2_findOpenLinks_44 : decode cX2_findOpenLinks 44 = .ok (.iconst 0, 1) := by decide +kernel
theorem dX2_findOpenLinks_45 : decode cX2_findOpenLinks 45 = .ok (.invokevirtual 105, 3) := by decide +kernel
theorem dX2_findOpenLinks_48 : decode cX2_findOpenLinks 48 = .ok (.aload_n 0, 1) := by decide +kernel
theorem dX2_findOpenLinks_49 : decode cX2_findOpenLinks 49 = .ok (.getfield 20, 3) := by decide +kernel
theorem dX2_findOpenLinks_52 : decode cX2_findOpenLinks 52 = .ok (.iload_n 1, 1) := by decide +kernel
theorem dX2_findOpenLinks_53 : decode cX2_findOpenLinks 53 = .ok (.iconst 1, 1) := by decide +kernel
theorem dX2_findOpenLinks_54 : decode cX2_findOpenLinks 54 = .ok (.invokevirtual 105, 3) := by decide +kernel
theorem dX2_findOpenLinks_57 : decode cX2_findOpenLinks 57 = .ok (.invokevirtual 115, 3) := by decide +kernel
theorem dX2_findOpenLinks_60 : decode cX2_findOpenLinks 60 = .ok (.iinc 2 1, 3) := by decide +kernel
theorem dX2_findOpenLinks_63 : decode cX2_findOpenLinks 63 = .ok (.goto (-44), 3) := by decide +kernel
theorem dX2_findOpenLinks_66 : decode cX2_findOpenLinks 66 = .ok (.iinc 1 1, 3) := by decide +kernel
theorem dX2_findOpenLinks_69 : decode cX2_findOpenLinks 69 = .ok (.goto (-60), 3) := by decide +kernel
theorem dX2_findOpenLinks_72 : decode cX2_findOpenLinks 72 = .ok (.return_, 1) := by decide +kernel
theorem dX2_stationNumber_0 : decode cX2_stationNumber 0 = .ok (.iload_n 2, 1) := by decide +kernel
theorem dX2_stationNumber_1 : decode cX2_stationNumber 1 = .ok (.lookupswitch 73 #[(3, 35), (4, 53), (9, 67)], 35) := by decide +kernel
theorem dX2_stationNumber_36 : decode cX2_stationNumber 36 = .ok (.aload_n 0, 1) := by decide +kernel
theorem dX2_stationNumber_37 : decode cX2_stationNumber 37 = .ok (.iload_n 1, 1) := by decide +kernel
theorem dX2_stationNumber_38 : decode cX2_stationNumber 38 = .ok (.aload_n 0, 1) := by decide +kernel
theorem dX2_stationNumber_39 : decode cX2_stationNumber 39 = .ok (.invokevirtual 118, 3) := by decide +kernel
theorem dX2_stationNumber_42 : decode cX2_stationNumber 42 = .ok (.invokevirtual 121, 3) := by decide +kernel
theorem dX2_stationNumber_45 : decode cX2_stationNumber 45 = .ok (.ifCond .eq 7, 3) := by decide +kernel
theorem dX2_stationNumber_48 : decode cX2_stationNumber 48 = .ok (.iconst 1, 1) := by decide +kernel
theorem dX2_stationNumber_49 : decode cX2_stationNumber 49 = .ok (.goto 4, 3) := by decide +kernel
theorem dX2_stationNumber_52 : decode cX2_stationNumber 52 = .ok (.iconst 0, 1) := by decide +kernel
theorem dX2_stationNumber_53 : decode cX2_stationNumber 53 = .ok (.ireturn, 1) := by decide +kernel
theorem dX2_stationNumber_54 : decode cX2_stationNumber 54 = .ok (.aload_n 0, 1) := by decide +kernel
theorem dX2_stationNumber_55 : decode cX2_stationNumber 55 = .ok (.iconst 0, 1) := by decide +kernel
theorem dX2_stationNumber_56 : decode cX2_stationNumber 56 = .ok (.aload_n 0, 1) := by decide +kernel
theorem dX2_stationNumber_57 : decode cX2_stationNumber 57 = .ok (.getfield 53, 3) := by decide +kernel
theorem dX2_stationNumber_60 : decode cX2_stationNumber 60 = .ok (.iload_n 1, 1) := by decide +kernel
theorem dX2_stationNumber_61 : decode cX2_stationNumber 61 = .ok (.iload_n 1, 1) := by decide +kernel
theorem dX2_stationNumber_62 : decode cX2_stationNumber 62 = .ok (.iconst 1, 1) := by decide +kernel
theorem dX2_stationNumber_63 : decode cX2_stationNumber 63 = .ok (.iadd, 1) := by decide +kernel
theorem dX2_stationNumber_64 : decode cX2_stationNumber 64 = .ok (.invokevirtual 124, 3) := by decide +kernel
theorem dX2_stationNumber_67 : decode cX2_stationNumber 67 = .ok (.ireturn, 1) := by decide +kernel
theorem dX2_stationNumber_68 : decode cX2_stationNumber 68 = .ok (.aload_n 0, 1) := by decide +kernel
theorem dX2_stationNumber_69 : decode cX2_stationNumber 69 = .ok (.iload_n 1, 1) := by decide +kernel
theorem dX2_stationNumber_70 : decode cX2_stationNumber 70 = .ok (.invokevirtual 128, 3) := by decide +kernel
theorem dX2_stationNumber_73 : decode cX2_stationNumber 73 = .ok (.ireturn, 1) := by decide +kernel
theorem dX2_stationNumber_74 : decode cX2_stationNumber 74 = .ok (.aload_n 0, 1) := by decide +kernel
theorem dX2_stationNumber_75 : decode cX2_stationNumber 75 = .ok (.getfield 14, 3) := by decide +kernel
theorem dX2_stationNumber_78 : decode cX2_stationNumber 78 = .ok (.iload_n 1, 1) := by decide +kernel
theorem dX2_stationNumber_79 : decode cX2_stationNumber 79 = .ok (.iload_n 2, 1) := by decide +kernel
theorem dX2_stationNumber_80 : decode cX2_stationNumber 80 = .ok (.invokevirtual 105, 3) := by decide +kernel
theorem dX2_stationNumber_83 : decode cX2_stationNumber 83 = .ok (.ireturn, 1) := by decide +kernel
theorem dX2_linkNumber_0 : decode cX2_linkNumber 0 = .ok (.iload_n 2, 1) := by decide +kernel
theorem dX2_linkNumber_1 : decode cX2_linkNumber 1 = .ok (.iconst 5, 1) := by decide +kernel
theorem dX2_linkNumber_2 : decode cX2_linkNumber 2 = .ok (.if_icmp .ne 21, 3) := by decide +kernel
theorem dX2_linkNumber_5 : decode cX2_linkNumber 5 = .ok (.aload_n 0, 1) := by decide +kernel
theorem dX2_linkNumber_6 : decode cX2_linkNumber 6 = .ok (.iload_n 1, 1) := by decide +kernel
theorem dX2_linkNumber_7 : decode cX2_linkNumber 7 = .ok (.aload_n 0, 1) := by decide +kernel
theorem dX2_linkNumber_8 : decode cX2_linkNumber 8 = .ok (.invokevirtual 118, 3) := by decide +kernel
theorem dX2_linkNumber_11 : decode cX2_linkNumber 11 = .ok (.invokevirtual 111, 3) := by decide +kernel
theorem dX2_linkNumber_14 : decode cX2_linkNumber 14 = .ok (.ifCond .eq 7, 3) := by decide +kernel
theorem dX2_linkNumber_17 : decode cX2_linkNumber 17 = .ok (.iconst 1, 1) := by decide +kernel
theorem dX2_linkNumber_18 : decode cX2_linkNumber 18 = .ok (.goto 4, 3) := by decide +kernel
theorem dX2_linkNumber_21 : decode cX2_linkNumber 21 = .ok (.iconst 0, 1) := by decide +kernel
theorem dX2_linkNumber_22 : decode cX2_linkNumber 22 = .ok (.ireturn, 1) := by decide +kernel
theorem dX2_linkNumber_23 : decode cX2_linkNumber 23 = .ok (.aload_n 0, 1) := by decide +kernel
theorem dX2_linkNumber_24 : decode cX2_linkNumber 24 = .ok (.getfield 20, 3) := by decide +kernel
theorem dX2_linkNumber_27 : decode cX2_linkNumber 27 = .ok (.iload_n 1, 1) := by decide +kernel
theorem dX2_linkNumber_28 : decode cX2_linkNumber 28 = .ok (.iload_n 2, 1) := by decide +kernel
theorem dX2_linkNumber_29 : decode cX2_linkNumber 29 = .ok (.invokevirtual 105, 3) := by decide +kernel
theorem dX2_linkNumber_32 : decode cX2_linkNumber 32 = .ok (.ireturn, 1) := by decide +kernel
theorem dX2_countNumber_0 : decode cX2_countNumber 0 = .ok (.iload_n 1, 1) := by decide +kernel
theorem dX2_countNumber_1 : decode cX2_countNumber 1 = .ok (.tableswitch 162 0 13 #[71, 76, 81, 86, 91, 96, 101, 106, 112, 118, 124, 139, 144, 154], 71) := by decide +kernel
theorem dX2_countNumber_72 : decode cX2_countNumber 72 = .ok (.aload_n 0, 1) := by decide +kernel
theorem dX2_countNumber_73 : decode cX2_countNumber 73 = .ok (.getfield 46, 3) := by decide +kernel
theorem dX2_countNumber_76 : decode cX2_countNumber 76 = .ok (.ireturn, 1) := by decide +kernel
theorem dX2_countNumber_77 : decode cX2_countNumber 77 = .ok (.aload_n 0, 1) := by decide +kernel
theorem dX2_countNumber_78 : decode cX2_countNumber 78 = .ok (.getfield 50, 3) := by decide +kernel
theorem dX2_countNumber_81 : decode cX2_countNumber 81 = .ok (.ireturn, 1) := by decide +kernel
theorem dX2_countNumber_82 : decode cX2_countNumber 82 = .ok (.aload_n 0, 1) := by decide +kernel
theorem dX2_countNumber_83 : decode cX2_countNumber 83 = .ok (.getfield 53, 3) := by decide +kernel
theorem dX2_countNumber_86 : decode cX2_countNumber 86 = .ok (.ireturn, 1) := by decide +kernel
theorem dX2_countNumber_87 : decode cX2_countNumber 87 = .ok (.aload_n 0, 1) := by decide +kernel
theorem dX2_countNumber_88 : decode cX2_countNumber 88 = .ok (.getfield 56, 3) := by decide +kernel
theorem dX2_countNumber_91 : decode cX2_countNumber 91 = .ok (.ireturn, 1) := by decide +kernel
theorem dX2_countNumber_92 : decode cX2_countNumber 92 = .ok (.aload_n 0, 1) := by decide +kernel
theorem dX2_countNumber_93 : decode cX2_countNumber 93 = .ok (.getfield 59, 3) := by decide +kernel
theorem dX2_countNumber_96 : decode cX2_countNumber 96 = .ok (.ireturn, 1) := by decide +kernel
theorem dX2_countNumber_97 : decode cX2_countNumber 97 = .ok (.aload_n 0, 1) := by decide +kernel
theorem dX2_countNumber_98 : decode cX2_countNumber 98 = .ok (.getfield 62, 3) := by decide +kernel
theorem dX2_countNumber_101 : decode cX2_countNumber 101 = .ok (.ireturn, 1) := by decide +kernel
theorem dX2_countNumber_102 : decode cX2_countNumber 102 = .ok (.aload_n 0, 1) := by decide +kernel
theorem dX2_countNumber_103 : decode cX2_countNumber 103 = .ok (.getfield 65, 3) := by decide +kernel
theorem dX2_countNumber_106 : decode cX2_countNumber 106 = .ok (.ireturn, 1) := by decide +kernel
theorem dX2_countNumber_107 : decode cX2_countNumber 107 = .ok (.aload_n 0, 1) := by decide +kernel
theorem dX2_countNumber_108 : decode cX2_countNumber 108 = .ok (.iconst 0, 1) := by decide +kernel
theorem dX2_countNumber_109 : decode cX2_countNumber 109 = .ok (.invokevirtual 132, 3) := by decide +kernel
theorem dX2_countNumber_112 : decode cX2_countNumber 112 = .ok (.ireturn, 1) := by decide +kernel
theorem dX2_countNumber_113 : decode cX2_countNumber 113 = .ok (.aload_n 0, 1) := by decide +kernel
theorem dX2_countNumber_114 : decode cX2_countNumber 114 = .ok (.iconst 1, 1) := by decide +kernel
theorem dX2_countNumber_115 : decode cX2_countNumber 115 = .ok (.invokevirtual 132, 3) := by decide +kernel
theorem dX2_countNumber_118 : decode cX2_countNumber 118 = .ok (.ireturn, 1) := by decide +kernel
theorem dX2_countNumber_119 : decode cX2_countNumber 119 = .ok (.aload_n 0, 1) := by decide +kernel
theorem dX2_countNumber_120 : decode cX2_countNumber 120 = .ok (.iconst 2, 1) := by decide +kernel
theorem dX2_countNumber_121 : decode cX2_countNumber 121 = .ok (.invokevirtual 132, 3) := by decide +kernel
theorem dX2_countNumber_124 : decode cX2_countNumber 124 = .ok (.ireturn, 1) := by decide +kernel
theorem dX2_countNumber_125 : decode cX2_countNumber 125 = .ok (.aload_n 0, 1) := by decide +kernel
theorem dX2_countNumber_126 : decode cX2_countNumber 126 = .ok (.iconst 0, 1) := by decide +kernel
theorem dX2_countNumber_127 : decode cX2_countNumber 127 = .ok (.aload_n 0, 1) := by decide +kernel
theorem dX2_countNumber_128 : decode cX2_countNumber 128 = .ok (.getfield 53, 3) := by decide +kernel
theorem dX2_countNumber_131 : decode cX2_countNumber 131 = .ok (.iconst 0, 1) := by decide +kernel
theorem dX2_countNumber_132 : decode cX2_countNumber 132 = .ok (.aload_n 0, 1) := by decide +kernel
theorem dX2_countNumber_133 : decode cX2_countNumber 133 = .ok (.getfield 46, 3) := by decide +kernel
theorem dX2_countNumber_136 : decode cX2_countNumber 136 = .ok (.invokevirtual 124, 3) := by decide +kernel
theorem dX2_countNumber_139 : decode cX2_countNumber 139 = .ok (.ireturn, 1) := by decide +kernel
theorem dX2_countNumber_140 : decode cX2_countNumber 140 = .ok (.aload_n 0, 1) := by decide +kernel
theorem dX2_countNumber_141 : decode cX2_countNumber 141 = .ok (.invokevirtual 135, 3) := by decide +kernel
theorem dX2_countNumber_144 : decode cX2_countNumber 144 = .ok (.ireturn, 1) := by decide +kernel
theorem dX2_countNumber_145 : decode cX2_countNumber 145 = .ok (.aload_n 0, 1) := by decide +kernel
theorem dX2_countNumber_146 : decode cX2_countNumber 146 = .ok (.getfield 14, 3) := by decide +kernel
theorem dX2_countNumber_149 : decode cX2_countNumber 149 = .ok (.bipush 7, 2) := by decide +kernel
theorem dX2_countNumber_151 : decode cX2_countNumber 151 = .ok (.invokevirtual 138, 3) := by decide +kernel
theorem dX2_countNumber_154 : decode cX2_countNumber 154 = .ok (.ireturn, 1) := by decide +kernel
theorem dX2_countNumber_155 : decode cX2_countNumber 155 = .ok (.aload_n 0, 1) := by decide +kernel
theorem dX2_countNumber_156 : decode cX2_countNumber 156 = .ok (.getfield 32, 3) := by decide +kernel
theorem dX2_countNumber_159 : decode cX2_countNumber 159 = .ok (.invokevirtual 83, 3) := by decide +kernel
theorem dX2_countNumber_162 : decode cX2_countNumber 162 = .ok (.ireturn, 1) := by decide +kernel
theorem dX2_countNumber_163 : decode cX2_countNumber 163 = .ok (.iconst (-1), 1) := by decide +kernel
theorem dX2_countNumber_164 : decode cX2_countNumber 164 = .ok (.ireturn, 1) := by decide +kernel
theorem dX2_wayNumber_0 : decode cX2_wayNumber 0 = .ok (.aload_n 0, 1) := by decide +kernel
theorem dX2_wayNumber_1 : decode cX2_wayNumber 1 = .ok (.getfield 39, 3) := by decide +kernel
theorem dX2_wayNumber_4 : decode cX2_wayNumber 4 = .ok (.iload_n 1, 1) := by decide +kernel
theorem dX2_wayNumber_5 : decode cX2_wayNumber 5 = .ok (.iload_n 2, 1) := by decide +kernel
theorem dX2_wayNumber_6 : decode cX2_wayNumber 6 = .ok (.iload_n 3, 1) := by decide +kernel
theorem dX2_wayNumber_7 : decode cX2_wayNumber 7 = .ok (.iconst 0, 1) := by decide +kernel
theorem dX2_wayNumber_8 : decode cX2_wayNumber 8 = .ok (.invokevirtual 141, 3) := by decide +kernel
theorem dX2_wayNumber_11 : decode cX2_wayNumber 11 = .ok (.ifCond .ne 5, 3) := by decide +kernel
theorem dX2_wayNumber_14 : decode cX2_wayNumber 14 = .ok (.iconst (-1), 1) := by decide +kernel
theorem dX2_wayNumber_15 : decode cX2_wayNumber 15 = .ok (.ireturn, 1) := by decide +kernel
theorem dX2_wayNumber_16 : decode cX2_wayNumber 16 = .ok (.iload 4, 2) := by decide +kernel
theorem dX2_wayNumber_18 : decode cX2_wayNumber 18 = .ok (.lookupswitch 42 #[(0, 26), (1, 34)], 26) := by decide +kernel
theorem dX2_wayNumber_44 : decode cX2_wayNumber 44 = .ok (.aload_n 0, 1) := by decide +kernel
theorem dX2_wayNumber_45 : decode cX2_wayNumber 45 = .ok (.getfield 39, 3) := by decide +kernel
theorem dX2_wayNumber_48 : decode cX2_wayNumber 48 = .ok (.invokevirtual 145, 3) := by decide +kernel
theorem dX2_wayNumber_51 : decode cX2_wayNumber 51 = .ok (.ireturn, 1) := by decide +kernel
theorem dX2_wayNumber_52 : decode cX2_wayNumber 52 = .ok (.aload_n 0, 1) := by decide +kernel
theorem dX2_wayNumber_53 : decode cX2_wayNumber 53 = .ok (.getfield 39, 3) := by decide +kernel
theorem dX2_wayNumber_56 : decode cX2_wayNumber 56 = .ok (.invokevirtual 148, 3) := by decide +kernel
theorem dX2_wayNumber_59 : decode cX2_wayNumber 59 = .ok (.ireturn, 1) := by decide +kernel
theorem dX2_wayNumber_60 : decode cX2_wayNumber 60 = .ok (.aload_n 0, 1) := by decide +kernel
theorem dX2_wayNumber_61 : decode cX2_wayNumber 61 = .ok (.getfield 39, 3) := by decide +kernel
theorem dX2_wayNumber_64 : decode cX2_wayNumber 64 = .ok (.invokevirtual 151, 3) := by decide +kernel
theorem dX2_wayNumber_67 : decode cX2_wayNumber 67 = .ok (.ireturn, 1) := by decide +kernel
theorem dX2_reachablePairs_0 : decode cX2_reachablePairs 0 = .ok (.iconst 0, 1) := by decide +kernel
theorem dX2_reachablePairs_1 : decode cX2_reachablePairs 1 = .ok (.istore_n 2, 1) := by decide +kernel
theorem dX2_reachablePairs_2 : decode cX2_reachablePairs 2 = .ok (.iconst 0, 1) := by decide +kernel
theorem dX2_reachablePairs_3 : decode cX2_reachablePairs 3 = .ok (.istore_n 3, 1) := by decide +kernel
theorem dX2_reachablePairs_4 : decode cX2_reachablePairs 4 = .ok (.iload_n 3, 1) := by decide +kernel
theorem dX2_reachablePairs_5 : decode cX2_reachablePairs 5 = .ok (.aload_n 0, 1) := by decide +kernel
theorem dX2_reachablePairs_6 : decode cX2_reachablePairs 6 = .ok (.getfield 46, 3) := by decide +kernel
theorem dX2_reachablePairs_9 : decode cX2_reachablePairs 9 = .ok (.if_icmp .ge 33, 3) := by decide +kernel
theorem dX2_reachablePairs_12 : decode cX2_reachablePairs 12 = .ok (.iload_n 1, 1) := by decide +kernel
theorem dX2_reachablePairs_13 : decode cX2_reachablePairs 13 = .ok (.iload_n 3, 1) := by decide +kernel
theorem dX2_reachablePairs_14 : decode cX2_reachablePairs 14 = .ok (.ishr, 1) := by decide +kernel
theorem dX2_reachablePairs_15 : decode cX2_reachablePairs 15 = .ok (.iconst 1, 1) := by decide +kernel
theorem dX2_reachablePairs_16 : decode cX2_reachablePairs 16 = .ok (.iand, 1) := by decide +kernel
theorem dX2_reachablePairs_17 : decode cX2_reachablePairs 17 = .ok (.ifCond .ne 19, 3) := by decide +kernel
theorem dX2_reachablePairs_20 : decode cX2_reachablePairs 20 = .ok (.iload_n 2, 1) := by decide +kernel
theorem dX2_reachablePairs_21 : decode cX2_reachablePairs 21 = .ok (.aload_n 0, 1) := by decide +kernel
theorem dX2_reachablePairs_22 : decode cX2_reachablePairs 22 = .ok (.getfield 39, 3) := by decide +kernel
theorem dX2_reachablePairs_25 : decode cX2_reachablePairs 25 = .ok (.iload_n 3, 1) := by decide +kernel
theorem dX2_reachablePairs_26 : decode cX2_reachablePairs 26 = .ok (.aload_n 0, 1) := by decide +kernel
theorem dX2_reachablePairs_27 : decode cX2_reachablePairs 27 = .ok (.getfield 56, 3) := by decide +kernel
theorem dX2_reachablePairs_30 : decode cX2_reachablePairs 30 = .ok (.iload_n 1, 1) := by decide +kernel
theorem dX2_reachablePairs_31 : decode cX2_reachablePairs 31 = .ok (.invokevirtual 154, 3) := by decide +kernel
theorem dX2_reachablePairs_34 : decode cX2_reachablePairs 34 = .ok (.iadd, 1) := by decide +kernel
theorem dX2_reachablePairs_35 : decode cX2_reachablePairs 35 = .ok (.istore_n 2, 1) := by decide +kernel
theorem dX2_reachablePairs_36 : decode cX2_reachablePairs 36 = .ok (.iinc 3 1, 3) := by decide +kernel
theorem dX2_reachablePairs_39 : decode cX2_reachablePairs 39 = .ok (.goto (-35), 3) := by decide +kernel
theorem dX2_reachablePairs_42 : decode cX2_reachablePairs 42 = .ok (.iload_n 2, 1) := by decide +kernel
theorem dX2_reachablePairs_43 : decode cX2_reachablePairs 43 = .ok (.ireturn, 1) := by decide +kernel
theorem dX2_messageNumber_0 : decode cX2_messageNumber 0 = .ok (.iload_n 2, 1) := by decide +kernel
theorem dX2_messageNumber_1 : decode cX2_messageNumber 1 = .ok (.lookupswitch 47 #[(4, 27), (9, 33)], 27) := by decide +kernel
theorem dX2_messageNumber_28 : decode cX2_messageNumber 28 = .ok (.aload_n 0, 1) := by decide +kernel
theorem dX2_messageNumber_29 : decode cX2_messageNumber 29 = .ok (.iload_n 1, 1) := by decide +kernel
theorem dX2_messageNumber_30 : decode cX2_messageNumber 30 = .ok (.invokevirtual 158, 3) := by decide +kernel
theorem dX2_messageNumber_33 : decode cX2_messageNumber 33 = .ok (.ireturn, 1) := by decide +kernel
theorem dX2_messageNumber_34 : decode cX2_messageNumber 34 = .ok (.aload_n 0, 1) := by decide +kernel
theorem dX2_messageNumber_35 : decode cX2_messageNumber 35 = .ok (.iload_n 1, 1) := by decide +kernel
theorem dX2_messageNumber_36 : decode cX2_messageNumber 36 = .ok (.iload_n 1, 1) := by decide +kernel
theorem dX2_messageNumber_37 : decode cX2_messageNumber 37 = .ok (.iconst 1, 1) := by decide +kernel
theorem dX2_messageNumber_38 : decode cX2_messageNumber 38 = .ok (.iadd, 1) := by decide +kernel
theorem dX2_messageNumber_39 : decode cX2_messageNumber 39 = .ok (.iconst 0, 1) := by decide +kernel
theorem dX2_messageNumber_40 : decode cX2_messageNumber 40 = .ok (.aload_n 0, 1) := by decide +kernel
theorem dX2_messageNumber_41 : decode cX2_messageNumber 41 = .ok (.getfield 46, 3) := by decide +kernel
theorem dX2_messageNumber_44 : decode cX2_messageNumber 44 = .ok (.invokevirtual 124, 3) := by decide +kernel
theorem dX2_messageNumber_47 : decode cX2_messageNumber 47 = .ok (.ireturn, 1) := by decide +kernel
theorem dX2_messageNumber_48 : decode cX2_messageNumber 48 = .ok (.aload_n 0, 1) := by decide +kernel
theorem dX2_messageNumber_49 : decode cX2_messageNumber 49 = .ok (.getfield 23, 3) := by decide +kernel
theorem dX2_messageNumber_52 : decode cX2_messageNumber 52 = .ok (.iload_n 1, 1) := by decide +kernel
theorem dX2_messageNumber_53 : decode cX2_messageNumber 53 = .ok (.iload_n 2, 1) := by decide +kernel
theorem dX2_messageNumber_54 : decode cX2_messageNumber 54 = .ok (.invokevirtual 105, 3) := by decide +kernel
theorem dX2_messageNumber_57 : decode cX2_messageNumber 57 = .ok (.ireturn, 1) := by decide +kernel
theorem dX2_messageState_0 : decode cX2_messageState 0 = .ok (.aload_n 0, 1) := by decide +kernel
theorem dX2_messageState_1 : decode cX2_messageState 1 = .ok (.getfield 23, 3) := by decide +kernel
theorem dX2_messageState_4 : decode cX2_messageState 4 = .ok (.iload_n 1, 1) := by decide +kernel
theorem dX2_messageState_5 : decode cX2_messageState 5 = .ok (.iconst 5, 1) := by decide +kernel
theorem dX2_messageState_6 : decode cX2_messageState 6 = .ok (.invokevirtual 105, 3) := by decide +kernel
theorem dX2_messageState_9 : decode cX2_messageState 9 = .ok (.iconst (-1), 1) := by decide +kernel
theorem dX2_messageState_10 : decode cX2_messageState 10 = .ok (.if_icmp .eq 5, 3) := by decide +kernel
theorem dX2_messageState_13 : decode cX2_messageState 13 = .ok (.iconst 1, 1) := by decide +kernel
theorem dX2_messageState_14 : decode cX2_messageState 14 = .ok (.ireturn, 1) := by decide +kernel
theorem dX2_messageState_15 : decode cX2_messageState 15 = .ok (.aload_n 0, 1) := by decide +kernel
theorem dX2_messageState_16 : decode cX2_messageState 16 = .ok (.iload_n 1, 1) := by decide +kernel
theorem dX2_messageState_17 : decode cX2_messageState 17 = .ok (.iload_n 1, 1) := by decide +kernel
theorem dX2_messageState_18 : decode cX2_messageState 18 = .ok (.iconst 1, 1) := by decide +kernel
theorem dX2_messageState_19 : decode cX2_messageState 19 = .ok (.iadd, 1) := by decide +kernel
theorem dX2_messageState_20 : decode cX2_messageState 20 = .ok (.iconst 0, 1) := by decide +kernel
theorem dX2_messageState_21 : decode cX2_messageState 21 = .ok (.aload_n 0, 1) := by decide +kernel
theorem dX2_messageState_22 : decode cX2_messageState 22 = .ok (.getfield 46, 3) := by decide +kernel
theorem dX2_messageState_25 : decode cX2_messageState 25 = .ok (.invokevirtual 124, 3) := by decide +kernel
theorem dX2_messageState_28 : decode cX2_messageState 28 = .ok (.ifCond .le 7, 3) := by decide +kernel
theorem dX2_messageState_31 : decode cX2_messageState 31 = .ok (.iconst 0, 1) := by decide +kernel
theorem dX2_messageState_32 : decode cX2_messageState 32 = .ok (.goto 4, 3) := by decide +kernel
theorem dX2_messageState_35 : decode cX2_messageState 35 = .ok (.iconst 2, 1) := by decide +kernel
theorem dX2_messageState_36 : decode cX2_messageState 36 = .ok (.ireturn, 1) := by decide +kernel
theorem dX2_messagesInState_0 : decode cX2_messagesInState 0 = .ok (.iconst 0, 1) := by decide +kernel
theorem dX2_messagesInState_1 : decode cX2_messagesInState 1 = .ok (.istore_n 2, 1) := by decide +kernel
theorem dX2_messagesInState_2 : decode cX2_messagesInState 2 = .ok (.iconst 0, 1) := by decide +kernel
theorem dX2_messagesInState_3 : decode cX2_messagesInState 3 = .ok (.istore_n 3, 1) := by decide +kernel
theorem dX2_messagesInState_4 : decode cX2_messagesInState 4 = .ok (.iload_n 3, 1) := by decide +kernel
theorem dX2_messagesInState_5 : decode cX2_messagesInState 5 = .ok (.aload_n 0, 1) := by decide +kernel
theorem dX2_messagesInState_6 : decode cX2_messagesInState 6 = .ok (.getfield 53, 3) := by decide +kernel
theorem dX2_messagesInState_9 : decode cX2_messagesInState 9 = .ok (.if_icmp .ge 21, 3) := by decide +kernel
theorem dX2_messagesInState_12 : decode cX2_messagesInState 12 = .ok (.aload_n 0, 1) := by decide +kernel
theorem dX2_messagesInState_13 : decode cX2_messagesInState 13 = .ok (.iload_n 3, 1) := by decide +kernel
theorem dX2_messagesInState_14 : decode cX2_messagesInState 14 = .ok (.invokevirtual 158, 3) := by decide +kernel
theorem dX2_messagesInState_17 : decode cX2_messagesInState 17 = .ok (.iload_n 1, 1) := by decide +kernel
theorem dX2_messagesInState_18 : decode cX2_messagesInState 18 = .ok (.if_icmp .ne 6, 3) := by decide +kernel
theorem dX2_messagesInState_21 : decode cX2_messagesInState 21 = .ok (.iinc 2 1, 3) := by decide +kernel
theorem dX2_messagesInState_24 : decode cX2_messagesInState 24 = .ok (.iinc 3 1, 3) := by decide +kernel
theorem dX2_messagesInState_27 : decode cX2_messagesInState 27 = .ok (.goto (-23), 3) := by decide +kernel
theorem dX2_messagesInState_30 : decode cX2_messagesInState 30 = .ok (.iload_n 2, 1) := by decide +kernel
theorem dX2_messagesInState_31 : decode cX2_messagesInState 31 = .ok (.ireturn, 1) := by decide +kernel
theorem dX2_copyNumber_0 : decode cX2_copyNumber 0 = .ok (.iload_n 1, 1) := by decide +kernel
theorem dX2_copyNumber_1 : decode cX2_copyNumber 1 = .ok (.iload_n 2, 1) := by decide +kernel
theorem dX2_copyNumber_2 : decode cX2_copyNumber 2 = .ok (.invokestatic 98, 3) := by decide +kernel
theorem dX2_copyNumber_5 : decode cX2_copyNumber 5 = .ok (.istore 4, 2) := by decide +kernel
theorem dX2_copyNumber_7 : decode cX2_copyNumber 7 = .ok (.iload_n 3, 1) := by decide +kernel
theorem dX2_copyNumber_8 : decode cX2_copyNumber 8 = .ok (.ifCond .eq 18, 3) := by decide +kernel
theorem dX2_copyNumber_11 : decode cX2_copyNumber 11 = .ok (.aload_n 0, 1) := by decide +kernel
theorem dX2_copyNumber_12 : decode cX2_copyNumber 12 = .ok (.getfield 26, 3) := by decide +kernel
theorem dX2_copyNumber_15 : decode cX2_copyNumber 15 = .ok (.iload 4, 2) := by decide +kernel
theorem dX2_copyNumber_17 : decode cX2_copyNumber 17 = .ok (.iconst 0, 1) := by decide +kernel
theorem dX2_copyNumber_18 : decode cX2_copyNumber 18 = .ok (.invokevirtual 105, 3) := by decide +kernel
theorem dX2_copyNumber_21 : decode cX2_copyNumber 21 = .ok (.ifCond .ne 5, 3) := by decide +kernel
theorem dX2_copyNumber_24 : decode cX2_copyNumber 24 = .ok (.iconst (-1), 1) := by decide +kernel
theorem dX2_copyNumber_25 : decode cX2_copyNumber 25 = .ok (.ireturn, 1) := by decide +kernel
theorem dX2_copyNumber_26 : decode cX2_copyNumber 26 = .ok (.iload_n 3, 1) := by decide +kernel
theorem dX2_copyNumber_27 : decode cX2_copyNumber 27 = .ok (.iconst 4, 1) := by decide +kernel
theorem dX2_copyNumber_28 : decode cX2_copyNumber 28 = .ok (.if_icmp .ne 12, 3) := by decide +kernel
theorem dX2_copyNumber_31 : decode cX2_copyNumber 31 = .ok (.aload_n 0, 1) := by decide +kernel
theorem dX2_copyNumber_32 : decode cX2_copyNumber 32 = .ok (.iload_n 1, 1) := by decide +kernel
theorem dX2_copyNumber_33 : decode cX2_copyNumber 33 = .ok (.iload_n 2, 1) := by decide +kernel
theorem dX2_copyNumber_34 : decode cX2_copyNumber 34 = .ok (.invokevirtual 161, 3) := by decide +kernel
theorem dX2_copyNumber_37 : decode cX2_copyNumber 37 = .ok (.goto 13, 3) := by decide +kernel
theorem dX2_copyNumber_40 : decode cX2_copyNumber 40 = .ok (.aload_n 0, 1) := by decide +kernel
theorem dX2_copyNumber_41 : decode cX2_copyNumber 41 = .ok (.getfield 26, 3) := by decide +kernel
theorem dX2_copyNumber_44 : decode cX2_copyNumber 44 = .ok (.iload 4, 2) := by decide +kernel
theorem dX2_copyNumber_46 : decode cX2_copyNumber 46 = .ok (.iload_n 3, 1) := by decide +kernel
theorem dX2_copyNumber_47 : decode cX2_copyNumber 47 = .ok (.invokevirtual 105, 3) := by decide +kernel
theorem dX2_copyNumber_50 : decode cX2_copyNumber 50 = .ok (.ireturn, 1) := by decide +kernel
theorem dX2_pathStation_0 : decode cX2_pathStation 0 = .ok (.iload_n 1, 1) := by decide +kernel
theorem dX2_pathStation_1 : decode cX2_pathStation 1 = .ok (.iload_n 2, 1) := by decide +kernel
theorem dX2_pathStation_2 : decode cX2_pathStation 2 = .ok (.invokestatic 98, 3) := by decide +kernel
theorem dX2_pathStation_5 : decode cX2_pathStation 5 = .ok (.istore 4, 2) := by decide +kernel
theorem dX2_pathStation_7 : decode cX2_pathStation 7 = .ok (.aload_n 0, 1) := by decide +kernel
theorem dX2_pathStation_8 : decode cX2_pathStation 8 = .ok (.getfield 26, 3) := by decide +kernel
theorem dX2_pathStation_11 : decode cX2_pathStation 11 = .ok (.iload 4, 2) := by decide +kernel
theorem dX2_pathStation_13 : decode cX2_pathStation 13 = .ok (.iconst 0, 1) := by decide +kernel
theorem dX2_pathStation_14 : decode cX2_pathStation 14 = .ok (.invokevirtual 105, 3) := by decide +kernel
theorem dX2_pathStation_17 : decode cX2_pathStation 17 = .ok (.ifCond .eq 21, 3) := by decide +kernel
theorem dX2_pathStation_20 : decode cX2_pathStation 20 = .ok (.iload_n 3, 1) := by decide +kernel
theorem dX2_pathStation_21 : decode cX2_pathStation 21 = .ok (.ifCond .lt 17, 3) := by decide +kernel
theorem dX2_pathStation_24 : decode cX2_pathStation 24 = .ok (.iload_n 3, 1) := by decide +kernel
theorem dX2_pathStation_25 : decode cX2_pathStation 25 = .ok (.aload_n 0, 1) := by decide +kernel
theorem dX2_pathStation_26 : decode cX2_pathStation 26 = .ok (.getfield 26, 3) := by decide +kernel
theorem dX2_pathStation_29 : decode cX2_pathStation 29 = .ok (.iload 4, 2) := by decide +kernel
theorem dX2_pathStation_31 : decode cX2_pathStation 31 = .ok (.iconst 3, 1) := by decide +kernel
theorem dX2_pathStation_32 : decode cX2_pathStation 32 = .ok (.invokevirtual 105, 3) := by decide +kernel
theorem dX2_pathStation_35 : decode cX2_pathStation 35 = .ok (.if_icmp .lt 5, 3) := by decide +kernel
theorem dX2_pathStation_38 : decode cX2_pathStation 38 = .ok (.iconst (-1), 1) := by decide +kernel
theorem dX2_pathStation_39 : decode cX2_pathStation 39 = .ok (.ireturn, 1) := by decide +kernel
theorem dX2_pathStation_40 : decode cX2_pathStation 40 = .ok (.aload_n 0, 1) := by decide +kernel
theorem dX2_pathStation_41 : decode cX2_pathStation 41 = .ok (.getfield 26, 3) := by decide +kernel
theorem dX2_pathStation_44 : decode cX2_pathStation 44 = .ok (.iload 4, 2) := by decide +kernel
theorem dX2_pathStation_46 : decode cX2_pathStation 46 = .ok (.iconst 4, 1) := by decide +kernel
theorem dX2_pathStation_47 : decode cX2_pathStation 47 = .ok (.invokevirtual 105, 3) := by decide +kernel
theorem dX2_pathStation_50 : decode cX2_pathStation 50 = .ok (.iload_n 3, 1) := by decide +kernel
theorem dX2_pathStation_51 : decode cX2_pathStation 51 = .ok (.iconst 3, 1) := by decide +kernel
theorem dX2_pathStation_52 : decode cX2_pathStation 52 = .ok (.imul, 1) := by decide +kernel
theorem dX2_pathStation_53 : decode cX2_pathStation 53 = .ok (.ishr, 1) := by decide +kernel
theorem dX2_pathStation_54 : decode cX2_pathStation 54 = .ok (.bipush 7, 2) := by decide +kernel
theorem dX2_pathStation_56 : decode cX2_pathStation 56 = .ok (.iand, 1) := by decide +kernel
theorem dX2_pathStation_57 : decode cX2_pathStation 57 = .ok (.ireturn, 1) := by decide +kernel
theorem dX2_messageToSend_0 : decode cX2_messageToSend 0 = .ok (.iload_n 2, 1) := by decide +kernel
theorem dX2_messageToSend_1 : decode cX2_messageToSend 1 = .ok (.aload_n 0, 1) := by decide +kernel
theorem dX2_messageToSend_2 : decode cX2_messageToSend 2 = .ok (.iload_n 1, 1) := by decide +kernel
theorem dX2_messageToSend_3 : decode cX2_messageToSend 3 = .ok (.invokevirtual 164, 3) := by decide +kernel
theorem dX2_messageToSend_6 : decode cX2_messageToSend 6 = .ok (.if_icmp .ge 15, 3) := by decide +kernel
theorem dX2_messageToSend_9 : decode cX2_messageToSend 9 = .ok (.aload_n 0, 1) := by decide +kernel
theorem dX2_messageToSend_10 : decode cX2_messageToSend 10 = .ok (.getfield 43, 3) := by decide +kernel
theorem dX2_messageToSend_13 : decode cX2_messageToSend 13 = .ok (.iload_n 2, 1) := by decide +kernel
theorem dX2_messageToSend_14 : decode cX2_messageToSend 14 = .ok (.iconst 0, 1) := by decide +kernel
theorem dX2_messageToSend_15 : decode cX2_messageToSend 15 = .ok (.invokevirtual 105, 3) := by decide +kernel
theorem dX2_messageToSend_18 : decode cX2_messageToSend 18 = .ok (.goto 4, 3) := by decide +kernel
theorem dX2_messageToSend_21 : decode cX2_messageToSend 21 = .ok (.iconst (-1), 1) := by decide +kernel
theorem dX2_messageToSend_22 : decode cX2_messageToSend 22 = .ok (.ireturn, 1) := by decide +kernel
theorem dX2_takeCopiesBack_0 : decode cX2_takeCopiesBack 0 = .ok (.iconst 0, 1) := by decide +kernel
theorem dX2_takeCopiesBack_1 : decode cX2_takeCopiesBack 1 = .ok (.istore_n 2, 1) := by decide +kernel
theorem dX2_takeCopiesBack_2 : decode cX2_takeCopiesBack 2 = .ok (.iconst 0, 1) := by decide +kernel
theorem dX2_takeCopiesBack_3 : decode cX2_takeCopiesBack 3 = .ok (.istore_n 3, 1) := by decide +kernel
theorem dX2_takeCopiesBack_4 : decode cX2_takeCopiesBack 4 = .ok (.iload_n 3, 1) := by decide +kernel
theorem dX2_takeCopiesBack_5 : decode cX2_takeCopiesBack 5 = .ok (.aload_n 0, 1) := by decide +kernel
theorem dX2_takeCopiesBack_6 : decode cX2_takeCopiesBack 6 = .ok (.getfield 46, 3) := by decide +kernel
theorem dX2_takeCopiesBack_9 : decode cX2_takeCopiesBack 9 = .ok (.if_icmp .ge 31, 3) := by decide +kernel
theorem dX2_takeCopiesBack_12 : decode cX2_takeCopiesBack 12 = .ok (.aload_n 0, 1) := by decide +kernel
theorem dX2_takeCopiesBack_13 : decode cX2_takeCopiesBack 13 = .ok (.iload_n 1, 1) := by decide +kernel
theorem dX2_takeCopiesBack_14 : decode cX2_takeCopiesBack 14 = .ok (.iload_n 3, 1) := by decide +kernel
theorem dX2_takeCopiesBack_15 : decode cX2_takeCopiesBack 15 = .ok (.invokevirtual 167, 3) := by decide +kernel
theorem dX2_takeCopiesBack_18 : decode cX2_takeCopiesBack 18 = .ok (.ifCond .eq 16, 3) := by decide +kernel
theorem dX2_takeCopiesBack_21 : decode cX2_takeCopiesBack 21 = .ok (.aload_n 0, 1) := by decide +kernel
theorem dX2_takeCopiesBack_22 : decode cX2_takeCopiesBack 22 = .ok (.iload_n 1, 1) := by decide +kernel
theorem dX2_takeCopiesBack_23 : decode cX2_takeCopiesBack 23 = .ok (.iload_n 3, 1) := by decide +kernel
theorem dX2_takeCopiesBack_24 : decode cX2_takeCopiesBack 24 = .ok (.iconst (-1), 1) := by decide +kernel
theorem dX2_takeCopiesBack_25 : decode cX2_takeCopiesBack 25 = .ok (.iconst 3, 1) := by decide +kernel
theorem dX2_takeCopiesBack_26 : decode cX2_takeCopiesBack 26 = .ok (.bipush 8, 2) := by decide +kernel
theorem dX2_takeCopiesBack_28 : decode cX2_takeCopiesBack 28 = .ok (.invokevirtual 170, 3) := by decide +kernel
theorem dX2_takeCopiesBack_31 : decode cX2_takeCopiesBack 31 = .ok (.iinc 2 1, 3) := by decide +kernel
theorem dX2_takeCopiesBack_34 : decode cX2_takeCopiesBack 34 = .ok (.iinc 3 1, 3) := by decide +kernel
theorem dX2_takeCopiesBack_37 : decode cX2_takeCopiesBack 37 = .ok (.goto (-33), 3) := by decide +kernel
theorem dX2_takeCopiesBack_40 : decode cX2_takeCopiesBack 40 = .ok (.iload_n 2, 1) := by decide +kernel
theorem dX2_takeCopiesBack_41 : decode cX2_takeCopiesBack 41 = .ok (.ireturn, 1) := by decide +kernel
theorem dX2_framesSent_0 : decode cX2_framesSent 0 = .ok (.aload_n 0, 1) := by decide +kernel
theorem dX2_framesSent_1 : decode cX2_framesSent 1 = .ok (.getfield 20, 3) := by decide +kernel
theorem dX2_framesSent_4 : decode cX2_framesSent 4 = .ok (.bipush 6, 2) := by decide +kernel
theorem dX2_framesSent_6 : decode cX2_framesSent 6 = .ok (.invokevirtual 138, 3) := by decide +kernel
theorem dX2_framesSent_9 : decode cX2_framesSent 9 = .ok (.ireturn, 1) := by decide +kernel
theorem dX2_framesOrAnswersLost_0 : decode cX2_framesOrAnswersLost 0 = .ok (.aload_n 0, 1) := by decide +kernel
theorem dX2_framesOrAnswersLost_1 : decode cX2_framesOrAnswersLost 1 = .ok (.getfield 20, 3) := by decide +kernel
theorem dX2_framesOrAnswersLost_4 : decode cX2_framesOrAnswersLost 4 = .ok (.bipush 7, 2) := by decide +kernel
theorem dX2_framesOrAnswersLost_6 : decode cX2_framesOrAnswersLost 6 = .ok (.invokevirtual 138, 3) := by decide +kernel
theorem dX2_framesOrAnswersLost_9 : decode cX2_framesOrAnswersLost 9 = .ok (.aload_n 0, 1) := by decide +kernel
theorem dX2_framesOrAnswersLost_10 : decode cX2_framesOrAnswersLost 10 = .ok (.getfield 20, 3) := by decide +kernel
theorem dX2_framesOrAnswersLost_13 : decode cX2_framesOrAnswersLost 13 = .ok (.bipush 8, 2) := by decide +kernel
theorem dX2_framesOrAnswersLost_15 : decode cX2_framesOrAnswersLost 15 = .ok (.invokevirtual 138, 3) := by decide +kernel
theorem dX2_framesOrAnswersLost_18 : decode cX2_framesOrAnswersLost 18 = .ok (.iadd, 1) := by decide +kernel
theorem dX2_framesOrAnswersLost_19 : decode cX2_framesOrAnswersLost 19 = .ok (.ireturn, 1) := by decide +kernel
theorem dX2_passHour_0 : decode cX2_passHour 0 = .ok (.aload_n 0, 1) := by decide +kernel
theorem dX2_passHour_1 : decode cX2_passHour 1 = .ok (.invokevirtual 173, 3) := by decide +kernel
theorem dX2_passHour_4 : decode cX2_passHour 4 = .ok (.iconst 0, 1) := by decide +kernel
theorem dX2_passHour_5 : decode cX2_passHour 5 = .ok (.istore_n 1, 1) := by decide +kernel
theorem dX2_passHour_6 : decode cX2_passHour 6 = .ok (.iload_n 1, 1) := by decide +kernel
theorem dX2_passHour_7 : decode cX2_passHour 7 = .ok (.aload_n 0, 1) := by decide +kernel
theorem dX2_passHour_8 : decode cX2_passHour 8 = .ok (.getfield 46, 3) := by decide +kernel
theorem dX2_passHour_11 : decode cX2_passHour 11 = .ok (.if_icmp .ge 51, 3) := by decide +kernel
theorem dX2_passHour_14 : decode cX2_passHour 14 = .ok (.aload_n 0, 1) := by decide +kernel
theorem dX2_passHour_15 : decode cX2_passHour 15 = .ok (.iload_n 1, 1) := by decide +kernel
theorem dX2_passHour_16 : decode cX2_passHour 16 = .ok (.invokevirtual 164, 3) := by decide +kernel
theorem dX2_passHour_19 : decode cX2_passHour 19 = .ok (.istore_n 2, 1) := by decide +kernel
theorem dX2_passHour_20 : decode cX2_passHour 20 = .ok (.iconst 0, 1) := by decide +kernel
theorem dX2_passHour_21 : decode cX2_passHour 21 = .ok (.istore_n 3, 1) := by decide +kernel
theorem dX2_passHour_22 : decode cX2_passHour 22 = .ok (.iload_n 3, 1) := by decide +kernel
theorem dX2_passHour_23 : decode cX2_passHour 23 = .ok (.iload_n 2, 1) := by decide +kernel
theorem dX2_passHour_24 : decode cX2_passHour 24 = .ok (.if_icmp .ge 32, 3) := by decide +kernel
theorem dX2_passHour_27 : decode cX2_passHour 27 = .ok (.aload_n 0, 1) := by decide +kernel
theorem dX2_passHour_28 : decode cX2_passHour 28 = .ok (.aload_n 0, 1) := by decide +kernel
theorem dX2_passHour_29 : decode cX2_passHour 29 = .ok (.getfield 43, 3) := by decide +kernel
theorem dX2_passHour_32 : decode cX2_passHour 32 = .ok (.iload_n 3, 1) := by decide +kernel
theorem dX2_passHour_33 : decode cX2_passHour 33 = .ok (.iconst 0, 1) := by decide +kernel
theorem dX2_passHour_34 : decode cX2_passHour 34 = .ok (.invokevirtual 105, 3) := by decide +kernel
theorem dX2_passHour_37 : decode cX2_passHour 37 = .ok (.iload_n 1, 1) := by decide +kernel
theorem dX2_passHour_38 : decode cX2_passHour 38 = .ok (.aload_n 0, 1) := by decide +kernel
theorem dX2_passHour_39 : decode cX2_passHour 39 = .ok (.getfield 43, 3) := by decide +kernel
theorem dX2_passHour_42 : decode cX2_passHour 42 = .ok (.iload_n 3, 1) := by decide +kernel
theorem dX2_passHour_43 : decode cX2_passHour 43 = .ok (.iconst 1, 1) := by decide +kernel
theorem dX2_passHour_44 : decode cX2_passHour 44 = .ok (.invokevirtual 105, 3) := by decide +kernel
theorem dX2_passHour_47 : decode cX2_passHour 47 = .ok (.invokevirtual 176, 3) := by decide +kernel
theorem dX2_passHour_50 : decode cX2_passHour 50 = .ok (.iinc 3 1, 3) := by decide +kernel
theorem dX2_passHour_53 : decode cX2_passHour 53 = .ok (.goto (-31), 3) := by decide +kernel
theorem dX2_passHour_56 : decode cX2_passHour 56 = .ok (.iinc 1 1, 3) := by decide +kernel
theorem dX2_passHour_59 : decode cX2_passHour 59 = .ok (.goto (-53), 3) := by decide +kernel
theorem dX2_passHour_62 : decode cX2_passHour 62 = .ok (.aload_n 0, 1) := by decide +kernel
theorem dX2_passHour_63 : decode cX2_passHour 63 = .ok (.dup, 1) := by decide +kernel
theorem dX2_passHour_64 : decode cX2_passHour 64 = .ok (.getfield 56, 3) := by decide +kernel
theorem dX2_passHour_67 : decode cX2_passHour 67 = .ok (.iconst 1, 1) := by decide +kernel
theorem dX2_passHour_68 : decode cX2_passHour 68 = .ok (.iadd, 1) := by decide +kernel
theorem dX2_passHour_69 : decode cX2_passHour 69 = .ok (.putfield 56, 3) := by decide +kernel
theorem dX2_passHour_72 : decode cX2_passHour 72 = .ok (.return_, 1) := by decide +kernel
theorem dX2_expireCopies_0 : decode cX2_expireCopies 0 = .ok (.iconst 0, 1) := by decide +kernel
theorem dX2_expireCopies_1 : decode cX2_expireCopies 1 = .ok (.istore_n 1, 1) := by decide +kernel
theorem dX2_expireCopies_2 : decode cX2_expireCopies 2 = .ok (.iload_n 1, 1) := by decide +kernel
theorem dX2_expireCopies_3 : decode cX2_expireCopies 3 = .ok (.aload_n 0, 1) := by decide +kernel
theorem dX2_expireCopies_4 : decode cX2_expireCopies 4 = .ok (.getfield 53, 3) := by decide +kernel
theorem dX2_expireCopies_7 : decode cX2_expireCopies 7 = .ok (.if_icmp .ge 65, 3) := by decide +kernel
theorem dX2_expireCopies_10 : decode cX2_expireCopies 10 = .ok (.aload_n 0, 1) := by decide +kernel
theorem dX2_expireCopies_11 : decode cX2_expireCopies 11 = .ok (.getfield 56, 3) := by decide +kernel
theorem dX2_expireCopies_14 : decode cX2_expireCopies 14 = .ok (.aload_n 0, 1) := by decide +kernel
theorem dX2_expireCopies_15 : decode cX2_expireCopies 15 = .ok (.getfield 23, 3) := by decide +kernel
theorem dX2_expireCopies_18 : decode cX2_expireCopies 18 = .ok (.iload_n 1, 1) := by decide +kernel
theorem dX2_expireCopies_19 : decode cX2_expireCopies 19 = .ok (.iconst 3, 1) := by decide +kernel
theorem dX2_expireCopies_20 : decode cX2_expireCopies 20 = .ok (.invokevirtual 105, 3) := by decide +kernel
theorem dX2_expireCopies_23 : decode cX2_expireCopies 23 = .ok (.isub, 1) := by decide +kernel
theorem dX2_expireCopies_24 : decode cX2_expireCopies 24 = .ok (.aload_n 0, 1) := by decide +kernel
theorem dX2_expireCopies_25 : decode cX2_expireCopies 25 = .ok (.getfield 59, 3) := by decide +kernel
theorem dX2_expireCopies_28 : decode cX2_expireCopies 28 = .ok (.if_icmp .lt 38, 3) := by decide +kernel
theorem dX2_expireCopies_31 : decode cX2_expireCopies 31 = .ok (.iconst 0, 1) := by decide +kernel
theorem dX2_expireCopies_32 : decode cX2_expireCopies 32 = .ok (.istore_n 2, 1) := by decide +kernel
theorem dX2_expireCopies_33 : decode cX2_expireCopies 33 = .ok (.iload_n 2, 1) := by decide +kernel
theorem dX2_expireCopies_34 : decode cX2_expireCopies 34 = .ok (.aload_n 0, 1) := by decide +kernel
theorem dX2_expireCopies_35 : decode cX2_expireCopies 35 = .ok (.getfield 46, 3) := by decide +kernel
theorem dX2_expireCopies_38 : decode cX2_expireCopies 38 = .ok (.if_icmp .ge 28, 3) := by decide +kernel
theorem dX2_expireCopies_41 : decode cX2_expireCopies 41 = .ok (.aload_n 0, 1) := by decide +kernel
theorem dX2_expireCopies_42 : decode cX2_expireCopies 42 = .ok (.iload_n 1, 1) := by decide +kernel
theorem dX2_expireCopies_43 : decode cX2_expireCopies 43 = .ok (.iload_n 2, 1) := by decide +kernel
theorem dX2_expireCopies_44 : decode cX2_expireCopies 44 = .ok (.invokevirtual 167, 3) := by decide +kernel
theorem dX2_expireCopies_47 : decode cX2_expireCopies 47 = .ok (.ifCond .eq 13, 3) := by decide +kernel
theorem dX2_expireCopies_50 : decode cX2_expireCopies 50 = .ok (.aload_n 0, 1) := by decide +kernel
theorem dX2_expireCopies_51 : decode cX2_expireCopies 51 = .ok (.iload_n 1, 1) := by decide +kernel
theorem dX2_expireCopies_52 : decode cX2_expireCopies 52 = .ok (.iload_n 2, 1) := by decide +kernel
theorem dX2_expireCopies_53 : decode cX2_expireCopies 53 = .ok (.iconst (-1), 1) := by decide +kernel
theorem dX2_expireCopies_54 : decode cX2_expireCopies 54 = .ok (.iconst 4, 1) := by decide +kernel
theorem dX2_expireCopies_55 : decode cX2_expireCopies 55 = .ok (.bipush 7, 2) := by decide +kernel
theorem dX2_expireCopies_57 : decode cX2_expireCopies 57 = .ok (.invokevirtual 170, 3) := by decide +kernel
theorem dX2_expireCopies_60 : decode cX2_expireCopies 60 = .ok (.iinc 2 1, 3) := by decide +kernel
theorem dX2_expireCopies_63 : decode cX2_expireCopies 63 = .ok (.goto (-30), 3) := by decide +kernel
theorem dX2_expireCopies_66 : decode cX2_expireCopies 66 = .ok (.iinc 1 1, 3) := by decide +kernel
theorem dX2_expireCopies_69 : decode cX2_expireCopies 69 = .ok (.goto (-67), 3) := by decide +kernel
theorem dX2_expireCopies_72 : decode cX2_expireCopies 72 = .ok (.return_, 1) := by decide +kernel
theorem dX2_lineUp_0 : decode cX2_lineUp 0 = .ok (.aload_n 0, 1) := by decide +kernel
theorem dX2_lineUp_1 : decode cX2_lineUp 1 = .ok (.iload_n 1, 1) := by decide +kernel
theorem dX2_lineUp_2 : decode cX2_lineUp 2 = .ok (.aload_n 0, 1) := by decide +kernel
theorem dX2_lineUp_3 : decode cX2_lineUp 3 = .ok (.invokevirtual 118, 3) := by decide +kernel
theorem dX2_lineUp_6 : decode cX2_lineUp 6 = .ok (.invokevirtual 121, 3) := by decide +kernel
theorem dX2_lineUp_9 : decode cX2_lineUp 9 = .ok (.ifCond .ne 5, 3) := by decide +kernel
theorem dX2_lineUp_12 : decode cX2_lineUp 12 = .ok (.iconst 0, 1) := by decide +kernel
theorem dX2_lineUp_13 : decode cX2_lineUp 13 = .ok (.ireturn, 1) := by decide +kernel
theorem dX2_lineUp_14 : decode cX2_lineUp 14 = .ok (.aload_n 0, 1) := by decide +kernel
theorem dX2_lineUp_15 : decode cX2_lineUp 15 = .ok (.getfield 14, 3) := by decide +kernel
theorem dX2_lineUp_18 : decode cX2_lineUp 18 = .ok (.iload_n 1, 1) := by decide +kernel
theorem dX2_lineUp_19 : decode cX2_lineUp 19 = .ok (.iconst 2, 1) := by decide +kernel
theorem dX2_lineUp_20 : decode cX2_lineUp 20 = .ok (.invokevirtual 105, 3) := by decide +kernel
theorem dX2_lineUp_23 : decode cX2_lineUp 23 = .ok (.istore_n 2, 1) := by decide +kernel
theorem dX2_lineUp_24 : decode cX2_lineUp 24 = .ok (.iconst 0, 1) := by decide +kernel
theorem dX2_lineUp_25 : decode cX2_lineUp 25 = .ok (.istore_n 3, 1) := by decide +kernel
theorem dX2_lineUp_26 : decode cX2_lineUp 26 = .ok (.iconst 3, 1) := by decide +kernel
theorem dX2_lineUp_27 : decode cX2_lineUp 27 = .ok (.istore 4, 2) := by decide +kernel
theorem dX2_lineUp_29 : decode cX2_lineUp 29 = .ok (.iload 4, 2) := by decide +kernel
theorem dX2_lineUp_31 : decode cX2_lineUp 31 = .ok (.ifCond .lt 91, 3) := by decide +kernel
theorem dX2_lineUp_34 : decode cX2_lineUp 34 = .ok (.iconst 0, 1) := by decide +kernel
theorem dX2_lineUp_35 : decode cX2_lineUp 35 = .ok (.istore 5, 2) := by decide +kernel
theorem dX2_lineUp_37 : decode cX2_lineUp 37 = .ok (.iload 5, 2) := by decide +kernel
theorem dX2_lineUp_39 : decode cX2_lineUp 39 = .ok (.aload_n 0, 1) := by decide +kernel
theorem dX2_lineUp_40 : decode cX2_lineUp 40 = .ok (.getfield 53, 3) := by decide +kernel
theorem dX2_lineUp_43 : decode cX2_lineUp 43 = .ok (.if_icmp .ge 73, 3) := by decide +kernel
theorem dX2_lineUp_46 : decode cX2_lineUp 46 = .ok (.iload_n 3, 1) := by decide +kernel
theorem dX2_lineUp_47 : decode cX2_lineUp 47 = .ok (.iload_n 2, 1) := by decide +kernel
theorem dX2_lineUp_48 : decode cX2_lineUp 48 = .ok (.if_icmp .ge 68, 3) := by decide +kernel
theorem dX2_lineUp_51 : decode cX2_lineUp 51 = .ok (.aload_n 0, 1) := by decide +kernel
theorem dX2_lineUp_52 : decode cX2_lineUp 52 = .ok (.getfield 23, 3) := by decide +kernel
theorem dX2_lineUp_55 : decode cX2_lineUp 55 = .ok (.iload 5, 2) := by decide +kernel
theorem dX2_lineUp_57 : decode cX2_lineUp 57 = .ok (.iconst 2, 1) := by decide +kernel
theorem dX2_lineUp_58 : decode cX2_lineUp 58 = .ok (.invokevirtual 105, 3) := by decide +kernel
theorem dX2_lineUp_61 : decode cX2_lineUp 61 = .ok (.iload 4, 2) := by decide +kernel
theorem dX2_lineUp_63 : decode cX2_lineUp 63 = .ok (.if_icmp .ne 13, 3) := by decide +kernel
theorem dX2_lineUp_66 : decode cX2_lineUp 66 = .ok (.aload_n 0, 1) := by decide +kernel
theorem dX2_lineUp_67 : decode cX2_lineUp 67 = .ok (.iload 5, 2) := by decide +kernel
theorem dX2_lineUp_69 : decode cX2_lineUp 69 = .ok (.iload_n 1, 1) := by decide +kernel
theorem dX2_lineUp_70 : decode cX2_lineUp 70 = .ok (.invokevirtual 161, 3) := by decide +kernel
theorem dX2_lineUp_73 : decode cX2_lineUp 73 = .ok (.goto 4, 3) := by decide +kernel
theorem dX2_lineUp_76 : decode cX2_lineUp 76 = .ok (.iconst (-1), 1) := by decide +kernel
theorem dX2_lineUp_77 : decode cX2_lineUp 77 = .ok (.istore 6, 2) := by decide +kernel
theorem dX2_lineUp_79 : decode cX2_lineUp 79 = .ok (.iload 6, 2) := by decide +kernel
theorem dX2_lineUp_81 : decode cX2_lineUp 81 = .ok (.iconst (-1), 1) := by decide +kernel
theorem dX2_lineUp_82 : decode cX2_lineUp 82 = .ok (.if_icmp .eq 28, 3) := by decide +kernel
theorem dX2_lineUp_85 : decode cX2_lineUp 85 = .ok (.aload_n 0, 1) := by decide +kernel
theorem dX2_lineUp_86 : decode cX2_lineUp 86 = .ok (.getfield 43, 3) := by decide +kernel
theorem dX2_lineUp_89 : decode cX2_lineUp 89 = .ok (.iload_n 3, 1) := by decide +kernel
theorem dX2_lineUp_90 : decode cX2_lineUp 90 = .ok (.iconst 0, 1) := by decide +kernel
theorem dX2_lineUp_91 : decode cX2_lineUp 91 = .ok (.iload 5, 2) := by decide +kernel
theorem dX2_lineUp_93 : decode cX2_lineUp 93 = .ok (.invokevirtual 91, 3) := by decide +kernel
theorem dX2_lineUp_96 : decode cX2_lineUp 96 = .ok (.aload_n 0, 1) := by decide +kernel
theorem dX2_lineUp_97 : decode cX2_lineUp 97 = .ok (.getfield 43, 3) := by decide +kernel
theorem dX2_lineUp_100 : decode cX2_lineUp 100 = .ok (.iload_n 3, 1) := by decide +kernel
theorem dX2_lineUp_101 : decode cX2_lineUp 101 = .ok (.iconst 1, 1) := by decide +kernel
theorem dX2_lineUp_102 : decode cX2_lineUp 102 = .ok (.iload 6, 2) := by decide +kernel
theorem dX2_lineUp_104 : decode cX2_lineUp 104 = .ok (.invokevirtual 91, 3) := by decide +kernel
theorem dX2_lineUp_107 : decode cX2_lineUp 107 = .ok (.iinc 3 1, 3) := by decide +kernel
theorem dX2_lineUp_110 : decode cX2_lineUp 110 = .ok (.iinc 5 1, 3) := by decide +kernel
theorem dX2_lineUp_113 : decode cX2_lineUp 113 = .ok (.goto (-76), 3) := by decide +kernel
theorem dX2_lineUp_116 : decode cX2_lineUp 116 = .ok (.iinc 4 (-1), 3) := by decide +kernel
theorem dX2_lineUp_119 : decode cX2_lineUp 119 = .ok (.goto (-90), 3) := by decide +kernel
theorem dX2_lineUp_122 : decode cX2_lineUp 122 = .ok (.iload_n 3, 1) := by decide +kernel
theorem dX2_lineUp_123 : decode cX2_lineUp 123 = .ok (.ireturn, 1) := by decide +kernel
theorem dX2_nextOf_0 : decode cX2_nextOf 0 = .ok (.iload_n 1, 1) := by decide +kernel
theorem dX2_nextOf_1 : decode cX2_nextOf 1 = .ok (.iload_n 2, 1) := by decide +kernel
theorem dX2_nextOf_2 : decode cX2_nextOf 2 = .ok (.invokestatic 98, 3) := by decide +kernel
theorem dX2_nextOf_5 : decode cX2_nextOf 5 = .ok (.istore_n 3, 1) := by decide +kernel
theorem dX2_nextOf_6 : decode cX2_nextOf 6 = .ok (.aload_n 0, 1) := by decide +kernel
theorem dX2_nextOf_7 : decode cX2_nextOf 7 = .ok (.getfield 26, 3) := by decide +kernel
theorem dX2_nextOf_10 : decode cX2_nextOf 10 = .ok (.iload_n 3, 1) := by decide +kernel
theorem dX2_nextOf_11 : decode cX2_nextOf 11 = .ok (.iconst 0, 1) := by decide +kernel
theorem dX2_nextOf_12 : decode cX2_nextOf 12 = .ok (.invokevirtual 105, 3) := by decide +kernel
theorem dX2_nextOf_15 : decode cX2_nextOf 15 = .ok (.iconst 1, 1) := by decide +kernel
theorem dX2_nextOf_16 : decode cX2_nextOf 16 = .ok (.if_icmp .ne 19, 3) := by decide +kernel
theorem dX2_nextOf_19 : decode cX2_nextOf 19 = .ok (.aload_n 0, 1) := by decide +kernel
theorem dX2_nextOf_20 : decode cX2_nextOf 20 = .ok (.getfield 26, 3) := by decide +kernel
theorem dX2_nextOf_23 : decode cX2_nextOf 23 = .ok (.iload_n 3, 1) := by decide +kernel
theorem dX2_nextOf_24 : decode cX2_nextOf 24 = .ok (.iconst 2, 1) := by decide +kernel
theorem dX2_nextOf_25 : decode cX2_nextOf 25 = .ok (.invokevirtual 105, 3) := by decide +kernel
theorem dX2_nextOf_28 : decode cX2_nextOf 28 = .ok (.aload_n 0, 1) := by decide +kernel
theorem dX2_nextOf_29 : decode cX2_nextOf 29 = .ok (.getfield 56, 3) := by decide +kernel
theorem dX2_nextOf_32 : decode cX2_nextOf 32 = .ok (.if_icmp .le 5, 3) := by decide +kernel
theorem dX2_nextOf_35 : decode cX2_nextOf 35 = .ok (.iconst (-1), 1) := by decide +kernel
theorem dX2_nextOf_36 : decode cX2_nextOf 36 = .ok (.ireturn, 1) := by decide +kernel
theorem dX2_nextOf_37 : decode cX2_nextOf 37 = .ok (.aload_n 0, 1) := by decide +kernel
theorem dX2_nextOf_38 : decode cX2_nextOf 38 = .ok (.iload_n 3, 1) := by decide +kernel
theorem dX2_nextOf_39 : decode cX2_nextOf 39 = .ok (.invokevirtual 179, 3) := by decide +kernel
theorem dX2_nextOf_42 : decode cX2_nextOf 42 = .ok (.istore 4, 2) := by decide +kernel
theorem dX2_nextOf_44 : decode cX2_nextOf 44 = .ok (.aload_n 0, 1) := by decide +kernel
theorem dX2_nextOf_45 : decode cX2_nextOf 45 = .ok (.getfield 39, 3) := by decide +kernel
theorem dX2_nextOf_48 : decode cX2_nextOf 48 = .ok (.iload_n 2, 1) := by decide +kernel
theorem dX2_nextOf_49 : decode cX2_nextOf 49 = .ok (.aload_n 0, 1) := by decide +kernel
theorem dX2_nextOf_50 : decode cX2_nextOf 50 = .ok (.getfield 56, 3) := by decide +kernel
theorem dX2_nextOf_53 : decode cX2_nextOf 53 = .ok (.iload 4, 2) := by decide +kernel
theorem dX2_nextOf_55 : decode cX2_nextOf 55 = .ok (.invokevirtual 182, 3) := by decide +kernel
theorem dX2_nextOf_58 : decode cX2_nextOf 58 = .ok (.ifCond .ne 5, 3) := by decide +kernel
theorem dX2_nextOf_61 : decode cX2_nextOf 61 = .ok (.iconst (-1), 1) := by decide +kernel
theorem dX2_nextOf_62 : decode cX2_nextOf 62 = .ok (.ireturn, 1) := by decide +kernel
theorem dX2_nextOf_63 : decode cX2_nextOf 63 = .ok (.aload_n 0, 1) := by decide +kernel
theorem dX2_nextOf_64 : decode cX2_nextOf 64 = .ok (.getfield 39, 3) := by decide +kernel
theorem dX2_nextOf_67 : decode cX2_nextOf 67 = .ok (.iload_n 2, 1) := by decide +kernel
theorem dX2_nextOf_68 : decode cX2_nextOf 68 = .ok (.aload_n 0, 1) := by decide +kernel
theorem dX2_nextOf_69 : decode cX2_nextOf 69 = .ok (.getfield 23, 3) := by decide +kernel
theorem dX2_nextOf_72 : decode cX2_nextOf 72 = .ok (.iload_n 1, 1) := by decide +kernel
theorem dX2_nextOf_73 : decode cX2_nextOf 73 = .ok (.iconst 1, 1) := by decide +kernel
theorem dX2_nextOf_74 : decode cX2_nextOf 74 = .ok (.invokevirtual 105, 3) := by decide +kernel
theorem dX2_nextOf_77 : decode cX2_nextOf 77 = .ok (.aload_n 0, 1) := by decide +kernel
theorem dX2_nextOf_78 : decode cX2_nextOf 78 = .ok (.getfield 56, 3) := by decide +kernel
theorem dX2_nextOf_81 : decode cX2_nextOf 81 = .ok (.iload 4, 2) := by decide +kernel
theorem dX2_nextOf_83 : decode cX2_nextOf 83 = .ok (.invokevirtual 141, 3) := by decide +kernel
theorem dX2_nextOf_86 : decode cX2_nextOf 86 = .ok (.ifCond .eq 13, 3) := by decide +kernel
theorem dX2_nextOf_89 : decode cX2_nextOf 89 = .ok (.aload_n 0, 1) := by decide +kernel
theorem dX2_nextOf_90 : decode cX2_nextOf 90 = .ok (.getfield 39, 3) := by decide +kernel
theorem dX2_nextOf_93 : decode cX2_nextOf 93 = .ok (.invokevirtual 151, 3) := by decide +kernel
theorem dX2_nextOf_96 : decode cX2_nextOf 96 = .ok (.goto 4, 3) := by decide +kernel
theorem dX2_nextOf_99 : decode cX2_nextOf 99 = .ok (.iconst (-1), 1) := by decide +kernel
theorem dX2_nextOf_100 : decode cX2_nextOf 100 = .ok (.ireturn, 1) := by decide +kernel
theorem dX2_sendFrame_0 : decode cX2_sendFrame 0 = .ok (.aload_n 0, 1) := by decide +kernel
theorem dX2_sendFrame_1 : decode cX2_sendFrame 1 = .ok (.iload_n 2, 1) := by decide +kernel
theorem dX2_sendFrame_2 : decode cX2_sendFrame 2 = .ok (.iload_n 3, 1) := by decide +kernel
theorem dX2_sendFrame_3 : decode cX2_sendFrame 3 = .ok (.invokevirtual 186, 3) := by decide +kernel
theorem dX2_sendFrame_6 : decode cX2_sendFrame 6 = .ok (.istore 4, 2) := by decide +kernel
theorem dX2_sendFrame_8 : decode cX2_sendFrame 8 = .ok (.aload_n 0, 1) := by decide +kernel
theorem dX2_sendFrame_9 : decode cX2_sendFrame 9 = .ok (.getfield 20, 3) := by decide +kernel
theorem dX2_sendFrame_12 : decode cX2_sendFrame 12 = .ok (.iload 4, 2) := by decide +kernel
theorem dX2_sendFrame_14 : decode cX2_sendFrame 14 = .ok (.iconst 4, 1) := by decide +kernel
theorem dX2_sendFrame_15 : decode cX2_sendFrame 15 = .ok (.invokevirtual 105, 3) := by decide +kernel
theorem dX2_sendFrame_18 : decode cX2_sendFrame 18 = .ok (.istore 5, 2) := by decide +kernel
theorem dX2_sendFrame_20 : decode cX2_sendFrame 20 = .ok (.aload_n 0, 1) := by decide +kernel
theorem dX2_sendFrame_21 : decode cX2_sendFrame 21 = .ok (.getfield 14, 3) := by decide +kernel
theorem dX2_sendFrame_24 : decode cX2_sendFrame 24 = .ok (.iload_n 2, 1) := by decide +kernel
theorem dX2_sendFrame_25 : decode cX2_sendFrame 25 = .ok (.iconst 5, 1) := by decide +kernel
theorem dX2_sendFrame_26 : decode cX2_sendFrame 26 = .ok (.iconst 1, 1) := by decide +kernel
theorem dX2_sendFrame_27 : decode cX2_sendFrame 27 = .ok (.invokevirtual 189, 3) := by decide +kernel
theorem dX2_sendFrame_30 : decode cX2_sendFrame 30 = .ok (.aload_n 0, 1) := by decide +kernel
theorem dX2_sendFrame_31 : decode cX2_sendFrame 31 = .ok (.getfield 20, 3) := by decide +kernel
theorem dX2_sendFrame_34 : decode cX2_sendFrame 34 = .ok (.iload 4, 2) := by decide +kernel
theorem dX2_sendFrame_36 : decode cX2_sendFrame 36 = .ok (.bipush 6, 2) := by decide +kernel
theorem dX2_sendFrame_38 : decode cX2_sendFrame 38 = .ok (.iconst 1, 1) := by decide +kernel
theorem dX2_sendFrame_39 : decode cX2_sendFrame 39 = .ok (.invokevirtual 189, 3) := by decide +kernel
theorem dX2_sendFrame_42 : decode cX2_sendFrame 42 = .ok (.aload_n 0, 1) := by decide +kernel
theorem dX2_sendFrame_43 : decode cX2_sendFrame 43 = .ok (.getfield 23, 3) := by decide +kernel
theorem dX2_sendFrame_46 : decode cX2_sendFrame 46 = .ok (.iload_n 1, 1) := by decide +kernel
theorem dX2_sendFrame_47 : decode cX2_sendFrame 47 = .ok (.bipush 7, 2) := by decide +kernel
theorem dX2_sendFrame_49 : decode cX2_sendFrame 49 = .ok (.iconst 1, 1) := by decide +kernel
theorem dX2_sendFrame_50 : decode cX2_sendFrame 50 = .ok (.invokevirtual 189, 3) := by decide +kernel
theorem dX2_sendFrame_53 : decode cX2_sendFrame 53 = .ok (.aload_n 0, 1) := by decide +kernel
theorem dX2_sendFrame_54 : decode cX2_sendFrame 54 = .ok (.invokevirtual 191, 3) := by decide +kernel
theorem dX2_sendFrame_57 : decode cX2_sendFrame 57 = .ok (.iload 5, 2) := by decide +kernel
theorem dX2_sendFrame_59 : decode cX2_sendFrame 59 = .ok (.if_icmp .lt 38, 3) := by decide +kernel
theorem dX2_sendFrame_62 : decode cX2_sendFrame 62 = .ok (.aload_n 0, 1) := by decide +kernel
theorem dX2_sendFrame_63 : decode cX2_sendFrame 63 = .ok (.getfield 20, 3) := by decide +kernel
theorem dX2_sendFrame_66 : decode cX2_sendFrame 66 = .ok (.iload 4, 2) := by decide +kernel
theorem dX2_sendFrame_68 : decode cX2_sendFrame 68 = .ok (.bipush 7, 2) := by decide +kernel
theorem dX2_sendFrame_70 : decode cX2_sendFrame 70 = .ok (.iconst 1, 1) := by decide +kernel
theorem dX2_sendFrame_71 : decode cX2_sendFrame 71 = .ok (.invokevirtual 189, 3) := by decide +kernel
theorem dX2_sendFrame_74 : decode cX2_sendFrame 74 = .ok (.aload_n 0, 1) := by decide +kernel
theorem dX2_sendFrame_75 : decode cX2_sendFrame 75 = .ok (.getfield 32, 3) := by decide +kernel
theorem dX2_sendFrame_78 : decode cX2_sendFrame 78 = .ok (.aload_n 0, 1) := by decide +kernel
theorem dX2_sendFrame_79 : decode cX2_sendFrame 79 = .ok (.getfield 56, 3) := by decide +kernel
theorem dX2_sendFrame_82 : decode cX2_sendFrame 82 = .ok (.iconst 2, 1) := by decide +kernel
theorem dX2_sendFrame_83 : decode cX2_sendFrame 83 = .ok (.iload_n 1, 1) := by decide +kernel
theorem dX2_sendFrame_84 : decode cX2_sendFrame 84 = .ok (.iload_n 2, 1) := by decide +kernel
theorem dX2_sendFrame_85 : decode cX2_sendFrame 85 = .ok (.iload_n 3, 1) := by decide +kernel
theorem dX2_sendFrame_86 : decode cX2_sendFrame 86 = .ok (.invokevirtual 101, 3) := by decide +kernel
theorem dX2_sendFrame_89 : decode cX2_sendFrame 89 = .ok (.aload_n 0, 1) := by decide +kernel
theorem dX2_sendFrame_90 : decode cX2_sendFrame 90 = .ok (.iload_n 1, 1) := by decide +kernel
theorem dX2_sendFrame_91 : decode cX2_sendFrame 91 = .ok (.iload_n 2, 1) := by decide +kernel
theorem dX2_sendFrame_92 : decode cX2_sendFrame 92 = .ok (.iload_n 3, 1) := by decide +kernel
theorem dX2_sendFrame_93 : decode cX2_sendFrame 93 = .ok (.invokevirtual 194, 3) := by decide +kernel
theorem dX2_sendFrame_96 : decode cX2_sendFrame 96 = .ok (.return_, 1) := by decide +kernel
theorem dX2_sendFrame_97 : decode cX2_sendFrame 97 = .ok (.aload_n 0, 1) := by decide +kernel
theorem dX2_sendFrame_98 : decode cX2_sendFrame 98 = .ok (.iload_n 1, 1) := by decide +kernel
theorem dX2_sendFrame_99 : decode cX2_sendFrame 99 = .ok (.iload_n 2, 1) := by decide +kernel
theorem dX2_sendFrame_100 : decode cX2_sendFrame 100 = .ok (.iload_n 3, 1) := by decide +kernel
theorem dX2_sendFrame_101 : decode cX2_sendFrame 101 = .ok (.invokevirtual 197, 3) := by decide +kernel
theorem dX2_sendFrame_104 : decode cX2_sendFrame 104 = .ok (.aload_n 0, 1) := by decide +kernel
theorem dX2_sendFrame_105 : decode cX2_sendFrame 105 = .ok (.invokevirtual 191, 3) := by decide +kernel
theorem dX2_sendFrame_108 : decode cX2_sendFrame 108 = .ok (.iload 5, 2) := by decide +kernel
theorem dX2_sendFrame_110 : decode cX2_sendFrame 110 = .ok (.if_icmp .lt 38, 3) := by decide +kernel
theorem dX2_sendFrame_113 : decode cX2_sendFrame 113 = .ok (.aload_n 0, 1) := by decide +kernel
theorem dX2_sendFrame_114 : decode cX2_sendFrame 114 = .ok (.getfield 20, 3) := by decide +kernel
theorem dX2_sendFrame_117 : decode cX2_sendFrame 117 = .ok (.iload 4, 2) := by decide +kernel
theorem dX2_sendFrame_119 : decode cX2_sendFrame 119 = .ok (.bipush 8, 2) := by decide +kernel
theorem dX2_sendFrame_121 : decode cX2_sendFrame 121 = .ok (.iconst 1, 1) := by decide +kernel
theorem dX2_sendFrame_122 : decode cX2_sendFrame 122 = .ok (.invokevirtual 189, 3) := by decide +kernel
theorem dX2_sendFrame_125 : decode cX2_sendFrame 125 = .ok (.aload_n 0, 1) := by decide +kernel
theorem dX2_sendFrame_126 : decode cX2_sendFrame 126 = .ok (.getfield 32, 3) := by decide +kernel
theorem dX2_sendFrame_129 : decode cX2_sendFrame 129 = .ok (.aload_n 0, 1) := by decide +kernel
theorem dX2_sendFrame_130 : decode cX2_sendFrame 130 = .ok (.getfield 56, 3) := by decide +kernel
theorem dX2_sendFrame_133 : decode cX2_sendFrame 133 = .ok (.iconst 3, 1) := by decide +kernel
theorem dX2_sendFrame_134 : decode cX2_sendFrame 134 = .ok (.iload_n 1, 1) := by decide +kernel
theorem dX2_sendFrame_135 : decode cX2_sendFrame 135 = .ok (.iload_n 2, 1) := by decide +kernel
theorem dX2_sendFrame_136 : decode cX2_sendFrame 136 = .ok (.iload_n 3, 1) := by decide +kernel
theorem dX2_sendFrame_137 : decode cX2_sendFrame 137 = .ok (.invokevirtual 101, 3) := by decide +kernel
theorem dX2_sendFrame_140 : decode cX2_sendFrame 140 = .ok (.aload_n 0, 1) := by decide +kernel
theorem dX2_sendFrame_141 : decode cX2_sendFrame 141 = .ok (.iload_n 1, 1) := by decide +kernel
theorem dX2_sendFrame_142 : decode cX2_sendFrame 142 = .ok (.iload_n 2, 1) := by decide +kernel
theorem dX2_sendFrame_143 : decode cX2_sendFrame 143 = .ok (.iload_n 3, 1) := by decide +kernel
theorem dX2_sendFrame_144 : decode cX2_sendFrame 144 = .ok (.invokevirtual 194, 3) := by decide +kernel
theorem dX2_sendFrame_147 : decode cX2_sendFrame 147 = .ok (.return_, 1) := by decide +kernel
theorem dX2_sendFrame_148 : decode cX2_sendFrame 148 = .ok (.aload_n 0, 1) := by decide +kernel
theorem dX2_sendFrame_149 : decode cX2_sendFrame 149 = .ok (.getfield 26, 3) := by decide +kernel
theorem dX2_sendFrame_152 : decode cX2_sendFrame 152 = .ok (.iload_n 1, 1) := by decide +kernel
theorem dX2_sendFrame_153 : decode cX2_sendFrame 153 = .ok (.iload_n 2, 1) := by decide +kernel
theorem dX2_sendFrame_154 : decode cX2_sendFrame 154 = .ok (.invokestatic 98, 3) := by decide +kernel
theorem dX2_sendFrame_157 : decode cX2_sendFrame 157 = .ok (.iconst 0, 1) := by decide +kernel
theorem dX2_sendFrame_158 : decode cX2_sendFrame 158 = .ok (.iconst 2, 1) := by decide +kernel
theorem dX2_sendFrame_159 : decode cX2_sendFrame 159 = .ok (.invokevirtual 91, 3) := by decide +kernel
theorem dX2_sendFrame_162 : decode cX2_sendFrame 162 = .ok (.aload_n 0, 1) := by decide +kernel
theorem dX2_sendFrame_163 : decode cX2_sendFrame 163 = .ok (.getfield 32, 3) := by decide +kernel
theorem dX2_sendFrame_166 : decode cX2_sendFrame 166 = .ok (.aload_n 0, 1) := by decide +kernel
theorem dX2_sendFrame_167 : decode cX2_sendFrame 167 = .ok (.getfield 56, 3) := by decide +kernel
theorem dX2_sendFrame_170 : decode cX2_sendFrame 170 = .ok (.iconst 1, 1) := by decide +kernel
theorem dX2_sendFrame_171 : decode cX2_sendFrame 171 = .ok (.iload_n 1, 1) := by decide +kernel
theorem dX2_sendFrame_172 : decode cX2_sendFrame 172 = .ok (.iload_n 2, 1) := by decide +kernel
theorem dX2_sendFrame_173 : decode cX2_sendFrame 173 = .ok (.iload_n 3, 1) := by decide +kernel
theorem dX2_sendFrame_174 : decode cX2_sendFrame 174 = .ok (.invokevirtual 101, 3) := by decide +kernel
theorem dX2_sendFrame_177 : decode cX2_sendFrame 177 = .ok (.return_, 1) := by decide +kernel
theorem dX2_takeFrame_0 : decode cX2_takeFrame 0 = .ok (.aload_n 0, 1) := by decide +kernel
theorem dX2_takeFrame_1 : decode cX2_takeFrame 1 = .ok (.getfield 14, 3) := by decide +kernel
theorem dX2_takeFrame_4 : decode cX2_takeFrame 4 = .ok (.iload_n 3, 1) := by decide +kernel
theorem dX2_takeFrame_5 : decode cX2_takeFrame 5 = .ok (.bipush 6, 2) := by decide +kernel
theorem dX2_takeFrame_7 : decode cX2_takeFrame 7 = .ok (.iconst 1, 1) := by decide +kernel
theorem dX2_takeFrame_8 : decode cX2_takeFrame 8 = .ok (.invokevirtual 189, 3) := by decide +kernel
theorem dX2_takeFrame_11 : decode cX2_takeFrame 11 = .ok (.iload_n 1, 1) := by decide +kernel
theorem dX2_takeFrame_12 : decode cX2_takeFrame 12 = .ok (.iload_n 3, 1) := by decide +kernel
theorem dX2_takeFrame_13 : decode cX2_takeFrame 13 = .ok (.invokestatic 98, 3) := by decide +kernel
theorem dX2_takeFrame_16 : decode cX2_takeFrame 16 = .ok (.istore 4, 2) := by decide +kernel
theorem dX2_takeFrame_18 : decode cX2_takeFrame 18 = .ok (.aload_n 0, 1) := by decide +kernel
theorem dX2_takeFrame_19 : decode cX2_takeFrame 19 = .ok (.getfield 26, 3) := by decide +kernel
theorem dX2_takeFrame_22 : decode cX2_takeFrame 22 = .ok (.iload 4, 2) := by decide +kernel
theorem dX2_takeFrame_24 : decode cX2_takeFrame 24 = .ok (.iconst 0, 1) := by decide +kernel
theorem dX2_takeFrame_25 : decode cX2_takeFrame 25 = .ok (.invokevirtual 105, 3) := by decide +kernel
theorem dX2_takeFrame_28 : decode cX2_takeFrame 28 = .ok (.ifCond .eq 41, 3) := by decide +kernel
theorem dX2_takeFrame_31 : decode cX2_takeFrame 31 = .ok (.aload_n 0, 1) := by decide +kernel
theorem dX2_takeFrame_32 : decode cX2_takeFrame 32 = .ok (.getfield 14, 3) := by decide +kernel
theorem dX2_takeFrame_35 : decode cX2_takeFrame 35 = .ok (.iload_n 3, 1) := by decide +kernel
theorem dX2_takeFrame_36 : decode cX2_takeFrame 36 = .ok (.bipush 7, 2) := by decide +kernel
theorem dX2_takeFrame_38 : decode cX2_takeFrame 38 = .ok (.iconst 1, 1) := by decide +kernel
theorem dX2_takeFrame_39 : decode cX2_takeFrame 39 = .ok (.invokevirtual 189, 3) := by decide +kernel
theorem dX2_takeFrame_42 : decode cX2_takeFrame 42 = .ok (.aload_n 0, 1) := by decide +kernel
theorem dX2_takeFrame_43 : decode cX2_takeFrame 43 = .ok (.getfield 23, 3) := by decide +kernel
theorem dX2_takeFrame_46 : decode cX2_takeFrame 46 = .ok (.iload_n 1, 1) := by decide +kernel
theorem dX2_takeFrame_47 : decode cX2_takeFrame 47 = .ok (.bipush 8, 2) := by decide +kernel
theorem dX2_takeFrame_49 : decode cX2_takeFrame 49 = .ok (.iconst 1, 1) := by decide +kernel
theorem dX2_takeFrame_50 : decode cX2_takeFrame 50 = .ok (.invokevirtual 189, 3) := by decide +kernel
theorem dX2_takeFrame_53 : decode cX2_takeFrame 53 = .ok (.aload_n 0, 1) := by decide +kernel
theorem dX2_takeFrame_54 : decode cX2_takeFrame 54 = .ok (.getfield 32, 3) := by decide +kernel
theorem dX2_takeFrame_57 : decode cX2_takeFrame 57 = .ok (.aload_n 0, 1) := by decide +kernel
theorem dX2_takeFrame_58 : decode cX2_takeFrame 58 = .ok (.getfield 56, 3) := by decide +kernel
theorem dX2_takeFrame_61 : decode cX2_takeFrame 61 = .ok (.iconst 4, 1) := by decide +kernel
theorem dX2_takeFrame_62 : decode cX2_takeFrame 62 = .ok (.iload_n 1, 1) := by decide +kernel
theorem dX2_takeFrame_63 : decode cX2_takeFrame 63 = .ok (.iload_n 3, 1) := by decide +kernel
theorem dX2_takeFrame_64 : decode cX2_takeFrame 64 = .ok (.iload_n 2, 1) := by decide +kernel
theorem dX2_takeFrame_65 : decode cX2_takeFrame 65 = .ok (.invokevirtual 101, 3) := by decide +kernel
theorem dX2_takeFrame_68 : decode cX2_takeFrame 68 = .ok (.return_, 1) := by decide +kernel
theorem dX2_takeFrame_69 : decode cX2_takeFrame 69 = .ok (.iload_n 1, 1) := by decide +kernel
theorem dX2_takeFrame_70 : decode cX2_takeFrame 70 = .ok (.iload_n 2, 1) := by decide +kernel
theorem dX2_takeFrame_71 : decode cX2_takeFrame 71 = .ok (.invokestatic 98, 3) := by decide +kernel
theorem dX2_takeFrame_74 : decode cX2_takeFrame 74 = .ok (.istore 5, 2) := by decide +kernel
theorem dX2_takeFrame_76 : decode cX2_takeFrame 76 = .ok (.aload_n 0, 1) := by decide +kernel
theorem dX2_takeFrame_77 : decode cX2_takeFrame 77 = .ok (.getfield 26, 3) := by decide +kernel
theorem dX2_takeFrame_80 : decode cX2_takeFrame 80 = .ok (.iload 5, 2) := by decide +kernel
theorem dX2_takeFrame_82 : decode cX2_takeFrame 82 = .ok (.iconst 3, 1) := by decide +kernel
theorem dX2_takeFrame_83 : decode cX2_takeFrame 83 = .ok (.invokevirtual 105, 3) := by decide +kernel
theorem dX2_takeFrame_86 : decode cX2_takeFrame 86 = .ok (.istore 6, 2) := by decide +kernel
theorem dX2_takeFrame_88 : decode cX2_takeFrame 88 = .ok (.aload_n 0, 1) := by decide +kernel
theorem dX2_takeFrame_89 : decode cX2_takeFrame 89 = .ok (.getfield 23, 3) := by decide +kernel
theorem dX2_takeFrame_92 : decode cX2_takeFrame 92 = .ok (.iload_n 1, 1) := by decide +kernel
theorem dX2_takeFrame_93 : decode cX2_takeFrame 93 = .ok (.iconst 1, 1) := by decide +kernel
theorem dX2_takeFrame_94 : decode cX2_takeFrame 94 = .ok (.invokevirtual 105, 3) := by decide +kernel
theorem dX2_takeFrame_97 : decode cX2_takeFrame 97 = .ok (.iload_n 3, 1) := by decide +kernel
theorem dX2_takeFrame_98 : decode cX2_takeFrame 98 = .ok (.if_icmp .ne 7, 3) := by decide +kernel
theorem dX2_takeFrame_101 : decode cX2_takeFrame 101 = .ok (.iconst 1, 1) := by decide +kernel
theorem dX2_takeFrame_102 : decode cX2_takeFrame 102 = .ok (.goto 4, 3) := by decide +kernel
theorem dX2_takeFrame_105 : decode cX2_takeFrame 105 = .ok (.iconst 0, 1) := by decide +kernel
theorem dX2_takeFrame_106 : decode cX2_takeFrame 106 = .ok (.istore 7, 2) := by decide +kernel
theorem dX2_takeFrame_108 : decode cX2_takeFrame 108 = .ok (.aload_n 0, 1) := by decide +kernel
theorem dX2_takeFrame_109 : decode cX2_takeFrame 109 = .ok (.getfield 26, 3) := by decide +kernel
theorem dX2_takeFrame_112 : decode cX2_takeFrame 112 = .ok (.iload 4, 2) := by decide +kernel
theorem dX2_takeFrame_114 : decode cX2_takeFrame 114 = .ok (.iconst 0, 1) := by decide +kernel
theorem dX2_takeFrame_115 : decode cX2_takeFrame 115 = .ok (.iload 7, 2) := by decide +kernel
theorem dX2_takeFrame_117 : decode cX2_takeFrame 117 = .ok (.ifCond .eq 7, 3) := by decide +kernel
theorem dX2_takeFrame_120 : decode cX2_takeFrame 120 = .ok (.iconst 5, 1) := by decide +kernel
theorem dX2_takeFrame_121 : decode cX2_takeFrame 121 = .ok (.goto 4, 3) := by decide +kernel
theorem dX2_takeFrame_124 : decode cX2_takeFrame 124 = .ok (.iconst 1, 1) := by decide +kernel
theorem dX2_takeFrame_125 : decode cX2_takeFrame 125 = .ok (.invokevirtual 91, 3) := by decide +kernel
theorem dX2_takeFrame_128 : decode cX2_takeFrame 128 = .ok (.aload_n 0, 1) := by decide +kernel
theorem dX2_takeFrame_129 : decode cX2_takeFrame 129 = .ok (.getfield 26, 3) := by decide +kernel
theorem dX2_takeFrame_132 : decode cX2_takeFrame 132 = .ok (.iload 4, 2) := by decide +kernel
theorem dX2_takeFrame_134 : decode cX2_takeFrame 134 = .ok (.iconst 1, 1) := by decide +kernel
theorem dX2_takeFrame_135 : decode cX2_takeFrame 135 = .ok (.iconst 0, 1) := by decide +kernel
theorem dX2_takeFrame_136 : decode cX2_takeFrame 136 = .ok (.invokevirtual 91, 3) := by decide +kernel
theorem dX2_takeFrame_139 : decode cX2_takeFrame 139 = .ok (.aload_n 0, 1) := by decide +kernel
theorem dX2_takeFrame_140 : decode cX2_takeFrame 140 = .ok (.getfield 26, 3) := by decide +kernel
theorem dX2_takeFrame_143 : decode cX2_takeFrame 143 = .ok (.iload 4, 2) := by decide +kernel
theorem dX2_takeFrame_145 : decode cX2_takeFrame 145 = .ok (.iconst 2, 1) := by decide +kernel
theorem dX2_takeFrame_146 : decode cX2_takeFrame 146 = .ok (.aload_n 0, 1) := by decide +kernel
theorem dX2_takeFrame_147 : decode cX2_takeFrame 147 = .ok (.getfield 56, 3) := by decide +kernel
theorem dX2_takeFrame_150 : decode cX2_takeFrame 150 = .ok (.iconst 1, 1) := by decide +kernel
theorem dX2_takeFrame_151 : decode cX2_takeFrame 151 = .ok (.iadd, 1) := by decide +kernel
theorem dX2_takeFrame_152 : decode cX2_takeFrame 152 = .ok (.invokevirtual 91, 3) := by decide +kernel
theorem dX2_takeFrame_155 : decode cX2_takeFrame 155 = .ok (.aload_n 0, 1) := by decide +kernel
theorem dX2_takeFrame_156 : decode cX2_takeFrame 156 = .ok (.getfield 26, 3) := by decide +kernel
theorem dX2_takeFrame_159 : decode cX2_takeFrame 159 = .ok (.iload 4, 2) := by decide +kernel
theorem dX2_takeFrame_161 : decode cX2_takeFrame 161 = .ok (.iconst 3, 1) := by decide +kernel
theorem dX2_takeFrame_162 : decode cX2_takeFrame 162 = .ok (.iload 6, 2) := by decide +kernel
theorem dX2_takeFrame_164 : decode cX2_takeFrame 164 = .ok (.iconst 1, 1) := by decide +kernel
theorem dX2_takeFrame_165 : decode cX2_takeFrame 165 = .ok (.iadd, 1) := by decide +kernel
theorem dX2_takeFrame_166 : decode cX2_takeFrame 166 = .ok (.invokevirtual 91, 3) := by decide +kernel
theorem dX2_takeFrame_169 : decode cX2_takeFrame 169 = .ok (.aload_n 0, 1) := by decide +kernel
theorem dX2_takeFrame_170 : decode cX2_takeFrame 170 = .ok (.getfield 26, 3) := by decide +kernel
theorem dX2_takeFrame_173 : decode cX2_takeFrame 173 = .ok (.iload 4, 2) := by decide +kernel
theorem dX2_takeFrame_175 : decode cX2_takeFrame 175 = .ok (.iconst 4, 1) := by decide +kernel
theorem dX2_takeFrame_176 : decode cX2_takeFrame 176 = .ok (.aload_n 0, 1) := by decide +kernel
theorem dX2_takeFrame_177 : decode cX2_takeFrame 177 = .ok (.getfield 26, 3) := by decide +kernel
theorem dX2_takeFrame_180 : decode cX2_takeFrame 180 = .ok (.iload 5, 2) := by decide +kernel
theorem dX2_takeFrame_182 : decode cX2_takeFrame 182 = .ok (.iconst 4, 1) := by decide +kernel
theorem dX2_takeFrame_183 : decode cX2_takeFrame 183 = .ok (.invokevirtual 105, 3) := by decide +kernel
theorem dX2_takeFrame_186 : decode cX2_takeFrame 186 = .ok (.iload_n 3, 1) := by decide +kernel
theorem dX2_takeFrame_187 : decode cX2_takeFrame 187 = .ok (.iload 6, 2) := by decide +kernel
theorem dX2_takeFrame_189 : decode cX2_takeFrame 189 = .ok (.iconst 3, 1) := by decide +kernel
theorem dX2_takeFrame_190 : decode cX2_takeFrame 190 = .ok (.imul, 1) := by decide +kernel
theorem dX2_takeFrame_191 : decode cX2_takeFrame 191 = .ok (.ishl, 1) := by decide +kernel
theorem dX2_takeFrame_192 : decode cX2_takeFrame 192 = .ok (.ior, 1) := by decide +kernel
theorem dX2_takeFrame_193 : decode cX2_takeFrame 193 = .ok (.invokevirtual 91, 3) := by decide +kernel
theorem dX2_takeFrame_196 : decode cX2_takeFrame 196 = .ok (.iload 7, 2) := by decide +kernel
theorem dX2_takeFrame_198 : decode cX2_takeFrame 198 = .ok (.ifCond .eq 56, 3) := by decide +kernel
theorem dX2_takeFrame_201 : decode cX2_takeFrame 201 = .ok (.aload_n 0, 1) := by decide +kernel
theorem dX2_takeFrame_202 : decode cX2_takeFrame 202 = .ok (.getfield 23, 3) := by decide +kernel
theorem dX2_takeFrame_205 : decode cX2_takeFrame 205 = .ok (.iload_n 1, 1) := by decide +kernel
theorem dX2_takeFrame_206 : decode cX2_takeFrame 206 = .ok (.iconst 5, 1) := by decide +kernel
theorem dX2_takeFrame_207 : decode cX2_takeFrame 207 = .ok (.aload_n 0, 1) := by decide +kernel
theorem dX2_takeFrame_208 : decode cX2_takeFrame 208 = .ok (.getfield 56, 3) := by decide +kernel
theorem dX2_takeFrame_211 : decode cX2_takeFrame 211 = .ok (.iconst 1, 1) := by decide +kernel
theorem dX2_takeFrame_212 : decode cX2_takeFrame 212 = .ok (.iadd, 1) := by decide +kernel
theorem dX2_takeFrame_213 : decode cX2_takeFrame 213 = .ok (.invokevirtual 91, 3) := by decide +kernel
theorem dX2_takeFrame_216 : decode cX2_takeFrame 216 = .ok (.aload_n 0, 1) := by decide +kernel
theorem dX2_takeFrame_217 : decode cX2_takeFrame 217 = .ok (.getfield 23, 3) := by decide +kernel
theorem dX2_takeFrame_220 : decode cX2_takeFrame 220 = .ok (.iload_n 1, 1) := by decide +kernel
theorem dX2_takeFrame_221 : decode cX2_takeFrame 221 = .ok (.bipush 6, 2) := by decide +kernel
theorem dX2_takeFrame_223 : decode cX2_takeFrame 223 = .ok (.iload 6, 2) := by decide +kernel
theorem dX2_takeFrame_225 : decode cX2_takeFrame 225 = .ok (.invokevirtual 91, 3) := by decide +kernel
theorem dX2_takeFrame_228 : decode cX2_takeFrame 228 = .ok (.aload_n 0, 1) := by decide +kernel
theorem dX2_takeFrame_229 : decode cX2_takeFrame 229 = .ok (.getfield 14, 3) := by decide +kernel
theorem dX2_takeFrame_232 : decode cX2_takeFrame 232 = .ok (.iload_n 3, 1) := by decide +kernel
theorem dX2_takeFrame_233 : decode cX2_takeFrame 233 = .ok (.bipush 8, 2) := by decide +kernel
theorem dX2_takeFrame_235 : decode cX2_takeFrame 235 = .ok (.iconst 1, 1) := by decide +kernel
theorem dX2_takeFrame_236 : decode cX2_takeFrame 236 = .ok (.invokevirtual 189, 3) := by decide +kernel
theorem dX2_takeFrame_239 : decode cX2_takeFrame 239 = .ok (.aload_n 0, 1) := by decide +kernel
theorem dX2_takeFrame_240 : decode cX2_takeFrame 240 = .ok (.getfield 32, 3) := by decide +kernel
theorem dX2_takeFrame_243 : decode cX2_takeFrame 243 = .ok (.aload_n 0, 1) := by decide +kernel
theorem dX2_takeFrame_244 : decode cX2_takeFrame 244 = .ok (.getfield 56, 3) := by decide +kernel
theorem dX2_takeFrame_247 : decode cX2_takeFrame 247 = .ok (.iconst 5, 1) := by decide +kernel
theorem dX2_takeFrame_248 : decode cX2_takeFrame 248 = .ok (.iload_n 1, 1) := by decide +kernel
theorem dX2_takeFrame_249 : decode cX2_takeFrame 249 = .ok (.iload_n 3, 1) := by decide +kernel
theorem dX2_takeFrame_250 : decode cX2_takeFrame 250 = .ok (.iload_n 2, 1) := by decide +kernel
theorem dX2_takeFrame_251 : decode cX2_takeFrame 251 = .ok (.invokevirtual 101, 3) := by decide +kernel
theorem dX2_takeFrame_254 : decode cX2_takeFrame 254 = .ok (.return_, 1) := by decide +kernel
theorem dX2_addTry_0 : decode cX2_addTry 0 = .ok (.iload_n 1, 1) := by decide +kernel
theorem dX2_addTry_1 : decode cX2_addTry 1 = .ok (.iload_n 2, 1) := by decide +kernel
theorem dX2_addTry_2 : decode cX2_addTry 2 = .ok (.invokestatic 98, 3) := by decide +kernel
theorem dX2_addTry_5 : decode cX2_addTry 5 = .ok (.istore 4, 2) := by decide +kernel
theorem dX2_addTry_7 : decode cX2_addTry 7 = .ok (.aload_n 0, 1) := by decide +kernel
theorem dX2_addTry_8 : decode cX2_addTry 8 = .ok (.getfield 26, 3) := by decide +kernel
theorem dX2_addTry_11 : decode cX2_addTry 11 = .ok (.iload 4, 2) := by decide +kernel
theorem dX2_addTry_13 : decode cX2_addTry 13 = .ok (.iconst 1, 1) := by decide +kernel
theorem dX2_addTry_14 : decode cX2_addTry 14 = .ok (.iconst 1, 1) := by decide +kernel
theorem dX2_addTry_15 : decode cX2_addTry 15 = .ok (.invokevirtual 189, 3) := by decide +kernel
theorem dX2_addTry_18 : decode cX2_addTry 18 = .ok (.aload_n 0, 1) := by decide +kernel
theorem dX2_addTry_19 : decode cX2_addTry 19 = .ok (.getfield 26, 3) := by decide +kernel
theorem dX2_addTry_22 : decode cX2_addTry 22 = .ok (.iload 4, 2) := by decide +kernel
theorem dX2_addTry_24 : decode cX2_addTry 24 = .ok (.iconst 1, 1) := by decide +kernel
theorem dX2_addTry_25 : decode cX2_addTry 25 = .ok (.invokevirtual 105, 3) := by decide +kernel
theorem dX2_addTry_28 : decode cX2_addTry 28 = .ok (.aload_n 0, 1) := by decide +kernel
theorem dX2_addTry_29 : decode cX2_addTry 29 = .ok (.getfield 62, 3) := by decide +kernel
theorem dX2_addTry_32 : decode cX2_addTry 32 = .ok (.if_icmp .lt 13, 3) := by decide +kernel
theorem dX2_addTry_35 : decode cX2_addTry 35 = .ok (.aload_n 0, 1) := by decide +kernel
theorem dX2_addTry_36 : decode cX2_addTry 36 = .ok (.iload_n 1, 1) := by decide +kernel
theorem dX2_addTry_37 : decode cX2_addTry 37 = .ok (.iload_n 2, 1) := by decide +kernel
theorem dX2_addTry_38 : decode cX2_addTry 38 = .ok (.iload_n 3, 1) := by decide +kernel
theorem dX2_addTry_39 : decode cX2_addTry 39 = .ok (.iconst 3, 1) := by decide +kernel
theorem dX2_addTry_40 : decode cX2_addTry 40 = .ok (.bipush 6, 2) := by decide +kernel
theorem dX2_addTry_42 : decode cX2_addTry 42 = .ok (.invokevirtual 170, 3) := by decide +kernel
theorem dX2_addTry_45 : decode cX2_addTry 45 = .ok (.return_, 1) := by decide +kernel
theorem dX2_endCopy_0 : decode cX2_endCopy 0 = .ok (.aload_n 0, 1) := by decide +kernel
theorem dX2_endCopy_1 : decode cX2_endCopy 1 = .ok (.getfield 26, 3) := by decide +kernel
theorem dX2_endCopy_4 : decode cX2_endCopy 4 = .ok (.iload_n 1, 1) := by decide +kernel
theorem dX2_endCopy_5 : decode cX2_endCopy 5 = .ok (.iload_n 2, 1) := by decide +kernel
theorem dX2_endCopy_6 : decode cX2_endCopy 6 = .ok (.invokestatic 98, 3) := by decide +kernel
theorem dX2_endCopy_9 : decode cX2_endCopy 9 = .ok (.iconst 0, 1) := by decide +kernel
theorem dX2_endCopy_10 : decode cX2_endCopy 10 = .ok (.iload 4, 2) := by decide +kernel
theorem dX2_endCopy_12 : decode cX2_endCopy 12 = .ok (.invokevirtual 91, 3) := by decide +kernel
theorem dX2_endCopy_15 : decode cX2_endCopy 15 = .ok (.aload_n 0, 1) := by decide +kernel
theorem dX2_endCopy_16 : decode cX2_endCopy 16 = .ok (.iload_n 1, 1) := by decide +kernel
theorem dX2_endCopy_17 : decode cX2_endCopy 17 = .ok (.iload_n 2, 1) := by decide +kernel
theorem dX2_endCopy_18 : decode cX2_endCopy 18 = .ok (.iload_n 3, 1) := by decide +kernel
theorem dX2_endCopy_19 : decode cX2_endCopy 19 = .ok (.invokevirtual 95, 3) := by decide +kernel
theorem dX2_endCopy_22 : decode cX2_endCopy 22 = .ok (.aload_n 0, 1) := by decide +kernel
theorem dX2_endCopy_23 : decode cX2_endCopy 23 = .ok (.getfield 32, 3) := by decide +kernel
theorem dX2_endCopy_26 : decode cX2_endCopy 26 = .ok (.aload_n 0, 1) := by decide +kernel
theorem dX2_endCopy_27 : decode cX2_endCopy 27 = .ok (.getfield 56, 3) := by decide +kernel
theorem dX2_endCopy_30 : decode cX2_endCopy 30 = .ok (.iload 5, 2) := by decide +kernel
theorem dX2_endCopy_32 : decode cX2_endCopy 32 = .ok (.iload_n 1, 1) := by decide +kernel
theorem dX2_endCopy_33 : decode cX2_endCopy 33 = .ok (.iload_n 2, 1) := by decide +kernel
theorem dX2_endCopy_34 : decode cX2_endCopy 34 = .ok (.iload_n 3, 1) := by decide +kernel
theorem dX2_endCopy_35 : decode cX2_endCopy 35 = .ok (.invokevirtual 101, 3) := by decide +kernel
theorem dX2_endCopy_38 : decode cX2_endCopy 38 = .ok (.return_, 1) := by decide +kernel
theorem dX2_noteEnd_0 : decode cX2_noteEnd 0 = .ok (.aload_n 0, 1) := by decide +kernel
theorem dX2_noteEnd_1 : decode cX2_noteEnd 1 = .ok (.getfield 23, 3) := by decide +kernel
theorem dX2_noteEnd_4 : decode cX2_noteEnd 4 = .ok (.iload_n 1, 1) := by decide +kernel
theorem dX2_noteEnd_5 : decode cX2_noteEnd 5 = .ok (.bipush 10, 2) := by decide +kernel
theorem dX2_noteEnd_7 : decode cX2_noteEnd 7 = .ok (.iload_n 2, 1) := by decide +kernel
theorem dX2_noteEnd_8 : decode cX2_noteEnd 8 = .ok (.invokevirtual 91, 3) := by decide +kernel
theorem dX2_noteEnd_11 : decode cX2_noteEnd 11 = .ok (.aload_n 0, 1) := by decide +kernel
theorem dX2_noteEnd_12 : decode cX2_noteEnd 12 = .ok (.getfield 23, 3) := by decide +kernel
theorem dX2_noteEnd_15 : decode cX2_noteEnd 15 = .ok (.iload_n 1, 1) := by decide +kernel
theorem dX2_noteEnd_16 : decode cX2_noteEnd 16 = .ok (.bipush 11, 2) := by decide +kernel
theorem dX2_noteEnd_18 : decode cX2_noteEnd 18 = .ok (.iload_n 3, 1) := by decide +kernel
theorem dX2_noteEnd_19 : decode cX2_noteEnd 19 = .ok (.invokevirtual 91, 3) := by decide +kernel
theorem dX2_noteEnd_22 : decode cX2_noteEnd 22 = .ok (.return_, 1) := by decide +kernel
theorem dX2_draw_0 : decode cX2_draw 0 = .ok (.aload_n 0, 1) := by decide +kernel
theorem dX2_draw_1 : decode cX2_draw 1 = .ok (.sipush 1103, 3) := by decide +kernel
theorem dX2_draw_4 : decode cX2_draw 4 = .ok (.aload_n 0, 1) := by decide +kernel
theorem dX2_draw_5 : decode cX2_draw 5 = .ok (.getfield 65, 3) := by decide +kernel
theorem dX2_draw_8 : decode cX2_draw 8 = .ok (.imul, 1) := by decide +kernel
theorem dX2_draw_9 : decode cX2_draw 9 = .ok (.sipush 12345, 3) := by decide +kernel
theorem dX2_draw_12 : decode cX2_draw 12 = .ok (.iadd, 1) := by decide +kernel
theorem dX2_draw_13 : decode cX2_draw 13 = .ok (.ldc 200, 2) := by decide +kernel
theorem dX2_draw_15 : decode cX2_draw 15 = .ok (.irem, 1) := by decide +kernel
theorem dX2_draw_16 : decode cX2_draw 16 = .ok (.putfield 65, 3) := by decide +kernel
theorem dX2_draw_19 : decode cX2_draw 19 = .ok (.aload_n 0, 1) := by decide +kernel
theorem dX2_draw_20 : decode cX2_draw 20 = .ok (.getfield 65, 3) := by decide +kernel
theorem dX2_draw_23 : decode cX2_draw 23 = .ok (.bipush 100, 2) := by decide +kernel
theorem dX2_draw_25 : decode cX2_draw 25 = .ok (.irem, 1) := by decide +kernel
theorem dX2_draw_26 : decode cX2_draw 26 = .ok (.ireturn, 1) := by decide +kernel
theorem dX2_hourOfDay_0 : decode cX2_hourOfDay 0 = .ok (.aload_n 0, 1) := by decide +kernel
theorem dX2_hourOfDay_1 : decode cX2_hourOfDay 1 = .ok (.getfield 56, 3) := by decide +kernel
theorem dX2_hourOfDay_4 : decode cX2_hourOfDay 4 = .ok (.bipush 24, 2) := by decide +kernel
theorem dX2_hourOfDay_6 : decode cX2_hourOfDay 6 = .ok (.irem, 1) := by decide +kernel
theorem dX2_hourOfDay_7 : decode cX2_hourOfDay 7 = .ok (.ireturn, 1) := by decide +kernel
theorem dX2_isOnAir_0 : decode cX2_isOnAir 0 = .ok (.aload_n 0, 1) := by decide +kernel
theorem dX2_isOnAir_1 : decode cX2_isOnAir 1 = .ok (.getfield 14, 3) := by decide +kernel
theorem dX2_isOnAir_4 : decode cX2_isOnAir 4 = .ok (.iload_n 1, 1) := by decide +kernel
theorem dX2_isOnAir_5 : decode cX2_isOnAir 5 = .ok (.iconst 0, 1) := by decide +kernel
theorem dX2_isOnAir_6 : decode cX2_isOnAir 6 = .ok (.invokevirtual 105, 3) := by decide +kernel
theorem dX2_isOnAir_9 : decode cX2_isOnAir 9 = .ok (.aload_n 0, 1) := by decide +kernel
theorem dX2_isOnAir_10 : decode cX2_isOnAir 10 = .ok (.getfield 14, 3) := by decide +kernel
theorem dX2_isOnAir_13 : decode cX2_isOnAir 13 = .ok (.iload_n 1, 1) := by decide +kernel
theorem dX2_isOnAir_14 : decode cX2_isOnAir 14 = .ok (.iconst 1, 1) := by decide +kernel
theorem dX2_isOnAir_15 : decode cX2_isOnAir 15 = .ok (.invokevirtual 105, 3) := by decide +kernel
theorem dX2_isOnAir_18 : decode cX2_isOnAir 18 = .ok (.iload_n 2, 1) := by decide +kernel
theorem dX2_isOnAir_19 : decode cX2_isOnAir 19 = .ok (.invokestatic 201, 3) := by decide +kernel
theorem dX2_isOnAir_22 : decode cX2_isOnAir 22 = .ok (.ireturn, 1) := by decide +kernel
theorem dX2_isOpen_0 : decode cX2_isOpen 0 = .ok (.aload_n 0, 1) := by decide +kernel
theorem dX2_isOpen_1 : decode cX2_isOpen 1 = .ok (.getfield 20, 3) := by decide +kernel
theorem dX2_isOpen_4 : decode cX2_isOpen 4 = .ok (.iload_n 1, 1) := by decide +kernel
theorem dX2_isOpen_5 : decode cX2_isOpen 5 = .ok (.iconst 2, 1) := by decide +kernel
theorem dX2_isOpen_6 : decode cX2_isOpen 6 = .ok (.invokevirtual 105, 3) := by decide +kernel
theorem dX2_isOpen_9 : decode cX2_isOpen 9 = .ok (.aload_n 0, 1) := by decide +kernel
theorem dX2_isOpen_10 : decode cX2_isOpen 10 = .ok (.getfield 20, 3) := by decide +kernel
theorem dX2_isOpen_13 : decode cX2_isOpen 13 = .ok (.iload_n 1, 1) := by decide +kernel
theorem dX2_isOpen_14 : decode cX2_isOpen 14 = .ok (.iconst 3, 1) := by decide +kernel
theorem dX2_isOpen_15 : decode cX2_isOpen 15 = .ok (.invokevirtual 105, 3) := by decide +kernel
theorem dX2_isOpen_18 : decode cX2_isOpen 18 = .ok (.iload_n 2, 1) := by decide +kernel
theorem dX2_isOpen_19 : decode cX2_isOpen 19 = .ok (.invokestatic 201, 3) := by decide +kernel
theorem dX2_isOpen_22 : decode cX2_isOpen 22 = .ok (.ifCond .eq 41, 3) := by decide +kernel
theorem dX2_isOpen_25 : decode cX2_isOpen 25 = .ok (.aload_n 0, 1) := by decide +kernel
theorem dX2_isOpen_26 : decode cX2_isOpen 26 = .ok (.aload_n 0, 1) := by decide +kernel
theorem dX2_isOpen_27 : decode cX2_isOpen 27 = .ok (.getfield 20, 3) := by decide +kernel
theorem dX2_isOpen_30 : decode cX2_isOpen 30 = .ok (.iload_n 1, 1) := by decide +kernel
theorem dX2_isOpen_31 : decode cX2_isOpen 31 = .ok (.iconst 0, 1) := by decide +kernel
theorem dX2_isOpen_32 : decode cX2_isOpen 32 = .ok (.invokevirtual 105, 3) := by decide +kernel
theorem dX2_isOpen_35 : decode cX2_isOpen 35 = .ok (.iload_n 2, 1) := by decide +kernel
theorem dX2_isOpen_36 : decode cX2_isOpen 36 = .ok (.invokevirtual 121, 3) := by decide +kernel
theorem dX2_isOpen_39 : decode cX2_isOpen 39 = .ok (.ifCond .eq 24, 3) := by decide +kernel
theorem dX2_isOpen_42 : decode cX2_isOpen 42 = .ok (.aload_n 0, 1) := by decide +kernel
theorem dX2_isOpen_43 : decode cX2_isOpen 43 = .ok (.aload_n 0, 1) := by decide +kernel
theorem dX2_isOpen_44 : decode cX2_isOpen 44 = .ok (.getfield 20, 3) := by decide +kernel
theorem dX2_isOpen_47 : decode cX2_isOpen 47 = .ok (.iload_n 1, 1) := by decide +kernel
theorem dX2_isOpen_48 : decode cX2_isOpen 48 = .ok (.iconst 1, 1) := by decide +kernel
theorem dX2_isOpen_49 : decode cX2_isOpen 49 = .ok (.invokevirtual 105, 3) := by decide +kernel
theorem dX2_isOpen_52 : decode cX2_isOpen 52 = .ok (.iload_n 2, 1) := by decide +kernel
theorem dX2_isOpen_53 : decode cX2_isOpen 53 = .ok (.invokevirtual 121, 3) := by decide +kernel
theorem dX2_isOpen_56 : decode cX2_isOpen 56 = .ok (.ifCond .eq 7, 3) := by decide +kernel
theorem dX2_isOpen_59 : decode cX2_isOpen 59 = .ok (.iconst 1, 1) := by decide +kernel
theorem dX2_isOpen_60 : decode cX2_isOpen 60 = .ok (.goto 4, 3) := by decide +kernel
theorem dX2_isOpen_63 : decode cX2_isOpen 63 = .ok (.iconst 0, 1) := by decide +kernel
theorem dX2_isOpen_64 : decode cX2_isOpen 64 = .ok (.ireturn, 1) := by decide +kernel
theorem dX2_isWithin_0 : decode cX2_isWithin 0 = .ok (.iload_n 0, 1) := by decide +kernel
theorem dX2_isWithin_1 : decode cX2_isWithin 1 = .ok (.iload_n 1, 1) := by decide +kernel
theorem dX2_isWithin_2 : decode cX2_isWithin 2 = .ok (.if_icmp .gt 21, 3) := by decide +kernel
theorem dX2_isWithin_5 : decode cX2_isWithin 5 = .ok (.iload_n 0, 1) := by decide +kernel
theorem dX2_isWithin_6 : decode cX2_isWithin 6 = .ok (.iload_n 2, 1) := by decide +kernel
theorem dX2_isWithin_7 : decode cX2_isWithin 7 = .ok (.if_icmp .gt 12, 3) := by decide +kernel
theorem dX2_isWithin_10 : decode cX2_isWithin 10 = .ok (.iload_n 2, 1) := by decide +kernel
theorem dX2_isWithin_11 : decode cX2_isWithin 11 = .ok (.iload_n 1, 1) := by decide +kernel
theorem dX2_isWithin_12 : decode cX2_isWithin 12 = .ok (.if_icmp .gt 7, 3) := by decide +kernel
theorem dX2_isWithin_15 : decode cX2_isWithin 15 = .ok (.iconst 1, 1) := by decide +kernel
theorem dX2_isWithin_16 : decode cX2_isWithin 16 = .ok (.goto 22, 3) := by decide +kernel
theorem dX2_isWithin_19 : decode cX2_isWithin 19 = .ok (.iconst 0, 1) := by decide +kernel
theorem dX2_isWithin_20 : decode cX2_isWithin 20 = .ok (.goto 18, 3) := by decide +kernel
theorem dX2_isWithin_23 : decode cX2_isWithin 23 = .ok (.iload_n 0, 1) := by decide +kernel
theorem dX2_isWithin_24 : decode cX2_isWithin 24 = .ok (.iload_n 2, 1) := by decide +kernel
theorem dX2_isWithin_25 : decode cX2_isWithin 25 = .ok (.if_icmp .le 8, 3) := by decide +kernel
theorem dX2_isWithin_28 : decode cX2_isWithin 28 = .ok (.iload_n 2, 1) := by decide +kernel
theorem dX2_isWithin_29 : decode cX2_isWithin 29 = .ok (.iload_n 1, 1) := by decide +kernel
theorem dX2_isWithin_30 : decode cX2_isWithin 30 = .ok (.if_icmp .gt 7, 3) := by decide +kernel
theorem dX2_isWithin_33 : decode cX2_isWithin 33 = .ok (.iconst 1, 1) := by decide +kernel
theorem dX2_isWithin_34 : decode cX2_isWithin 34 = .ok (.goto 4, 3) := by decide +kernel
theorem dX2_isWithin_37 : decode cX2_isWithin 37 = .ok (.iconst 0, 1) := by decide +kernel
theorem dX2_isWithin_38 : decode cX2_isWithin 38 = .ok (.ireturn, 1) := by decide +kernel
theorem dX2_linksOf_0 : decode cX2_linksOf 0 = .ok (.iconst 0, 1) := by decide +kernel
theorem dX2_linksOf_1 : decode cX2_linksOf 1 = .ok (.istore_n 2, 1) := by decide +kernel
theorem dX2_linksOf_2 : decode cX2_linksOf 2 = .ok (.iconst 0, 1) := by decide +kernel
theorem dX2_linksOf_3 : decode cX2_linksOf 3 = .ok (.istore_n 3, 1) := by decide +kernel
theorem dX2_linksOf_4 : decode cX2_linksOf 4 = .ok (.iload_n 3, 1) := by decide +kernel
theorem dX2_linksOf_5 : decode cX2_linksOf 5 = .ok (.aload_n 0, 1) := by decide +kernel
theorem dX2_linksOf_6 : decode cX2_linksOf 6 = .ok (.getfield 50, 3) := by decide +kernel
theorem dX2_linksOf_9 : decode cX2_linksOf 9 = .ok (.if_icmp .ge 38, 3) := by decide +kernel
theorem dX2_linksOf_12 : decode cX2_linksOf 12 = .ok (.aload_n 0, 1) := by decide +kernel
theorem dX2_linksOf_13 : decode cX2_linksOf 13 = .ok (.getfield 20, 3) := by decide +kernel
theorem dX2_linksOf_16 : decode cX2_linksOf 16 = .ok (.iload_n 3, 1) := by decide +kernel
theorem dX2_linksOf_17 : decode cX2_linksOf 17 = .ok (.iconst 0, 1) := by decide +kernel
theorem dX2_linksOf_18 : decode cX2_linksOf 18 = .ok (.invokevirtual 105, 3) := by decide +kernel
theorem dX2_linksOf_21 : decode cX2_linksOf 21 = .ok (.iload_n 1, 1) := by decide +kernel
theorem dX2_linksOf_22 : decode cX2_linksOf 22 = .ok (.if_icmp .eq 16, 3) := by decide +kernel
theorem dX2_linksOf_25 : decode cX2_linksOf 25 = .ok (.aload_n 0, 1) := by decide +kernel
theorem dX2_linksOf_26 : decode cX2_linksOf 26 = .ok (.getfield 20, 3) := by decide +kernel
theorem dX2_linksOf_29 : decode cX2_linksOf 29 = .ok (.iload_n 3, 1) := by decide +kernel
theorem dX2_linksOf_30 : decode cX2_linksOf 30 = .ok (.iconst 1, 1) := by decide +kernel
theorem dX2_linksOf_31 : decode cX2_linksOf 31 = .ok (.invokevirtual 105, 3) := by decide +kernel
theorem dX2_linksOf_34 : decode cX2_linksOf 34 = .ok (.iload_n 1, 1) := by decide +kernel
theorem dX2_linksOf_35 : decode cX2_linksOf 35 = .ok (.if_icmp .ne 6, 3) := by decide +kernel
theorem dX2_linksOf_38 : decode cX2_linksOf 38 = .ok (.iinc 2 1, 3) := by decide +kernel
theorem dX2_linksOf_41 : decode cX2_linksOf 41 = .ok (.iinc 3 1, 3) := by decide +kernel
theorem dX2_linksOf_44 : decode cX2_linksOf 44 = .ok (.goto (-40), 3) := by decide +kernel
theorem dX2_linksOf_47 : decode cX2_linksOf 47 = .ok (.iload_n 2, 1) := by decide +kernel
theorem dX2_linksOf_48 : decode cX2_linksOf 48 = .ok (.ireturn, 1) := by decide +kernel
theorem dX2_copiesThatWait_0 : decode cX2_copiesThatWait 0 = .ok (.iconst 0, 1) := by decide +kernel
theorem dX2_copiesThatWait_1 : decode cX2_copiesThatWait 1 = .ok (.istore 5, 2) := by decide +kernel
theorem dX2_copiesThatWait_3 : decode cX2_copiesThatWait 3 = .ok (.iload_n 1, 1) := by decide +kernel
theorem dX2_copiesThatWait_4 : decode cX2_copiesThatWait 4 = .ok (.istore 6, 2) := by decide +kernel
theorem dX2_copiesThatWait_6 : decode cX2_copiesThatWait 6 = .ok (.iload 6, 2) := by decide +kernel
theorem dX2_copiesThatWait_8 : decode cX2_copiesThatWait 8 = .ok (.iload_n 2, 1) := by decide +kernel
theorem dX2_copiesThatWait_9 : decode cX2_copiesThatWait 9 = .ok (.if_icmp .ge 39, 3) := by decide +kernel
theorem dX2_copiesThatWait_12 : decode cX2_copiesThatWait 12 = .ok (.iload_n 3, 1) := by decide +kernel
theorem dX2_copiesThatWait_13 : decode cX2_copiesThatWait 13 = .ok (.istore 7, 2) := by decide +kernel
theorem dX2_copiesThatWait_15 : decode cX2_copiesThatWait 15 = .ok (.iload 7, 2) := by decide +kernel
theorem dX2_copiesThatWait_17 : decode cX2_copiesThatWait 17 = .ok (.iload 4, 2) := by decide +kernel
theorem dX2_copiesThatWait_19 : decode cX2_copiesThatWait 19 = .ok (.if_icmp .ge 23, 3) := by decide +kernel
theorem dX2_copiesThatWait_22 : decode cX2_copiesThatWait 22 = .ok (.aload_n 0, 1) := by decide +kernel
theorem dX2_copiesThatWait_23 : decode cX2_copiesThatWait 23 = .ok (.iload 6, 2) := by decide +kernel
theorem dX2_copiesThatWait_25 : decode cX2_copiesThatWait 25 = .ok (.iload 7, 2) := by decide +kernel
theorem dX2_copiesThatWait_27 : decode cX2_copiesThatWait 27 = .ok (.invokevirtual 167, 3) := by decide +kernel
theorem dX2_copiesThatWait_30 : decode cX2_copiesThatWait 30 = .ok (.ifCond .eq 6, 3) := by decide +kernel
theorem dX2_copiesThatWait_33 : decode cX2_copiesThatWait 33 = .ok (.iinc 5 1, 3) := by decide +kernel
theorem dX2_copiesThatWait_36 : decode cX2_copiesThatWait 36 = .ok (.iinc 7 1, 3) := by decide +kernel
theorem dX2_copiesThatWait_39 : decode cX2_copiesThatWait 39 = .ok (.goto (-24), 3) := by decide +kernel
theorem dX2_copiesThatWait_42 : decode cX2_copiesThatWait 42 = .ok (.iinc 6 1, 3) := by decide +kernel
theorem dX2_copiesThatWait_45 : decode cX2_copiesThatWait 45 = .ok (.goto (-39), 3) := by decide +kernel
theorem dX2_copiesThatWait_48 : decode cX2_copiesThatWait 48 = .ok (.iload 5, 2) := by decide +kernel
theorem dX2_copiesThatWait_50 : decode cX2_copiesThatWait 50 = .ok (.ireturn, 1) := by decide +kernel
theorem dX2_waits_0 : decode cX2_waits 0 = .ok (.aload_n 0, 1) := by decide +kernel
theorem dX2_waits_1 : decode cX2_waits 1 = .ok (.getfield 26, 3) := by decide +kernel
theorem dX2_waits_4 : decode cX2_waits 4 = .ok (.iload_n 1, 1) := by decide +kernel
theorem dX2_waits_5 : decode cX2_waits 5 = .ok (.iload_n 2, 1) := by decide +kernel
theorem dX2_waits_6 : decode cX2_waits 6 = .ok (.invokestatic 98, 3) := by decide +kernel
theorem dX2_waits_9 : decode cX2_waits 9 = .ok (.iconst 0, 1) := by decide +kernel
theorem dX2_waits_10 : decode cX2_waits 10 = .ok (.invokevirtual 105, 3) := by decide +kernel
theorem dX2_waits_13 : decode cX2_waits 13 = .ok (.iconst 1, 1) := by decide +kernel
theorem dX2_waits_14 : decode cX2_waits 14 = .ok (.if_icmp .ne 7, 3) := by decide +kernel
theorem dX2_waits_17 : decode cX2_waits 17 = .ok (.iconst 1, 1) := by decide +kernel
theorem dX2_waits_18 : decode cX2_waits 18 = .ok (.goto 4, 3) := by decide +kernel
theorem dX2_waits_21 : decode cX2_waits 21 = .ok (.iconst 0, 1) := by decide +kernel
theorem dX2_waits_22 : decode cX2_waits 22 = .ok (.ireturn, 1) := by decide +kernel
theorem dX2_pathStations_0 : decode cX2_pathStations 0 = .ok (.aload_n 0, 1) := by decide +kernel
theorem dX2_pathStations_1 : decode cX2_pathStations 1 = .ok (.getfield 26, 3) := by decide +kernel
theorem dX2_pathStations_4 : decode cX2_pathStations 4 = .ok (.iload_n 1, 1) := by decide +kernel
theorem dX2_pathStations_5 : decode cX2_pathStations 5 = .ok (.iconst 4, 1) := by decide +kernel
theorem dX2_pathStations_6 : decode cX2_pathStations 6 = .ok (.invokevirtual 105, 3) := by decide +kernel
theorem dX2_pathStations_9 : decode cX2_pathStations 9 = .ok (.istore_n 2, 1) := by decide +kernel
theorem dX2_pathStations_10 : decode cX2_pathStations 10 = .ok (.aload_n 0, 1) := by decide +kernel
theorem dX2_pathStations_11 : decode cX2_pathStations 11 = .ok (.getfield 26, 3) := by decide +kernel
theorem dX2_pathStations_14 : decode cX2_pathStations 14 = .ok (.iload_n 1, 1) := by decide +kernel
theorem dX2_pathStations_15 : decode cX2_pathStations 15 = .ok (.iconst 3, 1) := by decide +kernel
theorem dX2_pathStations_16 : decode cX2_pathStations 16 = .ok (.invokevirtual 105, 3) := by decide +kernel
theorem dX2_pathStations_19 : decode cX2_pathStations 19 = .ok (.istore_n 3, 1) := by decide +kernel
theorem dX2_pathStations_20 : decode cX2_pathStations 20 = .ok (.iconst 0, 1) := by decide +kernel
theorem dX2_pathStations_21 : decode cX2_pathStations 21 = .ok (.istore 4, 2) := by decide +kernel
theorem dX2_pathStations_23 : decode cX2_pathStations 23 = .ok (.iconst 0, 1) := by decide +kernel
theorem dX2_pathStations_24 : decode cX2_pathStations 24 = .ok (.istore 5, 2) := by decide +kernel
theorem dX2_pathStations_26 : decode cX2_pathStations 26 = .ok (.iload 5, 2) := by decide +kernel
theorem dX2_pathStations_28 : decode cX2_pathStations 28 = .ok (.iload_n 3, 1) := by decide +kernel
theorem dX2_pathStations_29 : decode cX2_pathStations 29 = .ok (.if_icmp .ge 25, 3) := by decide +kernel
theorem dX2_pathStations_32 : decode cX2_pathStations 32 = .ok (.iload 4, 2) := by decide +kernel
theorem dX2_pathStations_34 : decode cX2_pathStations 34 = .ok (.iconst 1, 1) := by decide +kernel
theorem dX2_pathStations_35 : decode cX2_pathStations 35 = .ok (.iload_n 2, 1) := by decide +kernel
theorem dX2_pathStations_36 : decode cX2_pathStations 36 = .ok (.iload 5, 2) := by decide +kernel
theorem dX2_pathStations_38 : decode cX2_pathStations 38 = .ok (.iconst 3, 1) := by decide +kernel
theorem dX2_pathStations_39 : decode cX2_pathStations 39 = .ok (.imul, 1) := by decide +kernel
theorem dX2_pathStations_40 : decode cX2_pathStations 40 = .ok (.ishr, 1) := by decide +kernel
theorem dX2_pathStations_41 : decode cX2_pathStations 41 = .ok (.bipush 7, 2) := by decide +kernel
theorem dX2_pathStations_43 : decode cX2_pathStations 43 = .ok (.iand, 1) := by decide +kernel
theorem dX2_pathStations_44 : decode cX2_pathStations 44 = .ok (.ishl, 1) := by decide +kernel
theorem dX2_pathStations_45 : decode cX2_pathStations 45 = .ok (.ior, 1) := by decide +kernel
theorem dX2_pathStations_46 : decode cX2_pathStations 46 = .ok (.istore 4, 2) := by decide +kernel
theorem dX2_pathStations_48 : decode cX2_pathStations 48 = .ok (.iinc 5 1, 3) := by decide +kernel
theorem dX2_pathStations_51 : decode cX2_pathStations 51 = .ok (.goto (-25), 3) := by decide +kernel
theorem dX2_pathStations_54 : decode cX2_pathStations 54 = .ok (.iload 4, 2) := by decide +kernel
theorem dX2_pathStations_56 : decode cX2_pathStations 56 = .ok (.ireturn, 1) := by decide +kernel
theorem dX2_copyRow_0 : decode cX2_copyRow 0 = .ok (.iload_n 0, 1) := by decide +kernel
theorem dX2_copyRow_1 : decode cX2_copyRow 1 = .ok (.bipush 8, 2) := by decide +kernel
theorem dX2_copyRow_3 : decode cX2_copyRow 3 = .ok (.imul, 1) := by decide +kernel
theorem dX2_copyRow_4 : decode cX2_copyRow 4 = .ok (.iload_n 1, 1) := by decide +kernel
theorem dX2_copyRow_5 : decode cX2_copyRow 5 = .ok (.iadd, 1) := by decide +kernel
theorem dX2_copyRow_6 : decode cX2_copyRow 6 = .ok (.ireturn, 1) := by decide +kernel
theorem dX3_init_0 : decode cX3_init 0 = .ok (.aload_n 0, 1) := by decide +kernel
theorem dX3_init_1 : decode cX3_init 1 = .ok (.invokespecial 3, 3) := by decide +kernel
theorem dX3_init_4 : decode cX3_init 4 = .ok (.aload_n 0, 1) := by decide +kernel
theorem dX3_init_5 : decode cX3_init 5 = .ok (.sipush 700, 3) := by decide +kernel
theorem dX3_init_8 : decode cX3_init 8 = .ok (.newarray .byte, 2) := by decide +kernel
theorem dX3_init_10 : decode cX3_init 10 = .ok (.putfield 9, 3) := by decide +kernel
theorem dX3_init_13 : decode cX3_init 13 = .ok (.aload_n 0, 1) := by decide +kernel
theorem dX3_init_14 : decode cX3_init 14 = .ok (.iconst 0, 1) := by decide +kernel
theorem dX3_init_15 : decode cX3_init 15 = .ok (.putfield 15, 3) := by decide +kernel
theorem dX3_init_18 : decode cX3_init 18 = .ok (.aload_n 0, 1) := by decide +kernel
theorem dX3_init_19 : decode cX3_init 19 = .ok (.iconst 0, 1) := by decide +kernel
theorem dX3_init_20 : decode cX3_init 20 = .ok (.putfield 19, 3) := by decide +kernel
theorem dX3_init_23 : decode cX3_init 23 = .ok (.aload_n 0, 1) := by decide +kernel
theorem dX3_init_24 : decode cX3_init 24 = .ok (.iconst 0, 1) := by decide +kernel
theorem dX3_init_25 : decode cX3_init 25 = .ok (.putfield 22, 3) := by decide +kernel
theorem dX3_init_28 : decode cX3_init 28 = .ok (.aload_n 0, 1) := by decide +kernel
theorem dX3_init_29 : decode cX3_init 29 = .ok (.iconst 0, 1) := by decide +kernel
theorem dX3_init_30 : decode cX3_init 30 = .ok (.putfield 25, 3) := by decide +kernel
theorem dX3_init_33 : decode cX3_init 33 = .ok (.aload_n 0, 1) := by decide +kernel
theorem dX3_init_34 : decode cX3_init 34 = .ok (.iconst 0, 1) := by decide +kernel
theorem dX3_init_35 : decode cX3_init 35 = .ok (.putfield 28, 3) := by decide +kernel
theorem dX3_init_38 : decode cX3_init 38 = .ok (.aload_n 0, 1) := by decide +kernel
theorem dX3_init_39 : decode cX3_init 39 = .ok (.iconst 0, 1) := by decide +kernel
theorem dX3_init_40 : decode cX3_init 40 = .ok (.putfield 31, 3) := by decide +kernel
theorem dX3_init_43 : decode cX3_init 43 = .ok (.aload_n 0, 1) := by decide +kernel
theorem dX3_init_44 : decode cX3_init 44 = .ok (.iconst (-1), 1) := by decide +kernel
theorem dX3_init_45 : decode cX3_init 45 = .ok (.putfield 34, 3) := by decide +kernel
theorem dX3_init_48 : decode cX3_init 48 = .ok (.return_, 1) := by decide +kernel
theorem dX4_init_0 : decode cX4_init 0 = .ok (.aload_n 0, 1) := by decide +kernel
theorem dX4_init_1 : decode cX4_init 1 = .ok (.invokespecial 3, 3) := by decide +kernel
theorem dX4_init_4 : decode cX4_init 4 = .ok (.aload_n 0, 1) := by decide +kernel
theorem dX4_init_5 : decode cX4_init 5 = .ok (.iload_n 1, 1) := by decide +kernel
theorem dX4_init_6 : decode cX4_init 6 = .ok (.putfield 9, 3) := by decide +kernel
theorem dX4_init_9 : decode cX4_init 9 = .ok (.aload_n 0, 1) := by decide +kernel
theorem dX4_init_10 : decode cX4_init 10 = .ok (.iload_n 2, 1) := by decide +kernel
theorem dX4_init_11 : decode cX4_init 11 = .ok (.putfield 15, 3) := by decide +kernel
theorem dX4_init_14 : decode cX4_init 14 = .ok (.iload_n 1, 1) := by decide +kernel
theorem dX4_init_15 : decode cX4_init 15 = .ok (.iload_n 2, 1) := by decide +kernel
theorem dX4_init_16 : decode cX4_init 16 = .ok (.imul, 1) := by decide +kernel
theorem dX4_init_17 : decode cX4_init 17 = .ok (.istore_n 3, 1) := by decide +kernel

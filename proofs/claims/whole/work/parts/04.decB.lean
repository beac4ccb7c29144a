theorem dX7_init_0 : decode cX7_init 0 = .ok (.aload_n 0, 1) := by decide +kernel
theorem dX7_init_1 : decode cX7_init 1 = .ok (.invokespecial 1, 3) := by decide +kernel
theorem dX7_init_4 : decode cX7_init 4 = .ok (.aload_n 0, 1) := by decide +kernel
theorem dX7_init_5 : decode cX7_init 5 = .ok (.sipush 2888, 3) := by decide +kernel
theorem dX7_init_8 : decode cX7_init 8 = .ok (.newarray .int, 2) := by decide +kernel
theorem dX7_init_10 : decode cX7_init 10 = .ok (.putfield 7, 3) := by decide +kernel
theorem dX7_init_13 : decode cX7_init 13 = .ok (.aload_n 0, 1) := by decide +kernel
theorem dX7_init_14 : decode cX7_init 14 = .ok (.sipush 2888, 3) := by decide +kernel
theorem dX7_init_17 : decode cX7_init 17 = .ok (.newarray .int, 2) := by decide +kernel
theorem dX7_init_19 : decode cX7_init 19 = .ok (.putfield 13, 3) := by decide +kernel
theorem dX7_init_22 : decode cX7_init 22 = .ok (.aload_n 0, 1) := by decide +kernel
theorem dX7_init_23 : decode cX7_init 23 = .ok (.sipush 2888, 3) := by decide +kernel
theorem dX7_init_26 : decode cX7_init 26 = .ok (.newarray .int, 2) := by decide +kernel
theorem dX7_init_28 : decode cX7_init 28 = .ok (.putfield 16, 3) := by decide +kernel
theorem dX7_init_31 : decode cX7_init 31 = .ok (.aload_n 0, 1) := by decide +kernel
theorem dX7_init_32 : decode cX7_init 32 = .ok (.sipush 5776, 3) := by decide +kernel
theorem dX7_init_35 : decode cX7_init 35 = .ok (.newarray .int, 2) := by decide +kernel
theorem dX7_init_37 : decode cX7_init 37 = .ok (.putfield 19, 3) := by decide +kernel
theorem dX7_init_40 : decode cX7_init 40 = .ok (.aload_n 0, 1) := by decide +kernel
theorem dX7_init_41 : decode cX7_init 41 = .ok (.iconst 2, 1) := by decide +kernel
theorem dX7_init_42 : decode cX7_init 42 = .ok (.newarray .boolean, 2) := by decide +kernel
theorem dX7_init_44 : decode cX7_init 44 = .ok (.putfield 22, 3) := by decide +kernel
theorem dX7_init_47 : decode cX7_init 47 = .ok (.aload_n 0, 1) := by decide +kernel
theorem dX7_init_48 : decode cX7_init 48 = .ok (.sipush 700, 3) := by decide +kernel
theorem dX7_init_51 : decode cX7_init 51 = .ok (.newarray .int, 2) := by decide +kernel
theorem dX7_init_53 : decode cX7_init 53 = .ok (.putfield 26, 3) := by decide +kernel
theorem dX7_init_56 : decode cX7_init 56 = .ok (.aload_n 0, 1) := by decide +kernel
theorem dX7_init_57 : decode cX7_init 57 = .ok (.iconst (-1), 1) := by decide +kernel
theorem dX7_init_58 : decode cX7_init 58 = .ok (.putfield 29, 3) := by decide +kernel
theorem dX7_init_61 : decode cX7_init 61 = .ok (.aload_n 0, 1) := by decide +kernel
theorem dX7_init_62 : decode cX7_init 62 = .ok (.sipush 200, 3) := by decide +kernel
theorem dX7_init_65 : decode cX7_init 65 = .ok (.newarray .int, 2) := by decide +kernel
theorem dX7_init_67 : decode cX7_init 67 = .ok (.putfield 33, 3) := by decide +kernel
theorem dX7_init_70 : decode cX7_init 70 = .ok (.aload_n 0, 1) := by decide +kernel
theorem dX7_init_71 : decode cX7_init 71 = .ok (.sipush 200, 3) := by decide +kernel
theorem dX7_init_74 : decode cX7_init 74 = .ok (.newarray .int, 2) := by decide +kernel
theorem dX7_init_76 : decode cX7_init 76 = .ok (.putfield 36, 3) := by decide +kernel
theorem dX7_init_79 : decode cX7_init 79 = .ok (.aload_n 0, 1) := by decide +kernel
theorem dX7_init_80 : decode cX7_init 80 = .ok (.bipush 8, 2) := by decide +kernel
theorem dX7_init_82 : decode cX7_init 82 = .ok (.newarray .boolean, 2) := by decide +kernel
theorem dX7_init_84 : decode cX7_init 84 = .ok (.putfield 39, 3) := by decide +kernel
theorem dX7_init_87 : decode cX7_init 87 = .ok (.aload_n 0, 1) := by decide +kernel
theorem dX7_init_88 : decode cX7_init 88 = .ok (.bipush 60, 2) := by decide +kernel
theorem dX7_init_90 : decode cX7_init 90 = .ok (.newarray .int, 2) := by decide +kernel
theorem dX7_init_92 : decode cX7_init 92 = .ok (.putfield 42, 3) := by decide +kernel
theorem dX7_init_95 : decode cX7_init 95 = .ok (.aload_n 0, 1) := by decide +kernel
theorem dX7_init_96 : decode cX7_init 96 = .ok (.bipush 24, 2) := by decide +kernel
theorem dX7_init_98 : decode cX7_init 98 = .ok (.newarray .int, 2) := by decide +kernel
theorem dX7_init_100 : decode cX7_init 100 = .ok (.putfield 45, 3) := by decide +kernel
theorem dX7_init_103 : decode cX7_init 103 = .ok (.aload_n 0, 1) := by decide +kernel
theorem dX7_init_104 : decode cX7_init 104 = .ok (.bipush 24, 2) := by decide +kernel
theorem dX7_init_106 : decode cX7_init 106 = .ok (.newarray .int, 2) := by decide +kernel
theorem dX7_init_108 : decode cX7_init 108 = .ok (.putfield 48, 3) := by decide +kernel
theorem dX7_init_111 : decode cX7_init 111 = .ok (.aload_n 0, 1) := by decide +kernel
theorem dX7_init_112 : decode cX7_init 112 = .ok (.invokevirtual 51, 3) := by decide +kernel
theorem dX7_init_115 : decode cX7_init 115 = .ok (.return_, 1) := by decide +kernel
theorem dX7_thrown_0 : decode cX7_thrown 0 = .ok (.aload_n 0, 1) := by decide +kernel
theorem dX7_thrown_1 : decode cX7_thrown 1 = .ok (.getfield 54, 3) := by decide +kernel
theorem dX7_thrown_4 : decode cX7_thrown 4 = .ok (.ireturn, 1) := by decide +kernel
theorem dX7_fail_0 : decode cX7_fail 0 = .ok (.aload_n 0, 1) := by decide +kernel
theorem dX7_fail_1 : decode cX7_fail 1 = .ok (.iload_n 1, 1) := by decide +kernel
theorem dX7_fail_2 : decode cX7_fail 2 = .ok (.putfield 54, 3) := by decide +kernel
theorem dX7_fail_5 : decode cX7_fail 5 = .ok (.iconst 0, 1) := by decide +kernel
theorem dX7_fail_6 : decode cX7_fail 6 = .ok (.ireturn, 1) := by decide +kernel
theorem dX7_isBetween_0 : decode cX7_isBetween 0 = .ok (.iload_n 0, 1) := by decide +kernel
theorem dX7_isBetween_1 : decode cX7_isBetween 1 = .ok (.iload_n 1, 1) := by decide +kernel
theorem dX7_isBetween_2 : decode cX7_isBetween 2 = .ok (.if_icmp .lt 12, 3) := by decide +kernel
theorem dX7_isBetween_5 : decode cX7_isBetween 5 = .ok (.iload_n 0, 1) := by decide +kernel
theorem dX7_isBetween_6 : decode cX7_isBetween 6 = .ok (.iload_n 2, 1) := by decide +kernel
theorem dX7_isBetween_7 : decode cX7_isBetween 7 = .ok (.if_icmp .gt 7, 3) := by decide +kernel
theorem dX7_isBetween_10 : decode cX7_isBetween 10 = .ok (.iconst 1, 1) := by decide +kernel
theorem dX7_isBetween_11 : decode cX7_isBetween 11 = .ok (.goto 4, 3) := by decide +kernel
theorem dX7_isBetween_14 : decode cX7_isBetween 14 = .ok (.iconst 0, 1) := by decide +kernel
theorem dX7_isBetween_15 : decode cX7_isBetween 15 = .ok (.ireturn, 1) := by decide +kernel
theorem dX7_clear_0 : decode cX7_clear 0 = .ok (.iconst 0, 1) := by decide +kernel
theorem dX7_clear_1 : decode cX7_clear 1 = .ok (.istore_n 1, 1) := by decide +kernel
theorem dX7_clear_2 : decode cX7_clear 2 = .ok (.iload_n 1, 1) := by decide +kernel
theorem dX7_clear_3 : decode cX7_clear 3 = .ok (.sipush 2888, 3) := by decide +kernel
theorem dX7_clear_6 : decode cX7_clear 6 = .ok (.if_icmp .ge 16, 3) := by decide +kernel
theorem dX7_clear_9 : decode cX7_clear 9 = .ok (.aload_n 0, 1) := by decide +kernel
theorem dX7_clear_10 : decode cX7_clear 10 = .ok (.getfield 7, 3) := by decide +kernel
theorem dX7_clear_13 : decode cX7_clear 13 = .ok (.iload_n 1, 1) := by decide +kernel
theorem dX7_clear_14 : decode cX7_clear 14 = .ok (.iconst 0, 1) := by decide +kernel
theorem dX7_clear_15 : decode cX7_clear 15 = .ok (.iastore, 1) := by decide +kernel
theorem dX7_clear_16 : decode cX7_clear 16 = .ok (.iinc 1 1, 3) := by decide +kernel
theorem dX7_clear_19 : decode cX7_clear 19 = .ok (.goto (-17), 3) := by decide +kernel
theorem dX7_clear_22 : decode cX7_clear 22 = .ok (.aload_n 0, 1) := by decide +kernel
theorem dX7_clear_23 : decode cX7_clear 23 = .ok (.getfield 7, 3) := by decide +kernel
theorem dX7_clear_26 : decode cX7_clear 26 = .ok (.iconst 4, 1) := by decide +kernel
theorem dX7_clear_27 : decode cX7_clear 27 = .ok (.bipush 48, 2) := by decide +kernel
theorem dX7_clear_29 : decode cX7_clear 29 = .ok (.iastore, 1) := by decide +kernel
theorem dX7_clear_30 : decode cX7_clear 30 = .ok (.aload_n 0, 1) := by decide +kernel
theorem dX7_clear_31 : decode cX7_clear 31 = .ok (.getfield 7, 3) := by decide +kernel
theorem dX7_clear_34 : decode cX7_clear 34 = .ok (.iconst 5, 1) := by decide +kernel
theorem dX7_clear_35 : decode cX7_clear 35 = .ok (.iconst 3, 1) := by decide +kernel
theorem dX7_clear_36 : decode cX7_clear 36 = .ok (.iastore, 1) := by decide +kernel
theorem dX7_clear_37 : decode cX7_clear 37 = .ok (.aload_n 0, 1) := by decide +kernel
theorem dX7_clear_38 : decode cX7_clear 38 = .ok (.getfield 7, 3) := by decide +kernel
theorem dX7_clear_41 : decode cX7_clear 41 = .ok (.bipush 6, 2) := by decide +kernel
theorem dX7_clear_43 : decode cX7_clear 43 = .ok (.iconst 1, 1) := by decide +kernel
theorem dX7_clear_44 : decode cX7_clear 44 = .ok (.iastore, 1) := by decide +kernel
theorem dX7_clear_45 : decode cX7_clear 45 = .ok (.return_, 1) := by decide +kernel
theorem dX7_copyAll_0 : decode cX7_copyAll 0 = .ok (.iconst 0, 1) := by decide +kernel
theorem dX7_copyAll_1 : decode cX7_copyAll 1 = .ok (.istore 4, 2) := by decide +kernel
theorem dX7_copyAll_3 : decode cX7_copyAll 3 = .ok (.iload 4, 2) := by decide +kernel
theorem dX7_copyAll_5 : decode cX7_copyAll 5 = .ok (.sipush 2888, 3) := by decide +kernel
theorem dX7_copyAll_8 : decode cX7_copyAll 8 = .ok (.if_icmp .ge 21, 3) := by decide +kernel
theorem dX7_copyAll_11 : decode cX7_copyAll 11 = .ok (.aload_n 2, 1) := by decide +kernel
theorem dX7_copyAll_12 : decode cX7_copyAll 12 = .ok (.iload_n 3, 1) := by decide +kernel
theorem dX7_copyAll_13 : decode cX7_copyAll 13 = .ok (.iload 4, 2) := by decide +kernel
theorem dX7_copyAll_15 : decode cX7_copyAll 15 = .ok (.iadd, 1) := by decide +kernel
theorem dX7_copyAll_16 : decode cX7_copyAll 16 = .ok (.aload_n 0, 1) := by decide +kernel
theorem dX7_copyAll_17 : decode cX7_copyAll 17 = .ok (.iload_n 1, 1) := by decide +kernel
theorem dX7_copyAll_18 : decode cX7_copyAll 18 = .ok (.iload 4, 2) := by decide +kernel
theorem dX7_copyAll_20 : decode cX7_copyAll 20 = .ok (.iadd, 1) := by decide +kernel
theorem dX7_copyAll_21 : decode cX7_copyAll 21 = .ok (.iaload, 1) := by decide +kernel
theorem dX7_copyAll_22 : decode cX7_copyAll 22 = .ok (.iastore, 1) := by decide +kernel
theorem dX7_copyAll_23 : decode cX7_copyAll 23 = .ok (.iinc 4 1, 3) := by decide +kernel
theorem dX7_copyAll_26 : decode cX7_copyAll 26 = .ok (.goto (-23), 3) := by decide +kernel
theorem dX7_copyAll_29 : decode cX7_copyAll 29 = .ok (.return_, 1) := by decide +kernel
theorem dX7_isStation_0 : decode cX7_isStation 0 = .ok (.iload_n 1, 1) := by decide +kernel
theorem dX7_isStation_1 : decode cX7_isStation 1 = .ok (.iconst 0, 1) := by decide +kernel
theorem dX7_isStation_2 : decode cX7_isStation 2 = .ok (.aload_n 0, 1) := by decide +kernel
theorem dX7_isStation_3 : decode cX7_isStation 3 = .ok (.getfield 7, 3) := by decide +kernel
theorem dX7_isStation_6 : decode cX7_isStation 6 = .ok (.iconst 0, 1) := by decide +kernel
theorem dX7_isStation_7 : decode cX7_isStation 7 = .ok (.iaload, 1) := by decide +kernel
theorem dX7_isStation_8 : decode cX7_isStation 8 = .ok (.iconst 1, 1) := by decide +kernel
theorem dX7_isStation_9 : decode cX7_isStation 9 = .ok (.isub, 1) := by decide +kernel
theorem dX7_isStation_10 : decode cX7_isStation 10 = .ok (.invokestatic 57, 3) := by decide +kernel
theorem dX7_isStation_13 : decode cX7_isStation 13 = .ok (.ireturn, 1) := by decide +kernel
theorem dX7_isMessage_0 : decode cX7_isMessage 0 = .ok (.iload_n 1, 1) := by decide +kernel
theorem dX7_isMessage_1 : decode cX7_isMessage 1 = .ok (.iconst 0, 1) := by decide +kernel
theorem dX7_isMessage_2 : decode cX7_isMessage 2 = .ok (.aload_n 0, 1) := by decide +kernel
theorem dX7_isMessage_3 : decode cX7_isMessage 3 = .ok (.getfield 7, 3) := by decide +kernel
theorem dX7_isMessage_6 : decode cX7_isMessage 6 = .ok (.iconst 2, 1) := by decide +kernel
theorem dX7_isMessage_7 : decode cX7_isMessage 7 = .ok (.iaload, 1) := by decide +kernel
theorem dX7_isMessage_8 : decode cX7_isMessage 8 = .ok (.iconst 1, 1) := by decide +kernel
theorem dX7_isMessage_9 : decode cX7_isMessage 9 = .ok (.isub, 1) := by decide +kernel
theorem dX7_isMessage_10 : decode cX7_isMessage 10 = .ok (.invokestatic 57, 3) := by decide +kernel
theorem dX7_isMessage_13 : decode cX7_isMessage 13 = .ok (.ireturn, 1) := by decide +kernel
theorem dX7_ofStation_0 : decode cX7_ofStation 0 = .ok (.aload_n 0, 1) := by decide +kernel
theorem dX7_ofStation_1 : decode cX7_ofStation 1 = .ok (.getfield 7, 3) := by decide +kernel
theorem dX7_ofStation_4 : decode cX7_ofStation 4 = .ok (.bipush 8, 2) := by decide +kernel
theorem dX7_ofStation_6 : decode cX7_ofStation 6 = .ok (.bipush 7, 2) := by decide +kernel
theorem dX7_ofStation_8 : decode cX7_ofStation 8 = .ok (.iload_n 1, 1) := by decide +kernel
theorem dX7_ofStation_9 : decode cX7_ofStation 9 = .ok (.imul, 1) := by decide +kernel
theorem dX7_ofStation_10 : decode cX7_ofStation 10 = .ok (.iadd, 1) := by decide +kernel
theorem dX7_ofStation_11 : decode cX7_ofStation 11 = .ok (.iload_n 2, 1) := by decide +kernel
theorem dX7_ofStation_12 : decode cX7_ofStation 12 = .ok (.iadd, 1) := by decide +kernel
theorem dX7_ofStation_13 : decode cX7_ofStation 13 = .ok (.iaload, 1) := by decide +kernel
theorem dX7_ofStation_14 : decode cX7_ofStation 14 = .ok (.ireturn, 1) := by decide +kernel
theorem dX7_ofLink_0 : decode cX7_ofLink 0 = .ok (.aload_n 0, 1) := by decide +kernel
theorem dX7_ofLink_1 : decode cX7_ofLink 1 = .ok (.getfield 7, 3) := by decide +kernel
theorem dX7_ofLink_4 : decode cX7_ofLink 4 = .ok (.bipush 64, 2) := by decide +kernel
theorem dX7_ofLink_6 : decode cX7_ofLink 6 = .ok (.bipush 8, 2) := by decide +kernel
theorem dX7_ofLink_8 : decode cX7_ofLink 8 = .ok (.iload_n 1, 1) := by decide +kernel
theorem dX7_ofLink_9 : decode cX7_ofLink 9 = .ok (.imul, 1) := by decide +kernel
theorem dX7_ofLink_10 : decode cX7_ofLink 10 = .ok (.iadd, 1) := by decide +kernel
theorem dX7_ofLink_11 : decode cX7_ofLink 11 = .ok (.iload_n 2, 1) := by decide +kernel
theorem dX7_ofLink_12 : decode cX7_ofLink 12 = .ok (.iadd, 1) := by decide +kernel
theorem dX7_ofLink_13 : decode cX7_ofLink 13 = .ok (.iaload, 1) := by decide +kernel
theorem dX7_ofLink_14 : decode cX7_ofLink 14 = .ok (.ireturn, 1) := by decide +kernel
theorem dX7_ofMessage_0 : decode cX7_ofMessage 0 = .ok (.aload_n 0, 1) := by decide +kernel
theorem dX7_ofMessage_1 : decode cX7_ofMessage 1 = .ok (.getfield 7, 3) := by decide +kernel
theorem dX7_ofMessage_4 : decode cX7_ofMessage 4 = .ok (.sipush 192, 3) := by decide +kernel
theorem dX7_ofMessage_7 : decode cX7_ofMessage 7 = .ok (.bipush 8, 2) := by decide +kernel
theorem dX7_ofMessage_9 : decode cX7_ofMessage 9 = .ok (.iload_n 1, 1) := by decide +kernel
theorem dX7_ofMessage_10 : decode cX7_ofMessage 10 = .ok (.imul, 1) := by decide +kernel
theorem dX7_ofMessage_11 : decode cX7_ofMessage 11 = .ok (.iadd, 1) := by decide +kernel
theorem dX7_ofMessage_12 : decode cX7_ofMessage 12 = .ok (.iload_n 2, 1) := by decide +kernel
theorem dX7_ofMessage_13 : decode cX7_ofMessage 13 = .ok (.iadd, 1) := by decide +kernel
theorem dX7_ofMessage_14 : decode cX7_ofMessage 14 = .ok (.iaload, 1) := by decide +kernel
theorem dX7_ofMessage_15 : decode cX7_ofMessage 15 = .ok (.ireturn, 1) := by decide +kernel
theorem dX7_copyPlace_0 : decode cX7_copyPlace 0 = .ok (.sipush 384, 3) := by decide +kernel
theorem dX7_copyPlace_3 : decode cX7_copyPlace 3 = .ok (.bipush 12, 2) := by decide +kernel
theorem dX7_copyPlace_5 : decode cX7_copyPlace 5 = .ok (.bipush 8, 2) := by decide +kernel
theorem dX7_copyPlace_7 : decode cX7_copyPlace 7 = .ok (.iload_n 0, 1) := by decide +kernel
theorem dX7_copyPlace_8 : decode cX7_copyPlace 8 = .ok (.imul, 1) := by decide +kernel
theorem dX7_copyPlace_9 : decode cX7_copyPlace 9 = .ok (.iload_n 1, 1) := by decide +kernel
theorem dX7_copyPlace_10 : decode cX7_copyPlace 10 = .ok (.iadd, 1) := by decide +kernel
theorem dX7_copyPlace_11 : decode cX7_copyPlace 11 = .ok (.imul, 1) := by decide +kernel
theorem dX7_copyPlace_12 : decode cX7_copyPlace 12 = .ok (.iadd, 1) := by decide +kernel
theorem dX7_copyPlace_13 : decode cX7_copyPlace 13 = .ok (.ireturn, 1) := by decide +kernel
theorem dX7_ofCopy_0 : decode cX7_ofCopy 0 = .ok (.aload_n 0, 1) := by decide +kernel
theorem dX7_ofCopy_1 : decode cX7_ofCopy 1 = .ok (.getfield 7, 3) := by decide +kernel
theorem dX7_ofCopy_4 : decode cX7_ofCopy 4 = .ok (.iload_n 1, 1) := by decide +kernel
theorem dX7_ofCopy_5 : decode cX7_ofCopy 5 = .ok (.iload_n 2, 1) := by decide +kernel
theorem dX7_ofCopy_6 : decode cX7_ofCopy 6 = .ok (.invokestatic 61, 3) := by decide +kernel
theorem dX7_ofCopy_9 : decode cX7_ofCopy 9 = .ok (.iload_n 3, 1) := by decide +kernel
theorem dX7_ofCopy_10 : decode cX7_ofCopy 10 = .ok (.iadd, 1) := by decide +kernel
theorem dX7_ofCopy_11 : decode cX7_ofCopy 11 = .ok (.iaload, 1) := by decide +kernel
theorem dX7_ofCopy_12 : decode cX7_ofCopy 12 = .ok (.ireturn, 1) := by decide +kernel
theorem dX7_appendText_0 : decode cX7_appendText 0 = .ok (.aload_n 0, 1) := by decide +kernel
theorem dX7_appendText_1 : decode cX7_appendText 1 = .ok (.iconst 0, 1) := by decide +kernel
theorem dX7_appendText_2 : decode cX7_appendText 2 = .ok (.putfield 54, 3) := by decide +kernel
theorem dX7_appendText_5 : decode cX7_appendText 5 = .ok (.aload_n 0, 1) := by decide +kernel
theorem dX7_appendText_6 : decode cX7_appendText 6 = .ok (.getfield 65, 3) := by decide +kernel
theorem dX7_appendText_9 : decode cX7_appendText 9 = .ok (.iconst 4, 1) := by decide +kernel
theorem dX7_appendText_10 : decode cX7_appendText 10 = .ok (.iadd, 1) := by decide +kernel
theorem dX7_appendText_11 : decode cX7_appendText 11 = .ok (.sipush 700, 3) := by decide +kernel
theorem dX7_appendText_14 : decode cX7_appendText 14 = .ok (.if_icmp .le 9, 3) := by decide +kernel
theorem dX7_appendText_17 : decode cX7_appendText 17 = .ok (.aload_n 0, 1) := by decide +kernel
theorem dX7_appendText_18 : decode cX7_appendText 18 = .ok (.iconst 1, 1) := by decide +kernel
theorem dX7_appendText_19 : decode cX7_appendText 19 = .ok (.invokevirtual 68, 3) := by decide +kernel
theorem dX7_appendText_22 : decode cX7_appendText 22 = .ok (.ireturn, 1) := by decide +kernel
theorem dX7_appendText_23 : decode cX7_appendText 23 = .ok (.bipush 24, 2) := by decide +kernel
theorem dX7_appendText_25 : decode cX7_appendText 25 = .ok (.istore_n 2, 1) := by decide +kernel
theorem dX7_appendText_26 : decode cX7_appendText 26 = .ok (.iload_n 2, 1) := by decide +kernel
theorem dX7_appendText_27 : decode cX7_appendText 27 = .ok (.ifCond .lt 35, 3) := by decide +kernel
theorem dX7_appendText_30 : decode cX7_appendText 30 = .ok (.aload_n 0, 1) := by decide +kernel
theorem dX7_appendText_31 : decode cX7_appendText 31 = .ok (.getfield 26, 3) := by decide +kernel
theorem dX7_appendText_34 : decode cX7_appendText 34 = .ok (.aload_n 0, 1) := by decide +kernel
theorem dX7_appendText_35 : decode cX7_appendText 35 = .ok (.getfield 65, 3) := by decide +kernel
theorem dX7_appendText_38 : decode cX7_appendText 38 = .ok (.iload_n 1, 1) := by decide +kernel
theorem dX7_appendText_39 : decode cX7_appendText 39 = .ok (.iload_n 2, 1) := by decide +kernel
theorem dX7_appendText_40 : decode cX7_appendText 40 = .ok (.ishr, 1) := by decide +kernel
theorem dX7_appendText_41 : decode cX7_appendText 41 = .ok (.sipush 255, 3) := by decide +kernel
theorem dX7_appendText_44 : decode cX7_appendText 44 = .ok (.iand, 1) := by decide +kernel
theorem dX7_appendText_45 : decode cX7_appendText 45 = .ok (.iastore, 1) := by decide +kernel
theorem dX7_appendText_46 : decode cX7_appendText 46 = .ok (.aload_n 0, 1) := by decide +kernel
theorem dX7_appendText_47 : decode cX7_appendText 47 = .ok (.dup, 1) := by decide +kernel
theorem dX7_appendText_48 : decode cX7_appendText 48 = .ok (.getfield 65, 3) := by decide +kernel
theorem dX7_appendText_51 : decode cX7_appendText 51 = .ok (.iconst 1, 1) := by decide +kernel
theorem dX7_appendText_52 : decode cX7_appendText 52 = .ok (.iadd, 1) := by decide +kernel
theorem dX7_appendText_53 : decode cX7_appendText 53 = .ok (.putfield 65, 3) := by decide +kernel
theorem dX7_appendText_56 : decode cX7_appendText 56 = .ok (.iinc 2 (-8), 3) := by decide +kernel
theorem dX7_appendText_59 : decode cX7_appendText 59 = .ok (.goto (-33), 3) := by decide +kernel
theorem dX7_appendText_62 : decode cX7_appendText 62 = .ok (.aload_n 0, 1) := by decide +kernel
theorem dX7_appendText_63 : decode cX7_appendText 63 = .ok (.getfield 65, 3) := by decide +kernel
theorem dX7_appendText_66 : decode cX7_appendText 66 = .ok (.ireturn, 1) := by decide +kernel
theorem dX7_truncateText_0 : decode cX7_truncateText 0 = .ok (.aload_n 0, 1) := by decide +kernel
theorem dX7_truncateText_1 : decode cX7_truncateText 1 = .ok (.iconst 0, 1) := by decide +kernel
theorem dX7_truncateText_2 : decode cX7_truncateText 2 = .ok (.putfield 54, 3) := by decide +kernel
theorem dX7_truncateText_5 : decode cX7_truncateText 5 = .ok (.iload_n 1, 1) := by decide +kernel
theorem dX7_truncateText_6 : decode cX7_truncateText 6 = .ok (.iconst 0, 1) := by decide +kernel
theorem dX7_truncateText_7 : decode cX7_truncateText 7 = .ok (.aload_n 0, 1) := by decide +kernel
theorem dX7_truncateText_8 : decode cX7_truncateText 8 = .ok (.getfield 65, 3) := by decide +kernel
theorem dX7_truncateText_11 : decode cX7_truncateText 11 = .ok (.invokestatic 57, 3) := by decide +kernel
theorem dX7_truncateText_14 : decode cX7_truncateText 14 = .ok (.ifCond .ne 9, 3) := by decide +kernel
theorem dX7_truncateText_17 : decode cX7_truncateText 17 = .ok (.aload_n 0, 1) := by decide +kernel
theorem dX7_truncateText_18 : decode cX7_truncateText 18 = .ok (.iconst 1, 1) := by decide +kernel
theorem dX7_truncateText_19 : decode cX7_truncateText 19 = .ok (.invokevirtual 68, 3) := by decide +kernel
theorem dX7_truncateText_22 : decode cX7_truncateText 22 = .ok (.ireturn, 1) := by decide +kernel
theorem dX7_truncateText_23 : decode cX7_truncateText 23 = .ok (.aload_n 0, 1) := by decide +kernel
theorem dX7_truncateText_24 : decode cX7_truncateText 24 = .ok (.iload_n 1, 1) := by decide +kernel
theorem dX7_truncateText_25 : decode cX7_truncateText 25 = .ok (.putfield 65, 3) := by decide +kernel
theorem dX7_truncateText_28 : decode cX7_truncateText 28 = .ok (.aload_n 0, 1) := by decide +kernel
theorem dX7_truncateText_29 : decode cX7_truncateText 29 = .ok (.getfield 65, 3) := by decide +kernel
theorem dX7_truncateText_32 : decode cX7_truncateText 32 = .ok (.ireturn, 1) := by decide +kernel
theorem dX7_byteAt_0 : decode cX7_byteAt 0 = .ok (.iload_n 1, 1) := by decide +kernel
theorem dX7_byteAt_1 : decode cX7_byteAt 1 = .ok (.aload_n 0, 1) := by decide +kernel
theorem dX7_byteAt_2 : decode cX7_byteAt 2 = .ok (.getfield 65, 3) := by decide +kernel
theorem dX7_byteAt_5 : decode cX7_byteAt 5 = .ok (.if_icmp .ge 12, 3) := by decide +kernel
theorem dX7_byteAt_8 : decode cX7_byteAt 8 = .ok (.aload_n 0, 1) := by decide +kernel
theorem dX7_byteAt_9 : decode cX7_byteAt 9 = .ok (.getfield 26, 3) := by decide +kernel
theorem dX7_byteAt_12 : decode cX7_byteAt 12 = .ok (.iload_n 1, 1) := by decide +kernel
theorem dX7_byteAt_13 : decode cX7_byteAt 13 = .ok (.iaload, 1) := by decide +kernel
theorem dX7_byteAt_14 : decode cX7_byteAt 14 = .ok (.goto 4, 3) := by decide +kernel
theorem dX7_byteAt_17 : decode cX7_byteAt 17 = .ok (.iconst (-1), 1) := by decide +kernel
theorem dX7_byteAt_18 : decode cX7_byteAt 18 = .ok (.ireturn, 1) := by decide +kernel
theorem dX7_isLetter_0 : decode cX7_isLetter 0 = .ok (.iload_n 0, 1) := by decide +kernel
theorem dX7_isLetter_1 : decode cX7_isLetter 1 = .ok (.bipush 97, 2) := by decide +kernel
theorem dX7_isLetter_3 : decode cX7_isLetter 3 = .ok (.bipush 122, 2) := by decide +kernel
theorem dX7_isLetter_5 : decode cX7_isLetter 5 = .ok (.invokestatic 57, 3) := by decide +kernel
theorem dX7_isLetter_8 : decode cX7_isLetter 8 = .ok (.ireturn, 1) := by decide +kernel
theorem dX7_isDigit_0 : decode cX7_isDigit 0 = .ok (.iload_n 0, 1) := by decide +kernel
theorem dX7_isDigit_1 : decode cX7_isDigit 1 = .ok (.bipush 48, 2) := by decide +kernel
theorem dX7_isDigit_3 : decode cX7_isDigit 3 = .ok (.bipush 57, 2) := by decide +kernel
theorem dX7_isDigit_5 : decode cX7_isDigit 5 = .ok (.invokestatic 57, 3) := by decide +kernel
theorem dX7_isDigit_8 : decode cX7_isDigit 8 = .ok (.ireturn, 1) := by decide +kernel
theorem dX7_nextToken_0 : decode cX7_nextToken 0 = .ok (.aload_n 0, 1) := by decide +kernel
theorem dX7_nextToken_1 : decode cX7_nextToken 1 = .ok (.aload_n 0, 1) := by decide +kernel
theorem dX7_nextToken_2 : decode cX7_nextToken 2 = .ok (.getfield 72, 3) := by decide +kernel
theorem dX7_nextToken_5 : decode cX7_nextToken 5 = .ok (.invokevirtual 75, 3) := by decide +kernel
theorem dX7_nextToken_8 : decode cX7_nextToken 8 = .ok (.bipush 32, 2) := by decide +kernel
theorem dX7_nextToken_10 : decode cX7_nextToken 10 = .ok (.if_icmp .eq 16, 3) := by decide +kernel
theorem dX7_nextToken_13 : decode cX7_nextToken 13 = .ok (.aload_n 0, 1) := by decide +kernel
theorem dX7_nextToken_14 : decode cX7_nextToken 14 = .ok (.aload_n 0, 1) := by decide +kernel
theorem dX7_nextToken_15 : decode cX7_nextToken 15 = .ok (.getfield 72, 3) := by decide +kernel
theorem dX7_nextToken_18 : decode cX7_nextToken 18 = .ok (.invokevirtual 75, 3) := by decide +kernel
theorem dX7_nextToken_21 : decode cX7_nextToken 21 = .ok (.bipush 10, 2) := by decide +kernel
theorem dX7_nextToken_23 : decode cX7_nextToken 23 = .ok (.if_icmp .ne 16, 3) := by decide +kernel
theorem dX7_nextToken_26 : decode cX7_nextToken 26 = .ok (.aload_n 0, 1) := by decide +kernel
theorem dX7_nextToken_27 : decode cX7_nextToken 27 = .ok (.dup, 1) := by decide +kernel
theorem dX7_nextToken_28 : decode cX7_nextToken 28 = .ok (.getfield 72, 3) := by decide +kernel
theorem dX7_nextToken_31 : decode cX7_nextToken 31 = .ok (.iconst 1, 1) := by decide +kernel
theorem dX7_nextToken_32 : decode cX7_nextToken 32 = .ok (.iadd, 1) := by decide +kernel
theorem dX7_nextToken_33 : decode cX7_nextToken 33 = .ok (.putfield 72, 3) := by decide +kernel
theorem dX7_nextToken_36 : decode cX7_nextToken 36 = .ok (.goto (-36), 3) := by decide +kernel
theorem dX7_nextToken_39 : decode cX7_nextToken 39 = .ok (.aload_n 0, 1) := by decide +kernel
theorem dX7_nextToken_40 : decode cX7_nextToken 40 = .ok (.aload_n 0, 1) := by decide +kernel
theorem dX7_nextToken_41 : decode cX7_nextToken 41 = .ok (.getfield 72, 3) := by decide +kernel
theorem dX7_nextToken_44 : decode cX7_nextToken 44 = .ok (.putfield 78, 3) := by decide +kernel
theorem dX7_nextToken_47 : decode cX7_nextToken 47 = .ok (.aload_n 0, 1) := by decide +kernel
theorem dX7_nextToken_48 : decode cX7_nextToken 48 = .ok (.iconst 0, 1) := by decide +kernel
theorem dX7_nextToken_49 : decode cX7_nextToken 49 = .ok (.putfield 81, 3) := by decide +kernel
theorem dX7_nextToken_52 : decode cX7_nextToken 52 = .ok (.aload_n 0, 1) := by decide +kernel
theorem dX7_nextToken_53 : decode cX7_nextToken 53 = .ok (.lconst 0, 1) := by decide +kernel
theorem dX7_nextToken_54 : decode cX7_nextToken 54 = .ok (.putfield 84, 3) := by decide +kernel
theorem dX7_nextToken_57 : decode cX7_nextToken 57 = .ok (.aload_n 0, 1) := by decide +kernel
theorem dX7_nextToken_58 : decode cX7_nextToken 58 = .ok (.iconst 0, 1) := by decide +kernel
theorem dX7_nextToken_59 : decode cX7_nextToken 59 = .ok (.putfield 88, 3) := by decide +kernel
theorem dX7_nextToken_62 : decode cX7_nextToken 62 = .ok (.aload_n 0, 1) := by decide +kernel
theorem dX7_nextToken_63 : decode cX7_nextToken 63 = .ok (.aload_n 0, 1) := by decide +kernel
theorem dX7_nextToken_64 : decode cX7_nextToken 64 = .ok (.getfield 72, 3) := by decide +kernel
theorem dX7_nextToken_67 : decode cX7_nextToken 67 = .ok (.invokevirtual 75, 3) := by decide +kernel
theorem dX7_nextToken_70 : decode cX7_nextToken 70 = .ok (.istore_n 1, 1) := by decide +kernel
theorem dX7_nextToken_71 : decode cX7_nextToken 71 = .ok (.iload_n 1, 1) := by decide +kernel
theorem dX7_nextToken_72 : decode cX7_nextToken 72 = .ok (.iconst (-1), 1) := by decide +kernel
theorem dX7_nextToken_73 : decode cX7_nextToken 73 = .ok (.if_icmp .ne 11, 3) := by decide +kernel
theorem dX7_nextToken_76 : decode cX7_nextToken 76 = .ok (.aload_n 0, 1) := by decide +kernel
theorem dX7_nextToken_77 : decode cX7_nextToken 77 = .ok (.iconst 0, 1) := by decide +kernel
theorem dX7_nextToken_78 : decode cX7_nextToken 78 = .ok (.putfield 91, 3) := by decide +kernel
theorem dX7_nextToken_81 : decode cX7_nextToken 81 = .ok (.goto 197, 3) := by decide +kernel
theorem dX7_nextToken_84 : decode cX7_nextToken 84 = .ok (.iload_n 1, 1) := by decide +kernel
theorem dX7_nextToken_85 : decode cX7_nextToken 85 = .ok (.invokestatic 94, 3) := by decide +kernel
theorem dX7_nextToken_88 : decode cX7_nextToken 88 = .ok (.ifCond .eq 87, 3) := by decide +kernel
theorem dX7_nextToken_91 : decode cX7_nextToken 91 = .ok (.aload_n 0, 1) := by decide +kernel
theorem dX7_nextToken_92 : decode cX7_nextToken 92 = .ok (.iconst 2, 1) := by decide +kernel
theorem dX7_nextToken_93 : decode cX7_nextToken 93 = .ok (.putfield 91, 3) := by decide +kernel
theorem dX7_nextToken_96 : decode cX7_nextToken 96 = .ok (.aload_n 0, 1) := by decide +kernel
theorem dX7_nextToken_97 : decode cX7_nextToken 97 = .ok (.aload_n 0, 1) := by decide +kernel
theorem dX7_nextToken_98 : decode cX7_nextToken 98 = .ok (.getfield 72, 3) := by decide +kernel
theorem dX7_nextToken_101 : decode cX7_nextToken 101 = .ok (.invokevirtual 75, 3) := by decide +kernel
theorem dX7_nextToken_104 : decode cX7_nextToken 104 = .ok (.invokestatic 94, 3) := by decide +kernel
theorem dX7_nextToken_107 : decode cX7_nextToken 107 = .ok (.ifCond .eq 171, 3) := by decide +kernel
theorem dX7_nextToken_110 : decode cX7_nextToken 110 = .ok (.aload_n 0, 1) := by decide +kernel
theorem dX7_nextToken_111 : decode cX7_nextToken 111 = .ok (.aload_n 0, 1) := by decide +kernel
theorem dX7_nextToken_112 : decode cX7_nextToken 112 = .ok (.getfield 81, 3) := by decide +kernel
theorem dX7_nextToken_115 : decode cX7_nextToken 115 = .ok (.bipush 11, 2) := by decide +kernel
theorem dX7_nextToken_117 : decode cX7_nextToken 117 = .ok (.if_icmp .ge 28, 3) := by decide +kernel
theorem dX7_nextToken_120 : decode cX7_nextToken 120 = .ok (.ldc2_w 98, 3) := by decide +kernel
theorem dX7_nextToken_123 : decode cX7_nextToken 123 = .ok (.aload_n 0, 1) := by decide +kernel
theorem dX7_nextToken_124 : decode cX7_nextToken 124 = .ok (.getfield 84, 3) := by decide +kernel
theorem dX7_nextToken_127 : decode cX7_nextToken 127 = .ok (.lmul, 1) := by decide +kernel
theorem dX7_nextToken_128 : decode cX7_nextToken 128 = .ok (.aload_n 0, 1) := by decide +kernel
theorem dX7_nextToken_129 : decode cX7_nextToken 129 = .ok (.aload_n 0, 1) := by decide +kernel
theorem dX7_nextToken_130 : decode cX7_nextToken 130 = .ok (.getfield 72, 3) := by decide +kernel
theorem dX7_nextToken_133 : decode cX7_nextToken 133 = .ok (.invokevirtual 75, 3) := by decide +kernel
theorem dX7_nextToken_136 : decode cX7_nextToken 136 = .ok (.i2l, 1) := by decide +kernel
theorem dX7_nextToken_137 : decode cX7_nextToken 137 = .ok (.ladd, 1) := by decide +kernel
theorem dX7_nextToken_138 : decode cX7_nextToken 138 = .ok (.ldc2_w 100, 3) := by decide +kernel
theorem dX7_nextToken_141 : decode cX7_nextToken 141 = .ok (.lsub, 1) := by decide +kernel
theorem dX7_nextToken_142 : decode cX7_nextToken 142 = .ok (.goto 7, 3) := by decide +kernel
theorem dX7_nextToken_145 : decode cX7_nextToken 145 = .ok (.aload_n 0, 1) := by decide +kernel
theorem dX7_nextToken_146 : decode cX7_nextToken 146 = .ok (.getfield 84, 3) := by decide +kernel
theorem dX7_nextToken_149 : decode cX7_nextToken 149 = .ok (.putfield 84, 3) := by decide +kernel
theorem dX7_nextToken_152 : decode cX7_nextToken 152 = .ok (.aload_n 0, 1) := by decide +kernel
theorem dX7_nextToken_153 : decode cX7_nextToken 153 = .ok (.dup, 1) := by decide +kernel
theorem dX7_nextToken_154 : decode cX7_nextToken 154 = .ok (.getfield 81, 3) := by decide +kernel
theorem dX7_nextToken_157 : decode cX7_nextToken 157 = .ok (.iconst 1, 1) := by decide +kernel
theorem dX7_nextToken_158 : decode cX7_nextToken 158 = .ok (.iadd, 1) := by decide +kernel
theorem dX7_nextToken_159 : decode cX7_nextToken 159 = .ok (.putfield 81, 3) := by decide +kernel
theorem dX7_nextToken_162 : decode cX7_nextToken 162 = .ok (.aload_n 0, 1) := by decide +kernel
theorem dX7_nextToken_163 : decode cX7_nextToken 163 = .ok (.dup, 1) := by decide +kernel
theorem dX7_nextToken_164 : decode cX7_nextToken 164 = .ok (.getfield 72, 3) := by decide +kernel
theorem dX7_nextToken_167 : decode cX7_nextToken 167 = .ok (.iconst 1, 1) := by decide +kernel
theorem dX7_nextToken_168 : decode cX7_nextToken 168 = .ok (.iadd, 1) := by decide +kernel
theorem dX7_nextToken_169 : decode cX7_nextToken 169 = .ok (.putfield 72, 3) := by decide +kernel
theorem dX7_nextToken_172 : decode cX7_nextToken 172 = .ok (.goto (-76), 3) := by decide +kernel
theorem dX7_nextToken_175 : decode cX7_nextToken 175 = .ok (.iload_n 1, 1) := by decide +kernel
theorem dX7_nextToken_176 : decode cX7_nextToken 176 = .ok (.invokestatic 102, 3) := by decide +kernel
theorem dX7_nextToken_179 : decode cX7_nextToken 179 = .ok (.ifCond .eq 74, 3) := by decide +kernel
theorem dX7_nextToken_182 : decode cX7_nextToken 182 = .ok (.aload_n 0, 1) := by decide +kernel
theorem dX7_nextToken_183 : decode cX7_nextToken 183 = .ok (.iconst 3, 1) := by decide +kernel
theorem dX7_nextToken_184 : decode cX7_nextToken 184 = .ok (.putfield 91, 3) := by decide +kernel
theorem dX7_nextToken_187 : decode cX7_nextToken 187 = .ok (.aload_n 0, 1) := by decide +kernel
theorem dX7_nextToken_188 : decode cX7_nextToken 188 = .ok (.aload_n 0, 1) := by decide +kernel
theorem dX7_nextToken_189 : decode cX7_nextToken 189 = .ok (.getfield 72, 3) := by decide +kernel
theorem dX7_nextToken_192 : decode cX7_nextToken 192 = .ok (.invokevirtual 75, 3) := by decide +kernel
theorem dX7_nextToken_195 : decode cX7_nextToken 195 = .ok (.invokestatic 102, 3) := by decide +kernel
theorem dX7_nextToken_198 : decode cX7_nextToken 198 = .ok (.ifCond .eq 80, 3) := by decide +kernel
theorem dX7_nextToken_201 : decode cX7_nextToken 201 = .ok (.aload_n 0, 1) := by decide +kernel
theorem dX7_nextToken_202 : decode cX7_nextToken 202 = .ok (.aload_n 0, 1) := by decide +kernel
theorem dX7_nextToken_203 : decode cX7_nextToken 203 = .ok (.getfield 88, 3) := by decide +kernel
theorem dX7_nextToken_206 : decode cX7_nextToken 206 = .ok (.ldc 105, 2) := by decide +kernel
theorem dX7_nextToken_208 : decode cX7_nextToken 208 = .ok (.if_icmp .le 10, 3) := by decide +kernel
theorem dX7_nextToken_211 : decode cX7_nextToken 211 = .ok (.aload_n 0, 1) := by decide +kernel
theorem dX7_nextToken_212 : decode cX7_nextToken 212 = .ok (.getfield 88, 3) := by decide +kernel
theorem dX7_nextToken_215 : decode cX7_nextToken 215 = .ok (.goto 22, 3) := by decide +kernel
theorem dX7_nextToken_218 : decode cX7_nextToken 218 = .ok (.bipush 10, 2) := by decide +kernel
theorem dX7_nextToken_220 : decode cX7_nextToken 220 = .ok (.aload_n 0, 1) := by decide +kernel
theorem dX7_nextToken_221 : decode cX7_nextToken 221 = .ok (.getfield 88, 3) := by decide +kernel
theorem dX7_nextToken_224 : decode cX7_nextToken 224 = .ok (.imul, 1) := by decide +kernel
theorem dX7_nextToken_225 : decode cX7_nextToken 225 = .ok (.aload_n 0, 1) := by decide +kernel
theorem dX7_nextToken_226 : decode cX7_nextToken 226 = .ok (.aload_n 0, 1) := by decide +kernel
theorem dX7_nextToken_227 : decode cX7_nextToken 227 = .ok (.getfield 72, 3) := by decide +kernel
theorem dX7_nextToken_230 : decode cX7_nextToken 230 = .ok (.invokevirtual 75, 3) := by decide +kernel
theorem dX7_nextToken_233 : decode cX7_nextToken 233 = .ok (.iadd, 1) := by decide +kernel
theorem dX7_nextToken_234 : decode cX7_nextToken 234 = .ok (.bipush 48, 2) := by decide +kernel
theorem dX7_nextToken_236 : decode cX7_nextToken 236 = .ok (.isub, 1) := by decide +kernel
theorem dX7_nextToken_237 : decode cX7_nextToken 237 = .ok (.putfield 88, 3) := by decide +kernel
theorem dX7_nextToken_240 : decode cX7_nextToken 240 = .ok (.aload_n 0, 1) := by decide +kernel
theorem dX7_nextToken_241 : decode cX7_nextToken 241 = .ok (.dup, 1) := by decide +kernel
theorem dX7_nextToken_242 : decode cX7_nextToken 242 = .ok (.getfield 72, 3) := by decide +kernel
theorem dX7_nextToken_245 : decode cX7_nextToken 245 = .ok (.iconst 1, 1) := by decide +kernel
theorem dX7_nextToken_246 : decode cX7_nextToken 246 = .ok (.iadd, 1) := by decide +kernel
theorem dX7_nextToken_247 : decode cX7_nextToken 247 = .ok (.putfield 72, 3) := by decide +kernel
theorem dX7_nextToken_250 : decode cX7_nextToken 250 = .ok (.goto (-63), 3) := by decide +kernel
theorem dX7_nextToken_253 : decode cX7_nextToken 253 = .ok (.aload_n 0, 1) := by decide +kernel
theorem dX7_nextToken_254 : decode cX7_nextToken 254 = .ok (.iload_n 1, 1) := by decide +kernel
theorem dX7_nextToken_255 : decode cX7_nextToken 255 = .ok (.bipush 59, 2) := by decide +kernel
theorem dX7_nextToken_257 : decode cX7_nextToken 257 = .ok (.if_icmp .ne 7, 3) := by decide +kernel
theorem dX7_nextToken_260 : decode cX7_nextToken 260 = .ok (.iconst 4, 1) := by decide +kernel
theorem dX7_nextToken_261 : decode cX7_nextToken 261 = .ok (.goto 4, 3) := by decide +kernel
theorem dX7_nextToken_264 : decode cX7_nextToken 264 = .ok (.iconst 1, 1) := by decide +kernel
theorem dX7_nextToken_265 : decode cX7_nextToken 265 = .ok (.putfield 91, 3) := by decide +kernel
theorem dX7_nextToken_268 : decode cX7_nextToken 268 = .ok (.aload_n 0, 1) := by decide +kernel
theorem dX7_nextToken_269 : decode cX7_nextToken 269 = .ok (.dup, 1) := by decide +kernel
theorem dX7_nextToken_270 : decode cX7_nextToken 270 = .ok (.getfield 72, 3) := by decide +kernel
theorem dX7_nextToken_273 : decode cX7_nextToken 273 = .ok (.iconst 1, 1) := by decide +kernel
theorem dX7_nextToken_274 : decode cX7_nextToken 274 = .ok (.iadd, 1) := by decide +kernel
theorem dX7_nextToken_275 : decode cX7_nextToken 275 = .ok (.putfield 72, 3) := by decide +kernel
theorem dX7_nextToken_278 : decode cX7_nextToken 278 = .ok (.return_, 1) := by decide +kernel
theorem dX7_isWord_0 : decode cX7_isWord 0 = .ok (.aload_n 0, 1) := by decide +kernel
theorem dX7_isWord_1 : decode cX7_isWord 1 = .ok (.getfield 91, 3) := by decide +kernel
theorem dX7_isWord_4 : decode cX7_isWord 4 = .ok (.iconst 2, 1) := by decide +kernel
theorem dX7_isWord_5 : decode cX7_isWord 5 = .ok (.if_icmp .ne 14, 3) := by decide +kernel
theorem dX7_isWord_8 : decode cX7_isWord 8 = .ok (.aload_n 0, 1) := by decide +kernel
theorem dX7_isWord_9 : decode cX7_isWord 9 = .ok (.getfield 81, 3) := by decide +kernel
theorem dX7_isWord_12 : decode cX7_isWord 12 = .ok (.aload_n 1, 1) := by decide +kernel
theorem dX7_isWord_13 : decode cX7_isWord 13 = .ok (.invokevirtual 106, 3) := by decide +kernel
theorem dX7_isWord_16 : decode cX7_isWord 16 = .ok (.if_icmp .eq 5, 3) := by decide +kernel
theorem dX7_isWord_19 : decode cX7_isWord 19 = .ok (.iconst 0, 1) := by decide +kernel
theorem dX7_isWord_20 : decode cX7_isWord 20 = .ok (.ireturn, 1) := by decide +kernel
theorem dX7_isWord_21 : decode cX7_isWord 21 = .ok (.lconst 0, 1) := by decide +kernel
theorem dX7_isWord_22 : decode cX7_isWord 22 = .ok (.lstore_n 2, 1) := by decide +kernel
theorem dX7_isWord_23 : decode cX7_isWord 23 = .ok (.iconst 0, 1) := by decide +kernel
theorem dX7_isWord_24 : decode cX7_isWord 24 = .ok (.istore 4, 2) := by decide +kernel
theorem dX7_isWord_26 : decode cX7_isWord 26 = .ok (.iload 4, 2) := by decide +kernel
theorem dX7_isWord_28 : decode cX7_isWord 28 = .ok (.aload_n 1, 1) := by decide +kernel
theorem dX7_isWord_29 : decode cX7_isWord 29 = .ok (.invokevirtual 106, 3) := by decide +kernel
theorem dX7_isWord_32 : decode cX7_isWord 32 = .ok (.if_icmp .ge 27, 3) := by decide +kernel
theorem dX7_isWord_35 : decode cX7_isWord 35 = .ok (.ldc2_w 98, 3) := by decide +kernel
theorem dX7_isWord_38 : decode cX7_isWord 38 = .ok (.lload_n 2, 1) := by decide +kernel
theorem dX7_isWord_39 : decode cX7_isWord 39 = .ok (.lmul, 1) := by decide +kernel
theorem dX7_isWord_40 : decode cX7_isWord 40 = .ok (.aload_n 1, 1) := by decide +kernel
theorem dX7_isWord_41 : decode cX7_isWord 41 = .ok (.iload 4, 2) := by decide +kernel
theorem dX7_isWord_43 : decode cX7_isWord 43 = .ok (.invokevirtual 112, 3) := by decide +kernel
theorem dX7_isWord_46 : decode cX7_isWord 46 = .ok (.i2l, 1) := by decide +kernel
theorem dX7_isWord_47 : decode cX7_isWord 47 = .ok (.ladd, 1) := by decide +kernel
theorem dX7_isWord_48 : decode cX7_isWord 48 = .ok (.ldc2_w 100, 3) := by decide +kernel
theorem dX7_isWord_51 : decode cX7_isWord 51 = .ok (.lsub, 1) := by decide +kernel
theorem dX7_isWord_52 : decode cX7_isWord 52 = .ok (.lstore_n 2, 1) := by decide +kernel
theorem dX7_isWord_53 : decode cX7_isWord 53 = .ok (.iinc 4 1, 3) := by decide +kernel
theorem dX7_isWord_56 : decode cX7_isWord 56 = .ok (.goto (-30), 3) := by decide +kernel
theorem dX7_isWord_59 : decode cX7_isWord 59 = .ok (.aload_n 0, 1) := by decide +kernel
theorem dX7_isWord_60 : decode cX7_isWord 60 = .ok (.getfield 84, 3) := by decide +kernel
theorem dX7_isWord_63 : decode cX7_isWord 63 = .ok (.lload_n 2, 1) := by decide +kernel
theorem dX7_isWord_64 : decode cX7_isWord 64 = .ok (.lcmp, 1) := by decide +kernel
theorem dX7_isWord_65 : decode cX7_isWord 65 = .ok (.ifCond .ne 7, 3) := by decide +kernel
theorem dX7_isWord_68 : decode cX7_isWord 68 = .ok (.iconst 1, 1) := by decide +kernel
theorem dX7_isWord_69 : decode cX7_isWord 69 = .ok (.goto 4, 3) := by decide +kernel
theorem dX7_isWord_72 : decode cX7_isWord 72 = .ok (.iconst 0, 1) := by decide +kernel
theorem dX7_isWord_73 : decode cX7_isWord 73 = .ok (.ireturn, 1) := by decide +kernel
theorem dX7_require_0 : decode cX7_require 0 = .ok (.iload_n 1, 1) := by decide +kernel
theorem dX7_require_1 : decode cX7_require 1 = .ok (.ifCond .ne 23, 3) := by decide +kernel
theorem dX7_require_4 : decode cX7_require 4 = .ok (.aload_n 0, 1) := by decide +kernel
theorem dX7_require_5 : decode cX7_require 5 = .ok (.getfield 116, 3) := by decide +kernel
theorem dX7_require_8 : decode cX7_require 8 = .ok (.ifCond .ne 16, 3) := by decide +kernel
theorem dX7_require_11 : decode cX7_require 11 = .ok (.aload_n 0, 1) := by decide +kernel
theorem dX7_require_12 : decode cX7_require 12 = .ok (.iload_n 2, 1) := by decide +kernel
theorem dX7_require_13 : decode cX7_require 13 = .ok (.putfield 116, 3) := by decide +kernel
theorem dX7_require_16 : decode cX7_require 16 = .ok (.aload_n 0, 1) := by decide +kernel
theorem dX7_require_17 : decode cX7_require 17 = .ok (.aload_n 0, 1) := by decide +kernel
theorem dX7_require_18 : decode cX7_require 18 = .ok (.getfield 78, 3) := by decide +kernel
theorem dX7_require_21 : decode cX7_require 21 = .ok (.putfield 29, 3) := by decide +kernel
theorem dX7_require_24 : decode cX7_require 24 = .ok (.return_, 1) := by decide +kernel
theorem dX7_isFine_0 : decode cX7_isFine 0 = .ok (.aload_n 0, 1) := by decide +kernel
theorem dX7_isFine_1 : decode cX7_isFine 1 = .ok (.getfield 116, 3) := by decide +kernel
theorem dX7_isFine_4 : decode cX7_isFine 4 = .ok (.ifCond .ne 7, 3) := by decide +kernel
theorem dX7_isFine_7 : decode cX7_isFine 7 = .ok (.iconst 1, 1) := by decide +kernel
theorem dX7_isFine_8 : decode cX7_isFine 8 = .ok (.goto 4, 3) := by decide +kernel
theorem dX7_isFine_11 : decode cX7_isFine 11 = .ok (.iconst 0, 1) := by decide +kernel
theorem dX7_isFine_12 : decode cX7_isFine 12 = .ok (.ireturn, 1) := by decide +kernel
theorem dX7_advance_0 : decode cX7_advance 0 = .ok (.aload_n 0, 1) := by decide +kernel
theorem dX7_advance_1 : decode cX7_advance 1 = .ok (.invokevirtual 119, 3) := by decide +kernel
theorem dX7_advance_4 : decode cX7_advance 4 = .ok (.ifCond .eq 7, 3) := by decide +kernel
theorem dX7_advance_7 : decode cX7_advance 7 = .ok (.aload_n 0, 1) := by decide +kernel
theorem dX7_advance_8 : decode cX7_advance 8 = .ok (.invokevirtual 123, 3) := by decide +kernel
theorem dX7_advance_11 : decode cX7_advance 11 = .ok (.return_, 1) := by decide +kernel
theorem dX7_accept_0 : decode cX7_accept 0 = .ok (.aload_n 0, 1) := by decide +kernel
theorem dX7_accept_1 : decode cX7_accept 1 = .ok (.invokevirtual 119, 3) := by decide +kernel
theorem dX7_accept_4 : decode cX7_accept 4 = .ok (.ifCond .eq 15, 3) := by decide +kernel
theorem dX7_accept_7 : decode cX7_accept 7 = .ok (.aload_n 0, 1) := by decide +kernel
theorem dX7_accept_8 : decode cX7_accept 8 = .ok (.aload_n 1, 1) := by decide +kernel
theorem dX7_accept_9 : decode cX7_accept 9 = .ok (.invokevirtual 126, 3) := by decide +kernel
theorem dX7_accept_12 : decode cX7_accept 12 = .ok (.ifCond .eq 7, 3) := by decide +kernel
theorem dX7_accept_15 : decode cX7_accept 15 = .ok (.iconst 1, 1) := by decide +kernel
theorem dX7_accept_16 : decode cX7_accept 16 = .ok (.goto 4, 3) := by decide +kernel
theorem dX7_accept_19 : decode cX7_accept 19 = .ok (.iconst 0, 1) := by decide +kernel
theorem dX7_accept_20 : decode cX7_accept 20 = .ok (.istore_n 2, 1) := by decide +kernel
theorem dX7_accept_21 : decode cX7_accept 21 = .ok (.iload_n 2, 1) := by decide +kernel
theorem dX7_accept_22 : decode cX7_accept 22 = .ok (.ifCond .eq 7, 3) := by decide +kernel
theorem dX7_accept_25 : decode cX7_accept 25 = .ok (.aload_n 0, 1) := by decide +kernel
theorem dX7_accept_26 : decode cX7_accept 26 = .ok (.invokevirtual 123, 3) := by decide +kernel
theorem dX7_accept_29 : decode cX7_accept 29 = .ok (.iload_n 2, 1) := by decide +kernel
theorem dX7_accept_30 : decode cX7_accept 30 = .ok (.ireturn, 1) := by decide +kernel
theorem dX7_look_0 : decode cX7_look 0 = .ok (.aload_n 0, 1) := by decide +kernel
theorem dX7_look_1 : decode cX7_look 1 = .ok (.aload_n 0, 1) := by decide +kernel
theorem dX7_look_2 : decode cX7_look 2 = .ok (.getfield 91, 3) := by decide +kernel
theorem dX7_look_5 : decode cX7_look 5 = .ok (.iconst 3, 1) := by decide +kernel
theorem dX7_look_6 : decode cX7_look 6 = .ok (.if_icmp .ne 7, 3) := by decide +kernel
theorem dX7_look_9 : decode cX7_look 9 = .ok (.iconst 1, 1) := by decide +kernel
theorem dX7_look_10 : decode cX7_look 10 = .ok (.goto 4, 3) := by decide +kernel
theorem dX7_look_13 : decode cX7_look 13 = .ok (.iconst 0, 1) := by decide +kernel
theorem dX7_look_14 : decode cX7_look 14 = .ok (.iconst 1, 1) := by decide +kernel
theorem dX7_look_15 : decode cX7_look 15 = .ok (.invokevirtual 130, 3) := by decide +kernel
theorem dX7_look_18 : decode cX7_look 18 = .ok (.aload_n 0, 1) := by decide +kernel
theorem dX7_look_19 : decode cX7_look 19 = .ok (.aload_n 0, 1) := by decide +kernel
theorem dX7_look_20 : decode cX7_look 20 = .ok (.getfield 88, 3) := by decide +kernel
theorem dX7_look_23 : decode cX7_look 23 = .ok (.iload_n 1, 1) := by decide +kernel
theorem dX7_look_24 : decode cX7_look 24 = .ok (.iload_n 2, 1) := by decide +kernel
theorem dX7_look_25 : decode cX7_look 25 = .ok (.invokestatic 57, 3) := by decide +kernel
theorem dX7_look_28 : decode cX7_look 28 = .ok (.iconst 2, 1) := by decide +kernel
theorem dX7_look_29 : decode cX7_look 29 = .ok (.invokevirtual 130, 3) := by decide +kernel
theorem dX7_look_32 : decode cX7_look 32 = .ok (.return_, 1) := by decide +kernel
theorem dX7_parseNumber_0 : decode cX7_parseNumber 0 = .ok (.aload_n 0, 1) := by decide +kernel
theorem dX7_parseNumber_1 : decode cX7_parseNumber 1 = .ok (.iload_n 1, 1) := by decide +kernel
theorem dX7_parseNumber_2 : decode cX7_parseNumber 2 = .ok (.iload_n 2, 1) := by decide +kernel
theorem dX7_parseNumber_3 : decode cX7_parseNumber 3 = .ok (.invokevirtual 134, 3) := by decide +kernel
theorem dX7_parseNumber_6 : decode cX7_parseNumber 6 = .ok (.aload_n 0, 1) := by decide +kernel
theorem dX7_parseNumber_7 : decode cX7_parseNumber 7 = .ok (.getfield 88, 3) := by decide +kernel
theorem dX7_parseNumber_10 : decode cX7_parseNumber 10 = .ok (.istore_n 3, 1) := by decide +kernel
theorem dX7_parseNumber_11 : decode cX7_parseNumber 11 = .ok (.aload_n 0, 1) := by decide +kernel
theorem dX7_parseNumber_12 : decode cX7_parseNumber 12 = .ok (.invokevirtual 138, 3) := by decide +kernel
theorem dX7_parseNumber_15 : decode cX7_parseNumber 15 = .ok (.iload_n 3, 1) := by decide +kernel
theorem dX7_parseNumber_16 : decode cX7_parseNumber 16 = .ok (.ireturn, 1) := by decide +kernel
theorem dX7_parseStation_0 : decode cX7_parseStation 0 = .ok (.aload_n 0, 1) := by decide +kernel
theorem dX7_parseStation_1 : decode cX7_parseStation 1 = .ok (.aload_n 0, 1) := by decide +kernel
theorem dX7_parseStation_2 : decode cX7_parseStation 2 = .ok (.getfield 7, 3) := by decide +kernel
theorem dX7_parseStation_5 : decode cX7_parseStation 5 = .ok (.iconst 0, 1) := by decide +kernel
theorem dX7_parseStation_6 : decode cX7_parseStation 6 = .ok (.iaload, 1) := by decide +kernel
theorem dX7_parseStation_7 : decode cX7_parseStation 7 = .ok (.bipush 8, 2) := by decide +kernel
theorem dX7_parseStation_9 : decode cX7_parseStation 9 = .ok (.if_icmp .ge 7, 3) := by decide +kernel
theorem dX7_parseStation_12 : decode cX7_parseStation 12 = .ok (.iconst 1, 1) := by decide +kernel
theorem dX7_parseStation_13 : decode cX7_parseStation 13 = .ok (.goto 4, 3) := by decide +kernel
theorem dX7_parseStation_16 : decode cX7_parseStation 16 = .ok (.iconst 0, 1) := by decide +kernel
theorem dX7_parseStation_17 : decode cX7_parseStation 17 = .ok (.iconst 3, 1) := by decide +kernel
theorem dX7_parseStation_18 : decode cX7_parseStation 18 = .ok (.invokevirtual 130, 3) := by decide +kernel
theorem dX7_parseStation_21 : decode cX7_parseStation 21 = .ok (.aload_n 0, 1) := by decide +kernel
theorem dX7_parseStation_22 : decode cX7_parseStation 22 = .ok (.invokevirtual 138, 3) := by decide +kernel
theorem dX7_parseStation_25 : decode cX7_parseStation 25 = .ok (.aload_n 0, 1) := by decide +kernel
theorem dX7_parseStation_26 : decode cX7_parseStation 26 = .ok (.iconst 0, 1) := by decide +kernel
theorem dX7_parseStation_27 : decode cX7_parseStation 27 = .ok (.bipush 23, 2) := by decide +kernel
theorem dX7_parseStation_29 : decode cX7_parseStation 29 = .ok (.invokevirtual 141, 3) := by decide +kernel
theorem dX7_parseStation_32 : decode cX7_parseStation 32 = .ok (.istore_n 1, 1) := by decide +kernel
theorem dX7_parseStation_33 : decode cX7_parseStation 33 = .ok (.aload_n 0, 1) := by decide +kernel
theorem dX7_parseStation_34 : decode cX7_parseStation 34 = .ok (.iconst 0, 1) := by decide +kernel
theorem dX7_parseStation_35 : decode cX7_parseStation 35 = .ok (.bipush 23, 2) := by decide +kernel
theorem dX7_parseStation_37 : decode cX7_parseStation 37 = .ok (.invokevirtual 141, 3) := by decide +kernel
theorem dX7_parseStation_40 : decode cX7_parseStation 40 = .ok (.istore_n 2, 1) := by decide +kernel
theorem dX7_parseStation_41 : decode cX7_parseStation 41 = .ok (.aload_n 0, 1) := by decide +kernel
theorem dX7_parseStation_42 : decode cX7_parseStation 42 = .ok (.iconst 1, 1) := by decide +kernel
theorem dX7_parseStation_43 : decode cX7_parseStation 43 = .ok (.bipush 9, 2) := by decide +kernel
theorem dX7_parseStation_45 : decode cX7_parseStation 45 = .ok (.invokevirtual 141, 3) := by decide +kernel
theorem dX7_parseStation_48 : decode cX7_parseStation 48 = .ok (.istore_n 3, 1) := by decide +kernel
theorem dX7_parseStation_49 : decode cX7_parseStation 49 = .ok (.aload_n 0, 1) := by decide +kernel
theorem dX7_parseStation_50 : decode cX7_parseStation 50 = .ok (.invokevirtual 119, 3) := by decide +kernel
theorem dX7_parseStation_53 : decode cX7_parseStation 53 = .ok (.ifCond .eq 12, 3) := by decide +kernel
theorem dX7_parseStation_56 : decode cX7_parseStation 56 = .ok (.aload_n 0, 1) := by decide +kernel
theorem dX7_parseStation_57 : decode cX7_parseStation 57 = .ok (.iload_n 1, 1) := by decide +kernel
theorem dX7_parseStation_58 : decode cX7_parseStation 58 = .ok (.iload_n 2, 1) := by decide +kernel
theorem dX7_parseStation_59 : decode cX7_parseStation 59 = .ok (.iload_n 3, 1) := by decide +kernel
theorem dX7_parseStation_60 : decode cX7_parseStation 60 = .ok (.invokevirtual 144, 3) := by decide +kernel
theorem dX7_parseStation_63 : decode cX7_parseStation 63 = .ok (.istore 4, 2) := by decide +kernel
theorem dX7_parseStation_65 : decode cX7_parseStation 65 = .ok (.return_, 1) := by decide +kernel
theorem dX7_parseLink_0 : decode cX7_parseLink 0 = .ok (.aload_n 0, 1) := by decide +kernel
theorem dX7_parseLink_1 : decode cX7_parseLink 1 = .ok (.aload_n 0, 1) := by decide +kernel
theorem dX7_parseLink_2 : decode cX7_parseLink 2 = .ok (.getfield 7, 3) := by decide +kernel
theorem dX7_parseLink_5 : decode cX7_parseLink 5 = .ok (.iconst 1, 1) := by decide +kernel
theorem dX7_parseLink_6 : decode cX7_parseLink 6 = .ok (.iaload, 1) := by decide +kernel
theorem dX7_parseLink_7 : decode cX7_parseLink 7 = .ok (.bipush 16, 2) := by decide +kernel
theorem dX7_parseLink_9 : decode cX7_parseLink 9 = .ok (.if_icmp .ge 7, 3) := by decide +kernel
theorem dX7_parseLink_12 : decode cX7_parseLink 12 = .ok (.iconst 1, 1) := by decide +kernel
theorem dX7_parseLink_13 : decode cX7_parseLink 13 = .ok (.goto 4, 3) := by decide +kernel
theorem dX7_parseLink_16 : decode cX7_parseLink 16 = .ok (.iconst 0, 1) := by decide +kernel
theorem dX7_parseLink_17 : decode cX7_parseLink 17 = .ok (.iconst 3, 1) := by decide +kernel
theorem dX7_parseLink_18 : decode cX7_parseLink 18 = .ok (.invokevirtual 130, 3) := by decide +kernel
theorem dX7_parseLink_21 : decode cX7_parseLink 21 = .ok (.aload_n 0, 1) := by decide +kernel
theorem dX7_parseLink_22 : decode cX7_parseLink 22 = .ok (.invokevirtual 138, 3) := by decide +kernel
theorem dX7_parseLink_25 : decode cX7_parseLink 25 = .ok (.aload_n 0, 1) := by decide +kernel
theorem dX7_parseLink_26 : decode cX7_parseLink 26 = .ok (.iconst 0, 1) := by decide +kernel
theorem dX7_parseLink_27 : decode cX7_parseLink 27 = .ok (.aload_n 0, 1) := by decide +kernel
theorem dX7_parseLink_28 : decode cX7_parseLink 28 = .ok (.getfield 7, 3) := by decide +kernel
theorem dX7_parseLink_31 : decode cX7_parseLink 31 = .ok (.iconst 0, 1) := by decide +kernel
theorem dX7_parseLink_32 : decode cX7_parseLink 32 = .ok (.iaload, 1) := by decide +kernel
theorem dX7_parseLink_33 : decode cX7_parseLink 33 = .ok (.iconst 1, 1) := by decide +kernel
theorem dX7_parseLink_34 : decode cX7_parseLink 34 = .ok (.isub, 1) := by decide +kernel
theorem dX7_parseLink_35 : decode cX7_parseLink 35 = .ok (.invokevirtual 141, 3) := by decide +kernel
theorem dX7_parseLink_38 : decode cX7_parseLink 38 = .ok (.istore_n 1, 1) := by decide +kernel
theorem dX7_parseLink_39 : decode cX7_parseLink 39 = .ok (.aload_n 0, 1) := by decide +kernel
theorem dX7_parseLink_40 : decode cX7_parseLink 40 = .ok (.iconst 0, 1) := by decide +kernel
theorem dX7_parseLink_41 : decode cX7_parseLink 41 = .ok (.aload_n 0, 1) := by decide +kernel
theorem dX7_parseLink_42 : decode cX7_parseLink 42 = .ok (.getfield 7, 3) := by decide +kernel
theorem dX7_parseLink_45 : decode cX7_parseLink 45 = .ok (.iconst 0, 1) := by decide +kernel
theorem dX7_parseLink_46 : decode cX7_parseLink 46 = .ok (.iaload, 1) := by decide +kernel
theorem dX7_parseLink_47 : decode cX7_parseLink 47 = .ok (.iconst 1, 1) := by decide +kernel
theorem dX7_parseLink_48 : decode cX7_parseLink 48 = .ok (.isub, 1) := by decide +kernel
theorem dX7_parseLink_49 : decode cX7_parseLink 49 = .ok (.invokevirtual 134, 3) := by decide +kernel
theorem dX7_parseLink_52 : decode cX7_parseLink 52 = .ok (.aload_n 0, 1) := by decide +kernel
theorem dX7_parseLink_53 : decode cX7_parseLink 53 = .ok (.getfield 88, 3) := by decide +kernel
theorem dX7_parseLink_56 : decode cX7_parseLink 56 = .ok (.istore_n 2, 1) := by decide +kernel
theorem dX7_parseLink_57 : decode cX7_parseLink 57 = .ok (.aload_n 0, 1) := by decide +kernel
theorem dX7_parseLink_58 : decode cX7_parseLink 58 = .ok (.iload_n 1, 1) := by decide +kernel
theorem dX7_parseLink_59 : decode cX7_parseLink 59 = .ok (.iload_n 2, 1) := by decide +kernel
theorem dX7_parseLink_60 : decode cX7_parseLink 60 = .ok (.if_icmp .eq 17, 3) := by decide +kernel
theorem dX7_parseLink_63 : decode cX7_parseLink 63 = .ok (.aload_n 0, 1) := by decide +kernel
theorem dX7_parseLink_64 : decode cX7_parseLink 64 = .ok (.iload_n 1, 1) := by decide +kernel
theorem dX7_parseLink_65 : decode cX7_parseLink 65 = .ok (.iload_n 2, 1) := by decide +kernel
theorem dX7_parseLink_66 : decode cX7_parseLink 66 = .ok (.invokevirtual 148, 3) := by decide +kernel
theorem dX7_parseLink_69 : decode cX7_parseLink 69 = .ok (.iconst (-1), 1) := by decide +kernel
theorem dX7_parseLink_70 : decode cX7_parseLink 70 = .ok (.if_icmp .ne 7, 3) := by decide +kernel
theorem dX7_parseLink_73 : decode cX7_parseLink 73 = .ok (.iconst 1, 1) := by decide +kernel
theorem dX7_parseLink_74 : decode cX7_parseLink 74 = .ok (.goto 4, 3) := by decide +kernel
theorem dX7_parseLink_77 : decode cX7_parseLink 77 = .ok (.iconst 0, 1) := by decide +kernel
theorem dX7_parseLink_78 : decode cX7_parseLink 78 = .ok (.iconst 4, 1) := by decide +kernel
theorem dX7_parseLink_79 : decode cX7_parseLink 79 = .ok (.invokevirtual 130, 3) := by decide +kernel
theorem dX7_parseLink_82 : decode cX7_parseLink 82 = .ok (.aload_n 0, 1) := by decide +kernel
theorem dX7_parseLink_83 : decode cX7_parseLink 83 = .ok (.invokevirtual 138, 3) := by decide +kernel
theorem dX7_parseLink_86 : decode cX7_parseLink 86 = .ok (.aload_n 0, 1) := by decide +kernel
theorem dX7_parseLink_87 : decode cX7_parseLink 87 = .ok (.iconst 0, 1) := by decide +kernel
theorem dX7_parseLink_88 : decode cX7_parseLink 88 = .ok (.bipush 23, 2) := by decide +kernel
theorem dX7_parseLink_90 : decode cX7_parseLink 90 = .ok (.invokevirtual 141, 3) := by decide +kernel
theorem dX7_parseLink_93 : decode cX7_parseLink 93 = .ok (.istore_n 3, 1) := by decide +kernel
theorem dX7_parseLink_94 : decode cX7_parseLink 94 = .ok (.aload_n 0, 1) := by decide +kernel
theorem dX7_parseLink_95 : decode cX7_parseLink 95 = .ok (.iconst 0, 1) := by decide +kernel
theorem dX7_parseLink_96 : decode cX7_parseLink 96 = .ok (.bipush 23, 2) := by decide +kernel
theorem dX7_parseLink_98 : decode cX7_parseLink 98 = .ok (.invokevirtual 141, 3) := by decide +kernel
theorem dX7_parseLink_101 : decode cX7_parseLink 101 = .ok (.istore 4, 2) := by decide +kernel
theorem dX7_parseLink_103 : decode cX7_parseLink 103 = .ok (.aload_n 0, 1) := by decide +kernel
theorem dX7_parseLink_104 : decode cX7_parseLink 104 = .ok (.iconst 0, 1) := by decide +kernel
theorem dX7_parseLink_105 : decode cX7_parseLink 105 = .ok (.bipush 100, 2) := by decide +kernel
theorem dX7_parseLink_107 : decode cX7_parseLink 107 = .ok (.invokevirtual 141, 3) := by decide +kernel
theorem dX7_parseLink_110 : decode cX7_parseLink 110 = .ok (.istore 5, 2) := by decide +kernel
theorem dX7_parseLink_112 : decode cX7_parseLink 112 = .ok (.aload_n 0, 1) := by decide +kernel
theorem dX7_parseLink_113 : decode cX7_parseLink 113 = .ok (.invokevirtual 119, 3) := by decide +kernel
theorem dX7_parseLink_116 : decode cX7_parseLink 116 = .ok (.ifCond .eq 16, 3) := by decide +kernel
theorem dX7_parseLink_119 : decode cX7_parseLink 119 = .ok (.aload_n 0, 1) := by decide +kernel
theorem dX7_parseLink_120 : decode cX7_parseLink 120 = .ok (.iload_n 1, 1) := by decide +kernel
theorem dX7_parseLink_121 : decode cX7_parseLink 121 = .ok (.iload_n 2, 1) := by decide +kernel
theorem dX7_parseLink_122 : decode cX7_parseLink 122 = .ok (.iload_n 3, 1) := by decide +kernel
theorem dX7_parseLink_123 : decode cX7_parseLink 123 = .ok (.iload 4, 2) := by decide +kernel
theorem dX7_parseLink_125 : decode cX7_parseLink 125 = .ok (.iload 5, 2) := by decide +kernel
theorem dX7_parseLink_127 : decode cX7_parseLink 127 = .ok (.invokevirtual 151, 3) := by decide +kernel
theorem dX7_parseLink_130 : decode cX7_parseLink 130 = .ok (.istore 6, 2) := by decide +kernel
theorem dX7_parseLink_132 : decode cX7_parseLink 132 = .ok (.return_, 1) := by decide +kernel
theorem dX7_parseMessage_0 : decode cX7_parseMessage 0 = .ok (.aload_n 0, 1) := by decide +kernel
theorem dX7_parseMessage_1 : decode cX7_parseMessage 1 = .ok (.aload_n 0, 1) := by decide +kernel
theorem dX7_parseMessage_2 : decode cX7_parseMessage 2 = .ok (.ldc 155, 2) := by decide +kernel
theorem dX7_parseMessage_4 : decode cX7_parseMessage 4 = .ok (.invokevirtual 126, 3) := by decide +kernel
theorem dX7_parseMessage_7 : decode cX7_parseMessage 7 = .ok (.iconst 1, 1) := by decide +kernel
theorem dX7_parseMessage_8 : decode cX7_parseMessage 8 = .ok (.invokevirtual 130, 3) := by decide +kernel
theorem dX7_parseMessage_11 : decode cX7_parseMessage 11 = .ok (.aload_n 0, 1) := by decide +kernel
theorem dX7_parseMessage_12 : decode cX7_parseMessage 12 = .ok (.aload_n 0, 1) := by decide +kernel
theorem dX7_parseMessage_13 : decode cX7_parseMessage 13 = .ok (.getfield 7, 3) := by decide +kernel
theorem dX7_parseMessage_16 : decode cX7_parseMessage 16 = .ok (.iconst 2, 1) := by decide +kernel
theorem dX7_parseMessage_17 : decode cX7_parseMessage 17 = .ok (.iaload, 1) := by decide +kernel
theorem dX7_parseMessage_18 : decode cX7_parseMessage 18 = .ok (.bipush 24, 2) := by decide +kernel
theorem dX7_parseMessage_20 : decode cX7_parseMessage 20 = .ok (.if_icmp .ge 7, 3) := by decide +kernel
theorem dX7_parseMessage_23 : decode cX7_parseMessage 23 = .ok (.iconst 1, 1) := by decide +kernel
theorem dX7_parseMessage_24 : decode cX7_parseMessage 24 = .ok (.goto 4, 3) := by decide +kernel
theorem dX7_parseMessage_27 : decode cX7_parseMessage 27 = .ok (.iconst 0, 1) := by decide +kernel
theorem dX7_parseMessage_28 : decode cX7_parseMessage 28 = .ok (.iconst 3, 1) := by decide +kernel
theorem dX7_parseMessage_29 : decode cX7_parseMessage 29 = .ok (.invokevirtual 130, 3) := by decide +kernel
theorem dX7_parseMessage_32 : decode cX7_parseMessage 32 = .ok (.aload_n 0, 1) := by decide +kernel
theorem dX7_parseMessage_33 : decode cX7_parseMessage 33 = .ok (.invokevirtual 138, 3) := by decide +kernel
theorem dX7_parseMessage_36 : decode cX7_parseMessage 36 = .ok (.aload_n 0, 1) := by decide +kernel
theorem dX7_parseMessage_37 : decode cX7_parseMessage 37 = .ok (.iconst 0, 1) := by decide +kernel
theorem dX7_parseMessage_38 : decode cX7_parseMessage 38 = .ok (.aload_n 0, 1) := by decide +kernel
theorem dX7_parseMessage_39 : decode cX7_parseMessage 39 = .ok (.getfield 7, 3) := by decide +kernel
theorem dX7_parseMessage_42 : decode cX7_parseMessage 42 = .ok (.iconst 0, 1) := by decide +kernel
theorem dX7_parseMessage_43 : decode cX7_parseMessage 43 = .ok (.iaload, 1) := by decide +kernel
theorem dX7_parseMessage_44 : decode cX7_parseMessage 44 = .ok (.iconst 1, 1) := by decide +kernel
theorem dX7_parseMessage_45 : decode cX7_parseMessage 45 = .ok (.isub, 1) := by decide +kernel
theorem dX7_parseMessage_46 : decode cX7_parseMessage 46 = .ok (.invokevirtual 141, 3) := by decide +kernel
theorem dX7_parseMessage_49 : decode cX7_parseMessage 49 = .ok (.istore_n 1, 1) := by decide +kernel
theorem dX7_parseMessage_50 : decode cX7_parseMessage 50 = .ok (.aload_n 0, 1) := by decide +kernel
theorem dX7_parseMessage_51 : decode cX7_parseMessage 51 = .ok (.iconst 0, 1) := by decide +kernel
theorem dX7_parseMessage_52 : decode cX7_parseMessage 52 = .ok (.aload_n 0, 1) := by decide +kernel
theorem dX7_parseMessage_53 : decode cX7_parseMessage 53 = .ok (.getfield 7, 3) := by decide +kernel
theorem dX7_parseMessage_56 : decode cX7_parseMessage 56 = .ok (.iconst 0, 1) := by decide +kernel
theorem dX7_parseMessage_57 : decode cX7_parseMessage 57 = .ok (.iaload, 1) := by decide +kernel
theorem dX7_parseMessage_58 : decode cX7_parseMessage 58 = .ok (.iconst 1, 1) := by decide +kernel
theorem dX7_parseMessage_59 : decode cX7_parseMessage 59 = .ok (.isub, 1) := by decide +kernel
theorem dX7_parseMessage_60 : decode cX7_parseMessage 60 = .ok (.invokevirtual 134, 3) := by decide +kernel
theorem dX7_parseMessage_63 : decode cX7_parseMessage 63 = .ok (.aload_n 0, 1) := by decide +kernel
theorem dX7_parseMessage_64 : decode cX7_parseMessage 64 = .ok (.getfield 88, 3) := by decide +kernel
theorem dX7_parseMessage_67 : decode cX7_parseMessage 67 = .ok (.istore_n 2, 1) := by decide +kernel
theorem dX7_parseMessage_68 : decode cX7_parseMessage 68 = .ok (.aload_n 0, 1) := by decide +kernel
theorem dX7_parseMessage_69 : decode cX7_parseMessage 69 = .ok (.iload_n 1, 1) := by decide +kernel
theorem dX7_parseMessage_70 : decode cX7_parseMessage 70 = .ok (.iload_n 2, 1) := by decide +kernel
theorem dX7_parseMessage_71 : decode cX7_parseMessage 71 = .ok (.if_icmp .eq 7, 3) := by decide +kernel
theorem dX7_parseMessage_74 : decode cX7_parseMessage 74 = .ok (.iconst 1, 1) := by decide +kernel
theorem dX7_parseMessage_75 : decode cX7_parseMessage 75 = .ok (.goto 4, 3) := by decide +kernel
theorem dX7_parseMessage_78 : decode cX7_parseMessage 78 = .ok (.iconst 0, 1) := by decide +kernel
theorem dX7_parseMessage_79 : decode cX7_parseMessage 79 = .ok (.iconst 4, 1) := by decide +kernel
theorem dX7_parseMessage_80 : decode cX7_parseMessage 80 = .ok (.invokevirtual 130, 3) := by decide +kernel
theorem dX7_parseMessage_83 : decode cX7_parseMessage 83 = .ok (.aload_n 0, 1) := by decide +kernel
theorem dX7_parseMessage_84 : decode cX7_parseMessage 84 = .ok (.invokevirtual 138, 3) := by decide +kernel
theorem dX7_parseMessage_87 : decode cX7_parseMessage 87 = .ok (.aload_n 0, 1) := by decide +kernel
theorem dX7_parseMessage_88 : decode cX7_parseMessage 88 = .ok (.iconst 0, 1) := by decide +kernel
theorem dX7_parseMessage_89 : decode cX7_parseMessage 89 = .ok (.iconst 3, 1) := by decide +kernel
theorem dX7_parseMessage_90 : decode cX7_parseMessage 90 = .ok (.invokevirtual 141, 3) := by decide +kernel
theorem dX7_parseMessage_93 : decode cX7_parseMessage 93 = .ok (.istore_n 3, 1) := by decide +kernel
theorem dX7_parseMessage_94 : decode cX7_parseMessage 94 = .ok (.aload_n 0, 1) := by decide +kernel
theorem dX7_parseMessage_95 : decode cX7_parseMessage 95 = .ok (.invokevirtual 119, 3) := by decide +kernel
theorem dX7_parseMessage_98 : decode cX7_parseMessage 98 = .ok (.ifCond .eq 12, 3) := by decide +kernel
theorem dX7_parseMessage_101 : decode cX7_parseMessage 101 = .ok (.aload_n 0, 1) := by decide +kernel
theorem dX7_parseMessage_102 : decode cX7_parseMessage 102 = .ok (.iload_n 1, 1) := by decide +kernel
theorem dX7_parseMessage_103 : decode cX7_parseMessage 103 = .ok (.iload_n 2, 1) := by decide +kernel
theorem dX7_parseMessage_104 : decode cX7_parseMessage 104 = .ok (.iload_n 3, 1) := by decide +kernel
theorem dX7_parseMessage_105 : decode cX7_parseMessage 105 = .ok (.invokevirtual 157, 3) := by decide +kernel
theorem dX7_parseMessage_108 : decode cX7_parseMessage 108 = .ok (.istore 4, 2) := by decide +kernel
theorem dX7_parseMessage_110 : decode cX7_parseMessage 110 = .ok (.return_, 1) := by decide +kernel
theorem dX7_parseStatement_0 : decode cX7_parseStatement 0 = .ok (.aload_n 0, 1) := by decide +kernel
theorem dX7_parseStatement_1 : decode cX7_parseStatement 1 = .ok (.ldc 160, 2) := by decide +kernel
theorem dX7_parseStatement_3 : decode cX7_parseStatement 3 = .ok (.invokevirtual 126, 3) := by decide +kernel
theorem dX7_parseStatement_6 : decode cX7_parseStatement 6 = .ok (.ifCond .eq 10, 3) := by decide +kernel
theorem dX7_parseStatement_9 : decode cX7_parseStatement 9 = .ok (.aload_n 0, 1) := by decide +kernel
theorem dX7_parseStatement_10 : decode cX7_parseStatement 10 = .ok (.invokevirtual 162, 3) := by decide +kernel
theorem dX7_parseStatement_13 : decode cX7_parseStatement 13 = .ok (.goto 100, 3) := by decide +kernel
theorem dX7_parseStatement_16 : decode cX7_parseStatement 16 = .ok (.aload_n 0, 1) := by decide +kernel
theorem dX7_parseStatement_17 : decode cX7_parseStatement 17 = .ok (.ldc 165, 2) := by decide +kernel
theorem dX7_parseStatement_19 : decode cX7_parseStatement 19 = .ok (.invokevirtual 126, 3) := by decide +kernel
theorem dX7_parseStatement_22 : decode cX7_parseStatement 22 = .ok (.ifCond .eq 10, 3) := by decide +kernel
theorem dX7_parseStatement_25 : decode cX7_parseStatement 25 = .ok (.aload_n 0, 1) := by decide +kernel
theorem dX7_parseStatement_26 : decode cX7_parseStatement 26 = .ok (.invokevirtual 167, 3) := by decide +kernel
theorem dX7_parseStatement_29 : decode cX7_parseStatement 29 = .ok (.goto 84, 3) := by decide +kernel
theorem dX7_parseStatement_32 : decode cX7_parseStatement 32 = .ok (.aload_n 0, 1) := by decide +kernel
theorem dX7_parseStatement_33 : decode cX7_parseStatement 33 = .ok (.ldc 170, 2) := by decide +kernel
theorem dX7_parseStatement_35 : decode cX7_parseStatement 35 = .ok (.invokevirtual 172, 3) := by decide +kernel
theorem dX7_parseStatement_38 : decode cX7_parseStatement 38 = .ok (.ifCond .eq 20, 3) := by decide +kernel
theorem dX7_parseStatement_41 : decode cX7_parseStatement 41 = .ok (.aload_n 0, 1) := by decide +kernel
theorem dX7_parseStatement_42 : decode cX7_parseStatement 42 = .ok (.getfield 7, 3) := by decide +kernel
theorem dX7_parseStatement_45 : decode cX7_parseStatement 45 = .ok (.iconst 4, 1) := by decide +kernel
theorem dX7_parseStatement_46 : decode cX7_parseStatement 46 = .ok (.aload_n 0, 1) := by decide +kernel
theorem dX7_parseStatement_47 : decode cX7_parseStatement 47 = .ok (.iconst 1, 1) := by decide +kernel
theorem dX7_parseStatement_48 : decode cX7_parseStatement 48 = .ok (.sipush 200, 3) := by decide +kernel
theorem dX7_parseStatement_51 : decode cX7_parseStatement 51 = .ok (.invokevirtual 141, 3) := by decide +kernel
theorem dX7_parseStatement_54 : decode cX7_parseStatement 54 = .ok (.iastore, 1) := by decide +kernel
theorem dX7_parseStatement_55 : decode cX7_parseStatement 55 = .ok (.goto 58, 3) := by decide +kernel
theorem dX7_parseStatement_58 : decode cX7_parseStatement 58 = .ok (.aload_n 0, 1) := by decide +kernel
theorem dX7_parseStatement_59 : decode cX7_parseStatement 59 = .ok (.ldc 175, 2) := by decide +kernel
theorem dX7_parseStatement_61 : decode cX7_parseStatement 61 = .ok (.invokevirtual 172, 3) := by decide +kernel
theorem dX7_parseStatement_64 : decode cX7_parseStatement 64 = .ok (.ifCond .eq 19, 3) := by decide +kernel
theorem dX7_parseStatement_67 : decode cX7_parseStatement 67 = .ok (.aload_n 0, 1) := by decide +kernel
theorem dX7_parseStatement_68 : decode cX7_parseStatement 68 = .ok (.getfield 7, 3) := by decide +kernel
theorem dX7_parseStatement_71 : decode cX7_parseStatement 71 = .ok (.iconst 5, 1) := by decide +kernel
theorem dX7_parseStatement_72 : decode cX7_parseStatement 72 = .ok (.aload_n 0, 1) := by decide +kernel
theorem dX7_parseStatement_73 : decode cX7_parseStatement 73 = .ok (.iconst 1, 1) := by decide +kernel
theorem dX7_parseStatement_74 : decode cX7_parseStatement 74 = .ok (.bipush 9, 2) := by decide +kernel
theorem dX7_parseStatement_76 : decode cX7_parseStatement 76 = .ok (.invokevirtual 141, 3) := by decide +kernel
theorem dX7_parseStatement_79 : decode cX7_parseStatement 79 = .ok (.iastore, 1) := by decide +kernel
theorem dX7_parseStatement_80 : decode cX7_parseStatement 80 = .ok (.goto 33, 3) := by decide +kernel
theorem dX7_parseStatement_83 : decode cX7_parseStatement 83 = .ok (.aload_n 0, 1) := by decide +kernel
theorem dX7_parseStatement_84 : decode cX7_parseStatement 84 = .ok (.ldc 177, 2) := by decide +kernel
theorem dX7_parseStatement_86 : decode cX7_parseStatement 86 = .ok (.invokevirtual 172, 3) := by decide +kernel
theorem dX7_parseStatement_89 : decode cX7_parseStatement 89 = .ok (.ifCond .eq 20, 3) := by decide +kernel
theorem dX7_parseStatement_92 : decode cX7_parseStatement 92 = .ok (.aload_n 0, 1) := by decide +kernel
theorem dX7_parseStatement_93 : decode cX7_parseStatement 93 = .ok (.getfield 7, 3) := by decide +kernel
theorem dX7_parseStatement_96 : decode cX7_parseStatement 96 = .ok (.bipush 6, 2) := by decide +kernel
theorem dX7_parseStatement_98 : decode cX7_parseStatement 98 = .ok (.aload_n 0, 1) := by decide +kernel
theorem dX7_parseStatement_99 : decode cX7_parseStatement 99 = .ok (.iconst 0, 1) := by decide +kernel
theorem dX7_parseStatement_100 : decode cX7_parseStatement 100 = .ok (.ldc 179, 2) := by decide +kernel
theorem dX7_parseStatement_102 : decode cX7_parseStatement 102 = .ok (.invokevirtual 141, 3) := by decide +kernel
theorem dX7_parseStatement_105 : decode cX7_parseStatement 105 = .ok (.iastore, 1) := by decide +kernel
theorem dX7_parseStatement_106 : decode cX7_parseStatement 106 = .ok (.goto 7, 3) := by decide +kernel
theorem dX7_parseStatement_109 : decode cX7_parseStatement 109 = .ok (.aload_n 0, 1) := by decide +kernel
theorem dX7_parseStatement_110 : decode cX7_parseStatement 110 = .ok (.invokevirtual 180, 3) := by decide +kernel
theorem dX7_parseStatement_113 : decode cX7_parseStatement 113 = .ok (.aload_n 0, 1) := by decide +kernel
theorem dX7_parseStatement_114 : decode cX7_parseStatement 114 = .ok (.aload_n 0, 1) := by decide +kernel
theorem dX7_parseStatement_115 : decode cX7_parseStatement 115 = .ok (.getfield 91, 3) := by decide +kernel
theorem dX7_parseStatement_118 : decode cX7_parseStatement 118 = .ok (.iconst 4, 1) := by decide +kernel
theorem dX7_parseStatement_119 : decode cX7_parseStatement 119 = .ok (.if_icmp .ne 7, 3) := by decide +kernel
theorem dX7_parseStatement_122 : decode cX7_parseStatement 122 = .ok (.iconst 1, 1) := by decide +kernel
theorem dX7_parseStatement_123 : decode cX7_parseStatement 123 = .ok (.goto 4, 3) := by decide +kernel
theorem dX7_parseStatement_126 : decode cX7_parseStatement 126 = .ok (.iconst 0, 1) := by decide +kernel
theorem dX7_parseStatement_127 : decode cX7_parseStatement 127 = .ok (.iconst 1, 1) := by decide +kernel
theorem dX7_parseStatement_128 : decode cX7_parseStatement 128 = .ok (.invokevirtual 130, 3) := by decide +kernel
theorem dX7_parseStatement_131 : decode cX7_parseStatement 131 = .ok (.aload_n 0, 1) := by decide +kernel
theorem dX7_parseStatement_132 : decode cX7_parseStatement 132 = .ok (.invokevirtual 138, 3) := by decide +kernel
theorem dX7_parseStatement_135 : decode cX7_parseStatement 135 = .ok (.return_, 1) := by decide +kernel
theorem dX7_load_0 : decode cX7_load 0 = .ok (.aload_n 0, 1) := by decide +kernel
theorem dX7_load_1 : decode cX7_load 1 = .ok (.iconst 0, 1) := by decide +kernel
theorem dX7_load_2 : decode cX7_load 2 = .ok (.putfield 54, 3) := by decide +kernel
theorem dX7_load_5 : decode cX7_load 5 = .ok (.aload_n 0, 1) := by decide +kernel
theorem dX7_load_6 : decode cX7_load 6 = .ok (.getfield 7, 3) := by decide +kernel
theorem dX7_load_9 : decode cX7_load 9 = .ok (.iconst 0, 1) := by decide +kernel
theorem dX7_load_10 : decode cX7_load 10 = .ok (.aload_n 0, 1) := by decide +kernel
theorem dX7_load_11 : decode cX7_load 11 = .ok (.getfield 13, 3) := by decide +kernel
theorem dX7_load_14 : decode cX7_load 14 = .ok (.iconst 0, 1) := by decide +kernel
theorem dX7_load_15 : decode cX7_load 15 = .ok (.invokestatic 183, 3) := by decide +kernel
theorem dX7_load_18 : decode cX7_load 18 = .ok (.aload_n 0, 1) := by decide +kernel
theorem dX7_load_19 : decode cX7_load 19 = .ok (.invokevirtual 51, 3) := by decide +kernel
theorem dX7_load_22 : decode cX7_load 22 = .ok (.aload_n 0, 1) := by decide +kernel
theorem dX7_load_23 : decode cX7_load 23 = .ok (.iconst 0, 1) := by decide +kernel
theorem dX7_load_24 : decode cX7_load 24 = .ok (.putfield 116, 3) := by decide +kernel
theorem dX7_load_27 : decode cX7_load 27 = .ok (.aload_n 0, 1) := by decide +kernel
theorem dX7_load_28 : decode cX7_load 28 = .ok (.iconst (-1), 1) := by decide +kernel
theorem dX7_load_29 : decode cX7_load 29 = .ok (.putfield 29, 3) := by decide +kernel
theorem dX7_load_32 : decode cX7_load 32 = .ok (.aload_n 0, 1) := by decide +kernel
theorem dX7_load_33 : decode cX7_load 33 = .ok (.iconst 0, 1) := by decide +kernel
theorem dX7_load_34 : decode cX7_load 34 = .ok (.putfield 72, 3) := by decide +kernel
theorem dX7_load_37 : decode cX7_load 37 = .ok (.aload_n 0, 1) := by decide +kernel
theorem dX7_load_38 : decode cX7_load 38 = .ok (.invokevirtual 123, 3) := by decide +kernel
theorem dX7_load_41 : decode cX7_load 41 = .ok (.iconst 0, 1) := by decide +kernel
theorem dX7_load_42 : decode cX7_load 42 = .ok (.istore_n 1, 1) := by decide +kernel
theorem dX7_load_43 : decode cX7_load 43 = .ok (.aload_n 0, 1) := by decide +kernel
theorem dX7_load_44 : decode cX7_load 44 = .ok (.invokevirtual 119, 3) := by decide +kernel
theorem dX7_load_47 : decode cX7_load 47 = .ok (.ifCond .eq 20, 3) := by decide +kernel
theorem dX7_load_50 : decode cX7_load 50 = .ok (.aload_n 0, 1) := by decide +kernel
theorem dX7_load_51 : decode cX7_load 51 = .ok (.getfield 91, 3) := by decide +kernel
theorem dX7_load_54 : decode cX7_load 54 = .ok (.ifCond .eq 13, 3) := by decide +kernel
theorem dX7_load_57 : decode cX7_load 57 = .ok (.aload_n 0, 1) := by decide +kernel
theorem dX7_load_58 : decode cX7_load 58 = .ok (.invokevirtual 187, 3) := by decide +kernel
theorem dX7_load_61 : decode cX7_load 61 = .ok (.iinc 1 1, 3) := by decide +kernel
theorem dX7_load_64 : decode cX7_load 64 = .ok (.goto (-21), 3) := by decide +kernel
theorem dX7_load_67 : decode cX7_load 67 = .ok (.aload_n 0, 1) := by decide +kernel
theorem dX7_load_68 : decode cX7_load 68 = .ok (.iconst 0, 1) := by decide +kernel
theorem dX7_load_69 : decode cX7_load 69 = .ok (.putfield 65, 3) := by decide +kernel
theorem dX7_load_72 : decode cX7_load 72 = .ok (.aload_n 0, 1) := by decide +kernel
theorem dX7_load_73 : decode cX7_load 73 = .ok (.invokevirtual 119, 3) := by decide +kernel
theorem dX7_load_76 : decode cX7_load 76 = .ok (.ifCond .ne 18, 3) := by decide +kernel
theorem dX7_load_79 : decode cX7_load 79 = .ok (.aload_n 0, 1) := by decide +kernel
theorem dX7_load_80 : decode cX7_load 80 = .ok (.getfield 13, 3) := by decide +kernel
theorem dX7_load_83 : decode cX7_load 83 = .ok (.iconst 0, 1) := by decide +kernel
theorem dX7_load_84 : decode cX7_load 84 = .ok (.aload_n 0, 1) := by decide +kernel
theorem dX7_load_85 : decode cX7_load 85 = .ok (.getfield 7, 3) := by decide +kernel
theorem dX7_load_88 : decode cX7_load 88 = .ok (.iconst 0, 1) := by decide +kernel
theorem dX7_load_89 : decode cX7_load 89 = .ok (.invokestatic 183, 3) := by decide +kernel
theorem dX7_load_92 : decode cX7_load 92 = .ok (.iconst (-1), 1) := by decide +kernel
theorem dX7_load_93 : decode cX7_load 93 = .ok (.ireturn, 1) := by decide +kernel
theorem dX7_load_94 : decode cX7_load 94 = .ok (.iload_n 1, 1) := by decide +kernel
theorem dX7_load_95 : decode cX7_load 95 = .ok (.ireturn, 1) := by decide +kernel
theorem dX7_errorCode_0 : decode cX7_errorCode 0 = .ok (.aload_n 0, 1) := by decide +kernel
theorem dX7_errorCode_1 : decode cX7_errorCode 1 = .ok (.iconst 0, 1) := by decide +kernel
theorem dX7_errorCode_2 : decode cX7_errorCode 2 = .ok (.putfield 54, 3) := by decide +kernel
theorem dX7_errorCode_5 : decode cX7_errorCode 5 = .ok (.aload_n 0, 1) := by decide +kernel
theorem dX7_errorCode_6 : decode cX7_errorCode 6 = .ok (.getfield 116, 3) := by decide +kernel
theorem dX7_errorCode_9 : decode cX7_errorCode 9 = .ok (.ireturn, 1) := by decide +kernel
theorem dX7_errorPosition_0 : decode cX7_errorPosition 0 = .ok (.aload_n 0, 1) := by decide +kernel
theorem dX7_errorPosition_1 : decode cX7_errorPosition 1 = .ok (.iconst 0, 1) := by decide +kernel
theorem dX7_errorPosition_2 : decode cX7_errorPosition 2 = .ok (.putfield 54, 3) := by decide +kernel
theorem dX7_errorPosition_5 : decode cX7_errorPosition 5 = .ok (.aload_n 0, 1) := by decide +kernel
theorem dX7_errorPosition_6 : decode cX7_errorPosition 6 = .ok (.getfield 29, 3) := by decide +kernel
theorem dX7_errorPosition_9 : decode cX7_errorPosition 9 = .ok (.ireturn, 1) := by decide +kernel
theorem dX7_isHour_0 : decode cX7_isHour 0 = .ok (.iload_n 0, 1) := by decide +kernel
theorem dX7_isHour_1 : decode cX7_isHour 1 = .ok (.iconst 0, 1) := by decide +kernel
theorem dX7_isHour_2 : decode cX7_isHour 2 = .ok (.bipush 23, 2) := by decide +kernel
theorem dX7_isHour_4 : decode cX7_isHour 4 = .ok (.invokestatic 57, 3) := by decide +kernel
theorem dX7_isHour_7 : decode cX7_isHour 7 = .ok (.ireturn, 1) := by decide +kernel
theorem dX7_appendStation_0 : decode cX7_appendStation 0 = .ok (.bipush 8, 2) := by decide +kernel
theorem dX7_appendStation_2 : decode cX7_appendStation 2 = .ok (.bipush 7, 2) := by decide +kernel
theorem dX7_appendStation_4 : decode cX7_appendStation 4 = .ok (.aload_n 0, 1) := by decide +kernel
theorem dX7_appendStation_5 : decode cX7_appendStation 5 = .ok (.getfield 7, 3) := by decide +kernel
theorem dX7_appendStation_8 : decode cX7_appendStation 8 = .ok (.iconst 0, 1) := by decide +kernel
theorem dX7_appendStation_9 : decode cX7_appendStation 9 = .ok (.iaload, 1) := by decide +kernel
theorem dX7_appendStation_10 : decode cX7_appendStation 10 = .ok (.imul, 1) := by decide +kernel
theorem dX7_appendStation_11 : decode cX7_appendStation 11 = .ok (.iadd, 1) := by decide +kernel
theorem dX7_appendStation_12 : decode cX7_appendStation 12 = .ok (.istore 4, 2) := by decide +kernel
theorem dX7_appendStation_14 : decode cX7_appendStation 14 = .ok (.aload_n 0, 1) := by decide +kernel
theorem dX7_appendStation_15 : decode cX7_appendStation 15 = .ok (.getfield 7, 3) := by decide +kernel
theorem dX7_appendStation_18 : decode cX7_appendStation 18 = .ok (.iload 4, 2) := by decide +kernel
theorem dX7_appendStation_20 : decode cX7_appendStation 20 = .ok (.iconst 0, 1) := by decide +kernel
theorem dX7_appendStation_21 : decode cX7_appendStation 21 = .ok (.iadd, 1) := by decide +kernel
theorem dX7_appendStation_22 : decode cX7_appendStation 22 = .ok (.iload_n 1, 1) := by decide +kernel
theorem dX7_appendStation_23 : decode cX7_appendStation 23 = .ok (.iastore, 1) := by decide +kernel
theorem dX7_appendStation_24 : decode cX7_appendStation 24 = .ok (.aload_n 0, 1) := by decide +kernel
theorem dX7_appendStation_25 : decode cX7_appendStation 25 = .ok (.getfield 7, 3) := by decide +kernel
theorem dX7_appendStation_28 : decode cX7_appendStation 28 = .ok (.iload 4, 2) := by decide +kernel
theorem dX7_appendStation_30 : decode cX7_appendStation 30 = .ok (.iconst 1, 1) := by decide +kernel
theorem dX7_appendStation_31 : decode cX7_appendStation 31 = .ok (.iadd, 1) := by decide +kernel
theorem dX7_appendStation_32 : decode cX7_appendStation 32 = .ok (.iload_n 2, 1) := by decide +kernel
theorem dX7_appendStation_33 : decode cX7_appendStation 33 = .ok (.iastore, 1) := by decide +kernel
theorem dX7_appendStation_34 : decode cX7_appendStation 34 = .ok (.aload_n 0, 1) := by decide +kernel
theorem dX7_appendStation_35 : decode cX7_appendStation 35 = .ok (.getfield 7, 3) := by decide +kernel
theorem dX7_appendStation_38 : decode cX7_appendStation 38 = .ok (.iload 4, 2) := by decide +kernel
theorem dX7_appendStation_40 : decode cX7_appendStation 40 = .ok (.iconst 2, 1) := by decide +kernel
theorem dX7_appendStation_41 : decode cX7_appendStation 41 = .ok (.iadd, 1) := by decide +kernel
theorem dX7_appendStation_42 : decode cX7_appendStation 42 = .ok (.iload_n 3, 1) := by decide +kernel
theorem dX7_appendStation_43 : decode cX7_appendStation 43 = .ok (.iastore, 1) := by decide +kernel
theorem dX7_appendStation_44 : decode cX7_appendStation 44 = .ok (.aload_n 0, 1) := by decide +kernel
theorem dX7_appendStation_45 : decode cX7_appendStation 45 = .ok (.getfield 7, 3) := by decide +kernel
theorem dX7_appendStation_48 : decode cX7_appendStation 48 = .ok (.iconst 0, 1) := by decide +kernel
theorem dX7_appendStation_49 : decode cX7_appendStation 49 = .ok (.dup2, 1) := by decide +kernel
theorem dX7_appendStation_50 : decode cX7_appendStation 50 = .ok (.iaload, 1) := by decide +kernel
theorem dX7_appendStation_51 : decode cX7_appendStation 51 = .ok (.iconst 1, 1) := by decide +kernel
theorem dX7_appendStation_52 : decode cX7_appendStation 52 = .ok (.iadd, 1) := by decide +kernel
theorem dX7_appendStation_53 : decode cX7_appendStation 53 = .ok (.iastore, 1) := by decide +kernel
theorem dX7_appendStation_54 : decode cX7_appendStation 54 = .ok (.aload_n 0, 1) := by decide +kernel
theorem dX7_appendStation_55 : decode cX7_appendStation 55 = .ok (.getfield 7, 3) := by decide +kernel
theorem dX7_appendStation_58 : decode cX7_appendStation 58 = .ok (.iconst 0, 1) := by decide +kernel
theorem dX7_appendStation_59 : decode cX7_appendStation 59 = .ok (.iaload, 1) := by decide +kernel
theorem dX7_appendStation_60 : decode cX7_appendStation 60 = .ok (.iconst 1, 1) := by decide +kernel
theorem dX7_appendStation_61 : decode cX7_appendStation 61 = .ok (.isub, 1) := by decide +kernel
theorem dX7_appendStation_62 : decode cX7_appendStation 62 = .ok (.ireturn, 1) := by decide +kernel
theorem dX7_addStation_0 : decode cX7_addStation 0 = .ok (.aload_n 0, 1) := by decide +kernel
theorem dX7_addStation_1 : decode cX7_addStation 1 = .ok (.iconst 0, 1) := by decide +kernel
theorem dX7_addStation_2 : decode cX7_addStation 2 = .ok (.putfield 54, 3) := by decide +kernel
theorem dX7_addStation_5 : decode cX7_addStation 5 = .ok (.iload_n 1, 1) := by decide +kernel
theorem dX7_addStation_6 : decode cX7_addStation 6 = .ok (.invokestatic 190, 3) := by decide +kernel
theorem dX7_addStation_9 : decode cX7_addStation 9 = .ok (.ifCond .eq 20, 3) := by decide +kernel
theorem dX7_addStation_12 : decode cX7_addStation 12 = .ok (.iload_n 2, 1) := by decide +kernel
theorem dX7_addStation_13 : decode cX7_addStation 13 = .ok (.invokestatic 190, 3) := by decide +kernel
theorem dX7_addStation_16 : decode cX7_addStation 16 = .ok (.ifCond .eq 13, 3) := by decide +kernel
theorem dX7_addStation_19 : decode cX7_addStation 19 = .ok (.iload_n 3, 1) := by decide +kernel
theorem dX7_addStation_20 : decode cX7_addStation 20 = .ok (.iconst 1, 1) := by decide +kernel
theorem dX7_addStation_21 : decode cX7_addStation 21 = .ok (.bipush 9, 2) := by decide +kernel
theorem dX7_addStation_23 : decode cX7_addStation 23 = .ok (.invokestatic 57, 3) := by decide +kernel
theorem dX7_addStation_26 : decode cX7_addStation 26 = .ok (.ifCond .ne 9, 3) := by decide +kernel
theorem dX7_addStation_29 : decode cX7_addStation 29 = .ok (.aload_n 0, 1) := by decide +kernel
theorem dX7_addStation_30 : decode cX7_addStation 30 = .ok (.iconst 1, 1) := by decide +kernel
theorem dX7_addStation_31 : decode cX7_addStation 31 = .ok (.invokevirtual 68, 3) := by decide +kernel
theorem dX7_addStation_34 : decode cX7_addStation 34 = .ok (.ireturn, 1) := by decide +kernel
theorem dX7_addStation_35 : decode cX7_addStation 35 = .ok (.aload_n 0, 1) := by decide +kernel
theorem dX7_addStation_36 : decode cX7_addStation 36 = .ok (.getfield 7, 3) := by decide +kernel
theorem dX7_addStation_39 : decode cX7_addStation 39 = .ok (.iconst 0, 1) := by decide +kernel
theorem dX7_addStation_40 : decode cX7_addStation 40 = .ok (.iaload, 1) := by decide +kernel
theorem dX7_addStation_41 : decode cX7_addStation 41 = .ok (.bipush 8, 2) := by decide +kernel
theorem dX7_addStation_43 : decode cX7_addStation 43 = .ok (.if_icmp .ne 11, 3) := by decide +kernel
theorem dX7_addStation_46 : decode cX7_addStation 46 = .ok (.aload_n 0, 1) := by decide +kernel
theorem dX7_addStation_47 : decode cX7_addStation 47 = .ok (.iconst 2, 1) := by decide +kernel
theorem dX7_addStation_48 : decode cX7_addStation 48 = .ok (.invokevirtual 68, 3) := by decide +kernel
theorem dX7_addStation_51 : decode cX7_addStation 51 = .ok (.goto 10, 3) := by decide +kernel
theorem dX7_addStation_54 : decode cX7_addStation 54 = .ok (.aload_n 0, 1) := by decide +kernel
theorem dX7_addStation_55 : decode cX7_addStation 55 = .ok (.iload_n 1, 1) := by decide +kernel
theorem dX7_addStation_56 : decode cX7_addStation 56 = .ok (.iload_n 2, 1) := by decide +kernel
theorem dX7_addStation_57 : decode cX7_addStation 57 = .ok (.iload_n 3, 1) := by decide +kernel
theorem dX7_addStation_58 : decode cX7_addStation 58 = .ok (.invokevirtual 144, 3) := by decide +kernel
theorem dX7_addStation_61 : decode cX7_addStation 61 = .ok (.ireturn, 1) := by decide +kernel
theorem dX7_joins_0 : decode cX7_joins 0 = .ok (.aload_n 0, 1) := by decide +kernel
theorem dX7_joins_1 : decode cX7_joins 1 = .ok (.iload_n 1, 1) := by decide +kernel
theorem dX7_joins_2 : decode cX7_joins 2 = .ok (.iconst 0, 1) := by decide +kernel
theorem dX7_joins_3 : decode cX7_joins 3 = .ok (.invokevirtual 193, 3) := by decide +kernel
theorem dX7_joins_6 : decode cX7_joins 6 = .ok (.iload_n 2, 1) := by decide +kernel
theorem dX7_joins_7 : decode cX7_joins 7 = .ok (.if_icmp .ne 13, 3) := by decide +kernel
theorem dX7_joins_10 : decode cX7_joins 10 = .ok (.aload_n 0, 1) := by decide +kernel
theorem dX7_joins_11 : decode cX7_joins 11 = .ok (.iload_n 1, 1) := by decide +kernel
theorem dX7_joins_12 : decode cX7_joins 12 = .ok (.iconst 1, 1) := by decide +kernel
theorem dX7_joins_13 : decode cX7_joins 13 = .ok (.invokevirtual 193, 3) := by decide +kernel
theorem dX7_joins_16 : decode cX7_joins 16 = .ok (.iload_n 3, 1) := by decide +kernel
theorem dX7_joins_17 : decode cX7_joins 17 = .ok (.if_icmp .eq 23, 3) := by decide +kernel
theorem dX7_joins_20 : decode cX7_joins 20 = .ok (.aload_n 0, 1) := by decide +kernel
theorem dX7_joins_21 : decode cX7_joins 21 = .ok (.iload_n 1, 1) := by decide +kernel
theorem dX7_joins_22 : decode cX7_joins 22 = .ok (.iconst 0, 1) := by decide +kernel
theorem dX7_joins_23 : decode cX7_joins 23 = .ok (.invokevirtual 193, 3) := by decide +kernel
theorem dX7_joins_26 : decode cX7_joins 26 = .ok (.iload_n 3, 1) := by decide +kernel
theorem dX7_joins_27 : decode cX7_joins 27 = .ok (.if_icmp .ne 17, 3) := by decide +kernel
theorem dX7_joins_30 : decode cX7_joins 30 = .ok (.aload_n 0, 1) := by decide +kernel
theorem dX7_joins_31 : decode cX7_joins 31 = .ok (.iload_n 1, 1) := by decide +kernel
theorem dX7_joins_32 : decode cX7_joins 32 = .ok (.iconst 1, 1) := by decide +kernel
theorem dX7_joins_33 : decode cX7_joins 33 = .ok (.invokevirtual 193, 3) := by decide +kernel
theorem dX7_joins_36 : decode cX7_joins 36 = .ok (.iload_n 2, 1) := by decide +kernel
theorem dX7_joins_37 : decode cX7_joins 37 = .ok (.if_icmp .ne 7, 3) := by decide +kernel
theorem dX7_joins_40 : decode cX7_joins 40 = .ok (.iconst 1, 1) := by decide +kernel
theorem dX7_joins_41 : decode cX7_joins 41 = .ok (.goto 4, 3) := by decide +kernel
theorem dX7_joins_44 : decode cX7_joins 44 = .ok (.iconst 0, 1) := by decide +kernel
theorem dX7_joins_45 : decode cX7_joins 45 = .ok (.ireturn, 1) := by decide +kernel
theorem dX7_linkOf_0 : decode cX7_linkOf 0 = .ok (.iconst 0, 1) := by decide +kernel
theorem dX7_linkOf_1 : decode cX7_linkOf 1 = .ok (.istore_n 3, 1) := by decide +kernel
theorem dX7_linkOf_2 : decode cX7_linkOf 2 = .ok (.iload_n 3, 1) := by decide +kernel
theorem dX7_linkOf_3 : decode cX7_linkOf 3 = .ok (.aload_n 0, 1) := by decide +kernel
theorem dX7_linkOf_4 : decode cX7_linkOf 4 = .ok (.getfield 7, 3) := by decide +kernel
theorem dX7_linkOf_7 : decode cX7_linkOf 7 = .ok (.iconst 1, 1) := by decide +kernel
theorem dX7_linkOf_8 : decode cX7_linkOf 8 = .ok (.iaload, 1) := by decide +kernel
theorem dX7_linkOf_9 : decode cX7_linkOf 9 = .ok (.if_icmp .ge 21, 3) := by decide +kernel
theorem dX7_linkOf_12 : decode cX7_linkOf 12 = .ok (.aload_n 0, 1) := by decide +kernel
theorem dX7_linkOf_13 : decode cX7_linkOf 13 = .ok (.iload_n 3, 1) := by decide +kernel
theorem dX7_linkOf_14 : decode cX7_linkOf 14 = .ok (.iload_n 1, 1) := by decide +kernel
theorem dX7_linkOf_15 : decode cX7_linkOf 15 = .ok (.iload_n 2, 1) := by decide +kernel
theorem dX7_linkOf_16 : decode cX7_linkOf 16 = .ok (.invokevirtual 196, 3) := by decide +kernel
theorem dX7_linkOf_19 : decode cX7_linkOf 19 = .ok (.ifCond .eq 5, 3) := by decide +kernel
theorem dX7_linkOf_22 : decode cX7_linkOf 22 = .ok (.iload_n 3, 1) := by decide +kernel
theorem dX7_linkOf_23 : decode cX7_linkOf 23 = .ok (.ireturn, 1) := by decide +kernel
theorem dX7_linkOf_24 : decode cX7_linkOf 24 = .ok (.iinc 3 1, 3) := by decide +kernel
theorem dX7_linkOf_27 : decode cX7_linkOf 27 = .ok (.goto (-25), 3) := by decide +kernel
theorem dX7_linkOf_30 : decode cX7_linkOf 30 = .ok (.iconst (-1), 1) := by decide +kernel
theorem dX7_linkOf_31 : decode cX7_linkOf 31 = .ok (.ireturn, 1) := by decide +kernel
theorem dX7_appendLink_0 : decode cX7_appendLink 0 = .ok (.bipush 64, 2) := by decide +kernel
theorem dX7_appendLink_2 : decode cX7_appendLink 2 = .ok (.bipush 8, 2) := by decide +kernel
theorem dX7_appendLink_4 : decode cX7_appendLink 4 = .ok (.aload_n 0, 1) := by decide +kernel
theorem dX7_appendLink_5 : decode cX7_appendLink 5 = .ok (.getfield 7, 3) := by decide +kernel
theorem dX7_appendLink_8 : decode cX7_appendLink 8 = .ok (.iconst 1, 1) := by decide +kernel
theorem dX7_appendLink_9 : decode cX7_appendLink 9 = .ok (.iaload, 1) := by decide +kernel
theorem dX7_appendLink_10 : decode cX7_appendLink 10 = .ok (.imul, 1) := by decide +kernel
theorem dX7_appendLink_11 : decode cX7_appendLink 11 = .ok (.iadd, 1) := by decide +kernel
theorem dX7_appendLink_12 : decode cX7_appendLink 12 = .ok (.istore 6, 2) := by decide +kernel
theorem dX7_appendLink_14 : decode cX7_appendLink 14 = .ok (.aload_n 0, 1) := by decide +kernel
theorem dX7_appendLink_15 : decode cX7_appendLink 15 = .ok (.getfield 7, 3) := by decide +kernel
theorem dX7_appendLink_18 : decode cX7_appendLink 18 = .ok (.iload 6, 2) := by decide +kernel
theorem dX7_appendLink_20 : decode cX7_appendLink 20 = .ok (.iconst 0, 1) := by decide +kernel
theorem dX7_appendLink_21 : decode cX7_appendLink 21 = .ok (.iadd, 1) := by decide +kernel
theorem dX7_appendLink_22 : decode cX7_appendLink 22 = .ok (.iload_n 1, 1) := by decide +kernel
theorem dX7_appendLink_23 : decode cX7_appendLink 23 = .ok (.iastore, 1) := by decide +kernel
theorem dX7_appendLink_24 : decode cX7_appendLink 24 = .ok (.aload_n 0, 1) := by decide +kernel
theorem dX7_appendLink_25 : decode cX7_appendLink 25 = .ok (.getfield 7, 3) := by decide +kernel
theorem dX7_appendLink_28 : decode cX7_appendLink 28 = .ok (.iload 6, 2) := by decide +kernel
theorem dX7_appendLink_30 : decode cX7_appendLink 30 = .ok (.iconst 1, 1) := by decide +kernel
theorem dX7_appendLink_31 : decode cX7_appendLink 31 = .ok (.iadd, 1) := by decide +kernel
theorem dX7_appendLink_32 : decode cX7_appendLink 32 = .ok (.iload_n 2, 1) := by decide +kernel
theorem dX7_appendLink_33 : decode cX7_appendLink 33 = .ok (.iastore, 1) := by decide +kernel
theorem dX7_appendLink_34 : decode cX7_appendLink 34 = .ok (.aload_n 0, 1) := by decide +kernel
theorem dX7_appendLink_35 : decode cX7_appendLink 35 = .ok (.getfield 7, 3) := by decide +kernel
theorem dX7_appendLink_38 : decode cX7_appendLink 38 = .ok (.iload 6, 2) := by decide +kernel
theorem dX7_appendLink_40 : decode cX7_appendLink 40 = .ok (.iconst 2, 1) := by decide +kernel
theorem dX7_appendLink_41 : decode cX7_appendLink 41 = .ok (.iadd, 1) := by decide +kernel
theorem dX7_appendLink_42 : decode cX7_appendLink 42 = .ok (.iload_n 3, 1) := by decide +kernel
theorem dX7_appendLink_43 : decode cX7_appendLink 43 = .ok (.iastore, 1) := by decide +kernel
theorem dX7_appendLink_44 : decode cX7_appendLink 44 = .ok (.aload_n 0, 1) := by decide +kernel
theorem dX7_appendLink_45 : decode cX7_appendLink 45 = .ok (.getfield 7, 3) := by decide +kernel
theorem dX7_appendLink_48 : decode cX7_appendLink 48 = .ok (.iload 6, 2) := by decide +kernel
theorem dX7_appendLink_50 : decode cX7_appendLink 50 = .ok (.iconst 3, 1) := by decide +kernel
theorem dX7_appendLink_51 : decode cX7_appendLink 51 = .ok (.iadd, 1) := by decide +kernel
theorem dX7_appendLink_52 : decode cX7_appendLink 52 = .ok (.iload 4, 2) := by decide +kernel
theorem dX7_appendLink_54 : decode cX7_appendLink 54 = .ok (.iastore, 1) := by decide +kernel
theorem dX7_appendLink_55 : decode cX7_appendLink 55 = .ok (.aload_n 0, 1) := by decide +kernel
theorem dX7_appendLink_56 : decode cX7_appendLink 56 = .ok (.getfield 7, 3) := by decide +kernel
theorem dX7_appendLink_59 : decode cX7_appendLink 59 = .ok (.iload 6, 2) := by decide +kernel
theorem dX7_appendLink_61 : decode cX7_appendLink 61 = .ok (.iconst 4, 1) := by decide +kernel
theorem dX7_appendLink_62 : decode cX7_appendLink 62 = .ok (.iadd, 1) := by decide +kernel
theorem dX7_appendLink_63 : decode cX7_appendLink 63 = .ok (.iload 5, 2) := by decide +kernel
theorem dX7_appendLink_65 : decode cX7_appendLink 65 = .ok (.iastore, 1) := by decide +kernel
theorem dX7_appendLink_66 : decode cX7_appendLink 66 = .ok (.aload_n 0, 1) := by decide +kernel
theorem dX7_appendLink_67 : decode cX7_appendLink 67 = .ok (.getfield 7, 3) := by decide +kernel
theorem dX7_appendLink_70 : decode cX7_appendLink 70 = .ok (.iconst 1, 1) := by decide +kernel
theorem dX7_appendLink_71 : decode cX7_appendLink 71 = .ok (.dup2, 1) := by decide +kernel
theorem dX7_appendLink_72 : decode cX7_appendLink 72 = .ok (.iaload, 1) := by decide +kernel
theorem dX7_appendLink_73 : decode cX7_appendLink 73 = .ok (.iconst 1, 1) := by decide +kernel
theorem dX7_appendLink_74 : decode cX7_appendLink 74 = .ok (.iadd, 1) := by decide +kernel
theorem dX7_appendLink_75 : decode cX7_appendLink 75 = .ok (.iastore, 1) := by decide +kernel
theorem dX7_appendLink_76 : decode cX7_appendLink 76 = .ok (.aload_n 0, 1) := by decide +kernel
theorem dX7_appendLink_77 : decode cX7_appendLink 77 = .ok (.getfield 7, 3) := by decide +kernel
theorem dX7_appendLink_80 : decode cX7_appendLink 80 = .ok (.iconst 1, 1) := by decide +kernel
theorem dX7_appendLink_81 : decode cX7_appendLink 81 = .ok (.iaload, 1) := by decide +kernel
theorem dX7_appendLink_82 : decode cX7_appendLink 82 = .ok (.iconst 1, 1) := by decide +kernel
theorem dX7_appendLink_83 : decode cX7_appendLink 83 = .ok (.isub, 1) := by decide +kernel
theorem dX7_appendLink_84 : decode cX7_appendLink 84 = .ok (.ireturn, 1) := by decide +kernel
theorem dX7_addLink_0 : decode cX7_addLink 0 = .ok (.aload_n 0, 1) := by decide +kernel
theorem dX7_addLink_1 : decode cX7_addLink 1 = .ok (.iconst 0, 1) := by decide +kernel
theorem dX7_addLink_2 : decode cX7_addLink 2 = .ok (.putfield 54, 3) := by decide +kernel
theorem dX7_addLink_5 : decode cX7_addLink 5 = .ok (.aload_n 0, 1) := by decide +kernel
theorem dX7_addLink_6 : decode cX7_addLink 6 = .ok (.iload_n 1, 1) := by decide +kernel
theorem dX7_addLink_7 : decode cX7_addLink 7 = .ok (.invokevirtual 199, 3) := by decide +kernel
theorem dX7_addLink_10 : decode cX7_addLink 10 = .ok (.ifCond .eq 11, 3) := by decide +kernel
theorem dX7_addLink_13 : decode cX7_addLink 13 = .ok (.aload_n 0, 1) := by decide +kernel
theorem dX7_addLink_14 : decode cX7_addLink 14 = .ok (.iload_n 2, 1) := by decide +kernel
theorem dX7_addLink_15 : decode cX7_addLink 15 = .ok (.invokevirtual 199, 3) := by decide +kernel
theorem dX7_addLink_18 : decode cX7_addLink 18 = .ok (.ifCond .ne 9, 3) := by decide +kernel
theorem dX7_addLink_21 : decode cX7_addLink 21 = .ok (.aload_n 0, 1) := by decide +kernel
theorem dX7_addLink_22 : decode cX7_addLink 22 = .ok (.iconst 1, 1) := by decide +kernel
theorem dX7_addLink_23 : decode cX7_addLink 23 = .ok (.invokevirtual 68, 3) := by decide +kernel
theorem dX7_addLink_26 : decode cX7_addLink 26 = .ok (.ireturn, 1) := by decide +kernel
theorem dX7_addLink_27 : decode cX7_addLink 27 = .ok (.iload_n 1, 1) := by decide +kernel
theorem dX7_addLink_28 : decode cX7_addLink 28 = .ok (.iload_n 2, 1) := by decide +kernel
theorem dX7_addLink_29 : decode cX7_addLink 29 = .ok (.if_icmp .eq 29, 3) := by decide +kernel
theorem dX7_addLink_32 : decode cX7_addLink 32 = .ok (.iload_n 3, 1) := by decide +kernel
theorem dX7_addLink_33 : decode cX7_addLink 33 = .ok (.invokestatic 190, 3) := by decide +kernel
theorem dX7_addLink_36 : decode cX7_addLink 36 = .ok (.ifCond .eq 22, 3) := by decide +kernel
theorem dX7_addLink_39 : decode cX7_addLink 39 = .ok (.iload 4, 2) := by decide +kernel
theorem dX7_addLink_41 : decode cX7_addLink 41 = .ok (.invokestatic 190, 3) := by decide +kernel
theorem dX7_addLink_44 : decode cX7_addLink 44 = .ok (.ifCond .eq 14, 3) := by decide +kernel
theorem dX7_addLink_47 : decode cX7_addLink 47 = .ok (.iload 5, 2) := by decide +kernel
theorem dX7_addLink_49 : decode cX7_addLink 49 = .ok (.iconst 0, 1) := by decide +kernel
theorem dX7_addLink_50 : decode cX7_addLink 50 = .ok (.bipush 100, 2) := by decide +kernel
theorem dX7_addLink_52 : decode cX7_addLink 52 = .ok (.invokestatic 57, 3) := by decide +kernel
theorem dX7_addLink_55 : decode cX7_addLink 55 = .ok (.ifCond .ne 9, 3) := by decide +kernel
theorem dX7_addLink_58 : decode cX7_addLink 58 = .ok (.aload_n 0, 1) := by decide +kernel
theorem dX7_addLink_59 : decode cX7_addLink 59 = .ok (.iconst 2, 1) := by decide +kernel
theorem dX7_addLink_60 : decode cX7_addLink 60 = .ok (.invokevirtual 68, 3) := by decide +kernel
theorem dX7_addLink_63 : decode cX7_addLink 63 = .ok (.ireturn, 1) := by decide +kernel
theorem dX7_addLink_64 : decode cX7_addLink 64 = .ok (.aload_n 0, 1) := by decide +kernel
theorem dX7_addLink_65 : decode cX7_addLink 65 = .ok (.iload_n 1, 1) := by decide +kernel
theorem dX7_addLink_66 : decode cX7_addLink 66 = .ok (.iload_n 2, 1) := by decide +kernel
theorem dX7_addLink_67 : decode cX7_addLink 67 = .ok (.invokevirtual 148, 3) := by decide +kernel
theorem dX7_addLink_70 : decode cX7_addLink 70 = .ok (.iconst (-1), 1) := by decide +kernel
theorem dX7_addLink_71 : decode cX7_addLink 71 = .ok (.if_icmp .ne 14, 3) := by decide +kernel
theorem dX7_addLink_74 : decode cX7_addLink 74 = .ok (.aload_n 0, 1) := by decide +kernel
theorem dX7_addLink_75 : decode cX7_addLink 75 = .ok (.getfield 7, 3) := by decide +kernel
theorem dX7_addLink_78 : decode cX7_addLink 78 = .ok (.iconst 1, 1) := by decide +kernel
theorem dX7_addLink_79 : decode cX7_addLink 79 = .ok (.iaload, 1) := by decide +kernel
theorem dX7_addLink_80 : decode cX7_addLink 80 = .ok (.bipush 16, 2) := by decide +kernel
theorem dX7_addLink_82 : decode cX7_addLink 82 = .ok (.if_icmp .ne 11, 3) := by decide +kernel
theorem dX7_addLink_85 : decode cX7_addLink 85 = .ok (.aload_n 0, 1) := by decide +kernel
theorem dX7_addLink_86 : decode cX7_addLink 86 = .ok (.iconst 3, 1) := by decide +kernel
theorem dX7_addLink_87 : decode cX7_addLink 87 = .ok (.invokevirtual 68, 3) := by decide +kernel
theorem dX7_addLink_90 : decode cX7_addLink 90 = .ok (.goto 14, 3) := by decide +kernel
theorem dX7_addLink_93 : decode cX7_addLink 93 = .ok (.aload_n 0, 1) := by decide +kernel
theorem dX7_addLink_94 : decode cX7_addLink 94 = .ok (.iload_n 1, 1) := by decide +kernel
theorem dX7_addLink_95 : decode cX7_addLink 95 = .ok (.iload_n 2, 1) := by decide +kernel
theorem dX7_addLink_96 : decode cX7_addLink 96 = .ok (.iload_n 3, 1) := by decide +kernel
theorem dX7_addLink_97 : decode cX7_addLink 97 = .ok (.iload 4, 2) := by decide +kernel
theorem dX7_addLink_99 : decode cX7_addLink 99 = .ok (.iload 5, 2) := by decide +kernel
theorem dX7_addLink_101 : decode cX7_addLink 101 = .ok (.invokevirtual 151, 3) := by decide +kernel
theorem dX7_addLink_104 : decode cX7_addLink 104 = .ok (.ireturn, 1) := by decide +kernel
theorem dX7_change_0 : decode cX7_change 0 = .ok (.aload_n 0, 1) := by decide +kernel
theorem dX7_change_1 : decode cX7_change 1 = .ok (.getfield 7, 3) := by decide +kernel
theorem dX7_change_4 : decode cX7_change 4 = .ok (.iload_n 1, 1) := by decide +kernel
theorem dX7_change_5 : decode cX7_change 5 = .ok (.iaload, 1) := by decide +kernel
theorem dX7_change_6 : decode cX7_change 6 = .ok (.istore_n 3, 1) := by decide +kernel
theorem dX7_change_7 : decode cX7_change 7 = .ok (.aload_n 0, 1) := by decide +kernel
theorem dX7_change_8 : decode cX7_change 8 = .ok (.getfield 7, 3) := by decide +kernel
theorem dX7_change_11 : decode cX7_change 11 = .ok (.iload_n 1, 1) := by decide +kernel
theorem dX7_change_12 : decode cX7_change 12 = .ok (.iload_n 2, 1) := by decide +kernel
theorem dX7_change_13 : decode cX7_change 13 = .ok (.iastore, 1) := by decide +kernel
theorem dX7_change_14 : decode cX7_change 14 = .ok (.iload_n 3, 1) := by decide +kernel
theorem dX7_change_15 : decode cX7_change 15 = .ok (.ireturn, 1) := by decide +kernel
theorem dX7_setStation_0 : decode cX7_setStation 0 = .ok (.aload_n 0, 1) := by decide +kernel
theorem dX7_setStation_1 : decode cX7_setStation 1 = .ok (.iconst 0, 1) := by decide +kernel
theorem dX7_setStation_2 : decode cX7_setStation 2 = .ok (.putfield 54, 3) := by decide +kernel
theorem dX7_setStation_5 : decode cX7_setStation 5 = .ok (.aload_n 0, 1) := by decide +kernel
theorem dX7_setStation_6 : decode cX7_setStation 6 = .ok (.iload_n 1, 1) := by decide +kernel
theorem dX7_setStation_7 : decode cX7_setStation 7 = .ok (.invokevirtual 199, 3) := by decide +kernel
theorem dX7_setStation_10 : decode cX7_setStation 10 = .ok (.ifCond .ne 9, 3) := by decide +kernel
theorem dX7_setStation_13 : decode cX7_setStation 13 = .ok (.aload_n 0, 1) := by decide +kernel
theorem dX7_setStation_14 : decode cX7_setStation 14 = .ok (.iconst 1, 1) := by decide +kernel
theorem dX7_setStation_15 : decode cX7_setStation 15 = .ok (.invokevirtual 68, 3) := by decide +kernel
theorem dX7_setStation_18 : decode cX7_setStation 18 = .ok (.ireturn, 1) := by decide +kernel
theorem dX7_setStation_19 : decode cX7_setStation 19 = .ok (.iload_n 2, 1) := by decide +kernel
theorem dX7_setStation_20 : decode cX7_setStation 20 = .ok (.iconst 2, 1) := by decide +kernel
theorem dX7_setStation_21 : decode cX7_setStation 21 = .ok (.if_icmp .ne 13, 3) := by decide +kernel
theorem dX7_setStation_24 : decode cX7_setStation 24 = .ok (.iload_n 3, 1) := by decide +kernel
theorem dX7_setStation_25 : decode cX7_setStation 25 = .ok (.iconst 1, 1) := by decide +kernel
theorem dX7_setStation_26 : decode cX7_setStation 26 = .ok (.bipush 9, 2) := by decide +kernel
theorem dX7_setStation_28 : decode cX7_setStation 28 = .ok (.invokestatic 57, 3) := by decide +kernel
theorem dX7_setStation_31 : decode cX7_setStation 31 = .ok (.goto 24, 3) := by decide +kernel
theorem dX7_setStation_34 : decode cX7_setStation 34 = .ok (.iload_n 2, 1) := by decide +kernel
theorem dX7_setStation_35 : decode cX7_setStation 35 = .ok (.iconst 0, 1) := by decide +kernel
theorem dX7_setStation_36 : decode cX7_setStation 36 = .ok (.iconst 1, 1) := by decide +kernel
theorem dX7_setStation_37 : decode cX7_setStation 37 = .ok (.invokestatic 57, 3) := by decide +kernel
theorem dX7_setStation_40 : decode cX7_setStation 40 = .ok (.ifCond .eq 14, 3) := by decide +kernel
theorem dX7_setStation_43 : decode cX7_setStation 43 = .ok (.iload_n 3, 1) := by decide +kernel
theorem dX7_setStation_44 : decode cX7_setStation 44 = .ok (.invokestatic 190, 3) := by decide +kernel
theorem dX7_setStation_47 : decode cX7_setStation 47 = .ok (.ifCond .eq 7, 3) := by decide +kernel
theorem dX7_setStation_50 : decode cX7_setStation 50 = .ok (.iconst 1, 1) := by decide +kernel
theorem dX7_setStation_51 : decode cX7_setStation 51 = .ok (.goto 4, 3) := by decide +kernel
theorem dX7_setStation_54 : decode cX7_setStation 54 = .ok (.iconst 0, 1) := by decide +kernel
theorem dX7_setStation_55 : decode cX7_setStation 55 = .ok (.istore 4, 2) := by decide +kernel
theorem dX7_setStation_57 : decode cX7_setStation 57 = .ok (.iload 4, 2) := by decide +kernel
theorem dX7_setStation_59 : decode cX7_setStation 59 = .ok (.ifCond .eq 20, 3) := by decide +kernel
theorem dX7_setStation_62 : decode cX7_setStation 62 = .ok (.aload_n 0, 1) := by decide +kernel
theorem dX7_setStation_63 : decode cX7_setStation 63 = .ok (.bipush 8, 2) := by decide +kernel
theorem dX7_setStation_65 : decode cX7_setStation 65 = .ok (.bipush 7, 2) := by decide +kernel
theorem dX7_setStation_67 : decode cX7_setStation 67 = .ok (.iload_n 1, 1) := by decide +kernel
theorem dX7_setStation_68 : decode cX7_setStation 68 = .ok (.imul, 1) := by decide +kernel
theorem dX7_setStation_69 : decode cX7_setStation 69 = .ok (.iadd, 1) := by decide +kernel
theorem dX7_setStation_70 : decode cX7_setStation 70 = .ok (.iload_n 2, 1) := by decide +kernel
theorem dX7_setStation_71 : decode cX7_setStation 71 = .ok (.iadd, 1) := by decide +kernel
theorem dX7_setStation_72 : decode cX7_setStation 72 = .ok (.iload_n 3, 1) := by decide +kernel
theorem dX7_setStation_73 : decode cX7_setStation 73 = .ok (.invokevirtual 202, 3) := by decide +kernel
theorem dX7_setStation_76 : decode cX7_setStation 76 = .ok (.goto 8, 3) := by decide +kernel
theorem dX7_setStation_79 : decode cX7_setStation 79 = .ok (.aload_n 0, 1) := by decide +kernel
theorem dX7_setStation_80 : decode cX7_setStation 80 = .ok (.iconst 2, 1) := by decide +kernel
theorem dX7_setStation_81 : decode cX7_setStation 81 = .ok (.invokevirtual 68, 3) := by decide +kernel
theorem dX7_setStation_84 : decode cX7_setStation 84 = .ok (.ireturn, 1) := by decide +kernel
theorem dX7_setLink_0 : decode cX7_setLink 0 = .ok (.aload_n 0, 1) := by decide +kernel
theorem dX7_setLink_1 : decode cX7_setLink 1 = .ok (.iconst 0, 1) := by decide +kernel
theorem dX7_setLink_2 : decode cX7_setLink 2 = .ok (.putfield 54, 3) := by decide +kernel
theorem dX7_setLink_5 : decode cX7_setLink 5 = .ok (.iload_n 1, 1) := by decide +kernel
theorem dX7_setLink_6 : decode cX7_setLink 6 = .ok (.iconst 0, 1) := by decide +kernel
theorem dX7_setLink_7 : decode cX7_setLink 7 = .ok (.aload_n 0, 1) := by decide +kernel
theorem dX7_setLink_8 : decode cX7_setLink 8 = .ok (.getfield 7, 3) := by decide +kernel
theorem dX7_setLink_11 : decode cX7_setLink 11 = .ok (.iconst 1, 1) := by decide +kernel
theorem dX7_setLink_12 : decode cX7_setLink 12 = .ok (.iaload, 1) := by decide +kernel
theorem dX7_setLink_13 : decode cX7_setLink 13 = .ok (.iconst 1, 1) := by decide +kernel
theorem dX7_setLink_14 : decode cX7_setLink 14 = .ok (.isub, 1) := by decide +kernel
theorem dX7_setLink_15 : decode cX7_setLink 15 = .ok (.invokestatic 57, 3) := by decide +kernel
theorem dX7_setLink_18 : decode cX7_setLink 18 = .ok (.ifCond .ne 9, 3) := by decide +kernel
theorem dX7_setLink_21 : decode cX7_setLink 21 = .ok (.aload_n 0, 1) := by decide +kernel
theorem dX7_setLink_22 : decode cX7_setLink 22 = .ok (.iconst 1, 1) := by decide +kernel
theorem dX7_setLink_23 : decode cX7_setLink 23 = .ok (.invokevirtual 68, 3) := by decide +kernel
theorem dX7_setLink_26 : decode cX7_setLink 26 = .ok (.ireturn, 1) := by decide +kernel
theorem dX7_setLink_27 : decode cX7_setLink 27 = .ok (.iload_n 2, 1) := by decide +kernel
theorem dX7_setLink_28 : decode cX7_setLink 28 = .ok (.iconst 2, 1) := by decide +kernel
theorem dX7_setLink_29 : decode cX7_setLink 29 = .ok (.if_icmp .ne 13, 3) := by decide +kernel
theorem dX7_setLink_32 : decode cX7_setLink 32 = .ok (.iload_n 3, 1) := by decide +kernel
theorem dX7_setLink_33 : decode cX7_setLink 33 = .ok (.iconst 0, 1) := by decide +kernel
theorem dX7_setLink_34 : decode cX7_setLink 34 = .ok (.bipush 100, 2) := by decide +kernel
theorem dX7_setLink_36 : decode cX7_setLink 36 = .ok (.invokestatic 57, 3) := by decide +kernel
theorem dX7_setLink_39 : decode cX7_setLink 39 = .ok (.goto 24, 3) := by decide +kernel
theorem dX7_setLink_42 : decode cX7_setLink 42 = .ok (.iload_n 2, 1) := by decide +kernel
theorem dX7_setLink_43 : decode cX7_setLink 43 = .ok (.iconst 0, 1) := by decide +kernel
theorem dX7_setLink_44 : decode cX7_setLink 44 = .ok (.iconst 1, 1) := by decide +kernel
theorem dX7_setLink_45 : decode cX7_setLink 45 = .ok (.invokestatic 57, 3) := by decide +kernel
theorem dX7_setLink_48 : decode cX7_setLink 48 = .ok (.ifCond .eq 14, 3) := by decide +kernel
theorem dX7_setLink_51 : decode cX7_setLink 51 = .ok (.iload_n 3, 1) := by decide +kernel
theorem dX7_setLink_52 : decode cX7_setLink 52 = .ok (.invokestatic 190, 3) := by decide +kernel
theorem dX7_setLink_55 : decode cX7_setLink 55 = .ok (.ifCond .eq 7, 3) := by decide +kernel
theorem dX7_setLink_58 : decode cX7_setLink 58 = .ok (.iconst 1, 1) := by decide +kernel
theorem dX7_setLink_59 : decode cX7_setLink 59 = .ok (.goto 4, 3) := by decide +kernel
theorem dX7_setLink_62 : decode cX7_setLink 62 = .ok (.iconst 0, 1) := by decide +kernel
theorem dX7_setLink_63 : decode cX7_setLink 63 = .ok (.istore 4, 2) := by decide +kernel
theorem dX7_setLink_65 : decode cX7_setLink 65 = .ok (.iload 4, 2) := by decide +kernel
theorem dX7_setLink_67 : decode cX7_setLink 67 = .ok (.ifCond .eq 22, 3) := by decide +kernel
theorem dX7_setLink_70 : decode cX7_setLink 70 = .ok (.aload_n 0, 1) := by decide +kernel
theorem dX7_setLink_71 : decode cX7_setLink 71 = .ok (.bipush 64, 2) := by decide +kernel
theorem dX7_setLink_73 : decode cX7_setLink 73 = .ok (.bipush 8, 2) := by decide +kernel
theorem dX7_setLink_75 : decode cX7_setLink 75 = .ok (.iload_n 1, 1) := by decide +kernel
theorem dX7_setLink_76 : decode cX7_setLink 76 = .ok (.imul, 1) := by decide +kernel
theorem dX7_setLink_77 : decode cX7_setLink 77 = .ok (.iadd, 1) := by decide +kernel
theorem dX7_setLink_78 : decode cX7_setLink 78 = .ok (.iconst 2, 1) := by decide +kernel
theorem dX7_setLink_79 : decode cX7_setLink 79 = .ok (.iadd, 1) := by decide +kernel
theorem dX7_setLink_80 : decode cX7_setLink 80 = .ok (.iload_n 2, 1) := by decide +kernel
theorem dX7_setLink_81 : decode cX7_setLink 81 = .ok (.iadd, 1) := by decide +kernel
theorem dX7_setLink_82 : decode cX7_setLink 82 = .ok (.iload_n 3, 1) := by decide +kernel
theorem dX7_setLink_83 : decode cX7_setLink 83 = .ok (.invokevirtual 202, 3) := by decide +kernel
theorem dX7_setLink_86 : decode cX7_setLink 86 = .ok (.goto 8, 3) := by decide +kernel
theorem dX7_setLink_89 : decode cX7_setLink 89 = .ok (.aload_n 0, 1) := by decide +kernel
theorem dX7_setLink_90 : decode cX7_setLink 90 = .ok (.iconst 2, 1) := by decide +kernel
theorem dX7_setLink_91 : decode cX7_setLink 91 = .ok (.invokevirtual 68, 3) := by decide +kernel
theorem dX7_setLink_94 : decode cX7_setLink 94 = .ok (.ireturn, 1) := by decide +kernel
theorem dX7_setRules_0 : decode cX7_setRules 0 = .ok (.aload_n 0, 1) := by decide +kernel
theorem dX7_setRules_1 : decode cX7_setRules 1 = .ok (.iload_n 1, 1) := by decide +kernel
theorem dX7_setRules_2 : decode cX7_setRules 2 = .ok (.iconst 1, 1) := by decide +kernel
theorem dX7_setRules_3 : decode cX7_setRules 3 = .ok (.sipush 200, 3) := by decide +kernel
theorem dX7_setRules_6 : decode cX7_setRules 6 = .ok (.invokestatic 57, 3) := by decide +kernel
theorem dX7_setRules_9 : decode cX7_setRules 9 = .ok (.ifCond .eq 27, 3) := by decide +kernel
theorem dX7_setRules_12 : decode cX7_setRules 12 = .ok (.iload_n 2, 1) := by decide +kernel
theorem dX7_setRules_13 : decode cX7_setRules 13 = .ok (.iconst 1, 1) := by decide +kernel
theorem dX7_setRules_14 : decode cX7_setRules 14 = .ok (.bipush 9, 2) := by decide +kernel
theorem dX7_setRules_16 : decode cX7_setRules 16 = .ok (.invokestatic 57, 3) := by decide +kernel
theorem dX7_setRules_19 : decode cX7_setRules 19 = .ok (.ifCond .eq 17, 3) := by decide +kernel
theorem dX7_setRules_22 : decode cX7_setRules 22 = .ok (.iload_n 3, 1) := by decide +kernel
theorem dX7_setRules_23 : decode cX7_setRules 23 = .ok (.iconst 0, 1) := by decide +kernel
theorem dX7_setRules_24 : decode cX7_setRules 24 = .ok (.ldc 179, 2) := by decide +kernel
theorem dX7_setRules_26 : decode cX7_setRules 26 = .ok (.invokestatic 57, 3) := by decide +kernel
theorem dX7_setRules_29 : decode cX7_setRules 29 = .ok (.ifCond .eq 7, 3) := by decide +kernel
theorem dX7_setRules_32 : decode cX7_setRules 32 = .ok (.iconst 0, 1) := by decide +kernel
theorem dX7_setRules_33 : decode cX7_setRules 33 = .ok (.goto 4, 3) := by decide +kernel
theorem dX7_setRules_36 : decode cX7_setRules 36 = .ok (.iconst 1, 1) := by decide +kernel
theorem dX7_setRules_37 : decode cX7_setRules 37 = .ok (.putfield 54, 3) := by decide +kernel
theorem dX7_setRules_40 : decode cX7_setRules 40 = .ok (.aload_n 0, 1) := by decide +kernel
theorem dX7_setRules_41 : decode cX7_setRules 41 = .ok (.getfield 54, 3) := by decide +kernel
theorem dX7_setRules_44 : decode cX7_setRules 44 = .ok (.ifCond .ne 25, 3) := by decide +kernel
theorem dX7_setRules_47 : decode cX7_setRules 47 = .ok (.aload_n 0, 1) := by decide +kernel
theorem dX7_setRules_48 : decode cX7_setRules 48 = .ok (.getfield 7, 3) := by decide +kernel
theorem dX7_setRules_51 : decode cX7_setRules 51 = .ok (.iconst 4, 1) := by decide +kernel
theorem dX7_setRules_52 : decode cX7_setRules 52 = .ok (.iload_n 1, 1) := by decide +kernel
theorem dX7_setRules_53 : decode cX7_setRules 53 = .ok (.iastore, 1) := by decide +kernel
theorem dX7_setRules_54 : decode cX7_setRules 54 = .ok (.aload_n 0, 1) := by decide +kernel
theorem dX7_setRules_55 : decode cX7_setRules 55 = .ok (.getfield 7, 3) := by decide +kernel
theorem dX7_setRules_58 : decode cX7_setRules 58 = .ok (.iconst 5, 1) := by decide +kernel
theorem dX7_setRules_59 : decode cX7_setRules 59 = .ok (.iload_n 2, 1) := by decide +kernel
theorem dX7_setRules_60 : decode cX7_setRules 60 = .ok (.iastore, 1) := by decide +kernel
theorem dX7_setRules_61 : decode cX7_setRules 61 = .ok (.aload_n 0, 1) := by decide +kernel
theorem dX7_setRules_62 : decode cX7_setRules 62 = .ok (.getfield 7, 3) := by decide +kernel
theorem dX7_setRules_65 : decode cX7_setRules 65 = .ok (.bipush 6, 2) := by decide +kernel
theorem dX7_setRules_67 : decode cX7_setRules 67 = .ok (.iload_n 3, 1) := by decide +kernel
theorem dX7_setRules_68 : decode cX7_setRules 68 = .ok (.iastore, 1) := by decide +kernel
theorem dX7_setRules_69 : decode cX7_setRules 69 = .ok (.return_, 1) := by decide +kernel
theorem dX7_isWithin_0 : decode cX7_isWithin 0 = .ok (.iload_n 1, 1) := by decide +kernel
theorem dX7_isWithin_1 : decode cX7_isWithin 1 = .ok (.iload_n 2, 1) := by decide +kernel
theorem dX7_isWithin_2 : decode cX7_isWithin 2 = .ok (.if_icmp .gt 12, 3) := by decide +kernel
theorem dX7_isWithin_5 : decode cX7_isWithin 5 = .ok (.iload_n 0, 1) := by decide +kernel
theorem dX7_isWithin_6 : decode cX7_isWithin 6 = .ok (.iload_n 1, 1) := by decide +kernel
theorem dX7_isWithin_7 : decode cX7_isWithin 7 = .ok (.iload_n 2, 1) := by decide +kernel
theorem dX7_isWithin_8 : decode cX7_isWithin 8 = .ok (.invokestatic 57, 3) := by decide +kernel
theorem dX7_isWithin_11 : decode cX7_isWithin 11 = .ok (.goto 18, 3) := by decide +kernel
theorem dX7_isWithin_14 : decode cX7_isWithin 14 = .ok (.iload_n 0, 1) := by decide +kernel
theorem dX7_isWithin_15 : decode cX7_isWithin 15 = .ok (.iload_n 1, 1) := by decide +kernel
theorem dX7_isWithin_16 : decode cX7_isWithin 16 = .ok (.if_icmp .ge 8, 3) := by decide +kernel
theorem dX7_isWithin_19 : decode cX7_isWithin 19 = .ok (.iload_n 0, 1) := by decide +kernel
theorem dX7_isWithin_20 : decode cX7_isWithin 20 = .ok (.iload_n 2, 1) := by decide +kernel
theorem dX7_isWithin_21 : decode cX7_isWithin 21 = .ok (.if_icmp .gt 7, 3) := by decide +kernel
theorem dX7_isWithin_24 : decode cX7_isWithin 24 = .ok (.iconst 1, 1) := by decide +kernel
theorem dX7_isWithin_25 : decode cX7_isWithin 25 = .ok (.goto 4, 3) := by decide +kernel
theorem dX7_isWithin_28 : decode cX7_isWithin 28 = .ok (.iconst 0, 1) := by decide +kernel
theorem dX7_isWithin_29 : decode cX7_isWithin 29 = .ok (.ireturn, 1) := by decide +kernel
theorem dX7_isOnAir_0 : decode cX7_isOnAir 0 = .ok (.iload_n 2, 1) := by decide +kernel
theorem dX7_isOnAir_1 : decode cX7_isOnAir 1 = .ok (.bipush 24, 2) := by decide +kernel
theorem dX7_isOnAir_3 : decode cX7_isOnAir 3 = .ok (.irem, 1) := by decide +kernel
theorem dX7_isOnAir_4 : decode cX7_isOnAir 4 = .ok (.aload_n 0, 1) := by decide +kernel
theorem dX7_isOnAir_5 : decode cX7_isOnAir 5 = .ok (.iload_n 1, 1) := by decide +kernel
theorem dX7_isOnAir_6 : decode cX7_isOnAir 6 = .ok (.iconst 0, 1) := by decide +kernel
theorem dX7_isOnAir_7 : decode cX7_isOnAir 7 = .ok (.invokevirtual 205, 3) := by decide +kernel
theorem dX7_isOnAir_10 : decode cX7_isOnAir 10 = .ok (.aload_n 0, 1) := by decide +kernel
theorem dX7_isOnAir_11 : decode cX7_isOnAir 11 = .ok (.iload_n 1, 1) := by decide +kernel
theorem dX7_isOnAir_12 : decode cX7_isOnAir 12 = .ok (.iconst 1, 1) := by decide +kernel
theorem dX7_isOnAir_13 : decode cX7_isOnAir 13 = .ok (.invokevirtual 205, 3) := by decide +kernel
theorem dX7_isOnAir_16 : decode cX7_isOnAir 16 = .ok (.invokestatic 208, 3) := by decide +kernel
theorem dX7_isOnAir_19 : decode cX7_isOnAir 19 = .ok (.ireturn, 1) := by decide +kernel
theorem dX7_isOpen_0 : decode cX7_isOpen 0 = .ok (.iload_n 2, 1) := by decide +kernel
theorem dX7_isOpen_1 : decode cX7_isOpen 1 = .ok (.bipush 24, 2) := by decide +kernel
theorem dX7_isOpen_3 : decode cX7_isOpen 3 = .ok (.irem, 1) := by decide +kernel
theorem dX7_isOpen_4 : decode cX7_isOpen 4 = .ok (.aload_n 0, 1) := by decide +kernel
theorem dX7_isOpen_5 : decode cX7_isOpen 5 = .ok (.iload_n 1, 1) := by decide +kernel
theorem dX7_isOpen_6 : decode cX7_isOpen 6 = .ok (.iconst 2, 1) := by decide +kernel
theorem dX7_isOpen_7 : decode cX7_isOpen 7 = .ok (.invokevirtual 193, 3) := by decide +kernel
theorem dX7_isOpen_10 : decode cX7_isOpen 10 = .ok (.aload_n 0, 1) := by decide +kernel
theorem dX7_isOpen_11 : decode cX7_isOpen 11 = .ok (.iload_n 1, 1) := by decide +kernel
theorem dX7_isOpen_12 : decode cX7_isOpen 12 = .ok (.iconst 3, 1) := by decide +kernel
theorem dX7_isOpen_13 : decode cX7_isOpen 13 = .ok (.invokevirtual 193, 3) := by decide +kernel
theorem dX7_isOpen_16 : decode cX7_isOpen 16 = .ok (.invokestatic 208, 3) := by decide +kernel
theorem dX7_isOpen_19 : decode cX7_isOpen 19 = .ok (.ifCond .eq 35, 3) := by decide +kernel
theorem dX7_isOpen_22 : decode cX7_isOpen 22 = .ok (.aload_n 0, 1) := by decide +kernel
theorem dX7_isOpen_23 : decode cX7_isOpen 23 = .ok (.aload_n 0, 1) := by decide +kernel
theorem dX7_isOpen_24 : decode cX7_isOpen 24 = .ok (.iload_n 1, 1) := by decide +kernel
theorem dX7_isOpen_25 : decode cX7_isOpen 25 = .ok (.iconst 0, 1) := by decide +kernel
theorem dX7_isOpen_26 : decode cX7_isOpen 26 = .ok (.invokevirtual 193, 3) := by decide +kernel
theorem dX7_isOpen_29 : decode cX7_isOpen 29 = .ok (.iload_n 2, 1) := by decide +kernel
theorem dX7_isOpen_30 : decode cX7_isOpen 30 = .ok (.invokevirtual 211, 3) := by decide +kernel
theorem dX7_isOpen_33 : decode cX7_isOpen 33 = .ok (.ifCond .eq 21, 3) := by decide +kernel
theorem dX7_isOpen_36 : decode cX7_isOpen 36 = .ok (.aload_n 0, 1) := by decide +kernel
theorem dX7_isOpen_37 : decode cX7_isOpen 37 = .ok (.aload_n 0, 1) := by decide +kernel
theorem dX7_isOpen_38 : decode cX7_isOpen 38 = .ok (.iload_n 1, 1) := by decide +kernel
theorem dX7_isOpen_39 : decode cX7_isOpen 39 = .ok (.iconst 1, 1) := by decide +kernel
theorem dX7_isOpen_40 : decode cX7_isOpen 40 = .ok (.invokevirtual 193, 3) := by decide +kernel
theorem dX7_isOpen_43 : decode cX7_isOpen 43 = .ok (.iload_n 2, 1) := by decide +kernel
theorem dX7_isOpen_44 : decode cX7_isOpen 44 = .ok (.invokevirtual 211, 3) := by decide +kernel
theorem dX7_isOpen_47 : decode cX7_isOpen 47 = .ok (.ifCond .eq 7, 3) := by decide +kernel
theorem dX7_isOpen_50 : decode cX7_isOpen 50 = .ok (.iconst 1, 1) := by decide +kernel
theorem dX7_isOpen_51 : decode cX7_isOpen 51 = .ok (.goto 4, 3) := by decide +kernel
theorem dX7_isOpen_54 : decode cX7_isOpen 54 = .ok (.iconst 0, 1) := by decide +kernel
theorem dX7_isOpen_55 : decode cX7_isOpen 55 = .ok (.ireturn, 1) := by decide +kernel
theorem dX7_waitingAt_0 : decode cX7_waitingAt 0 = .ok (.iconst 0, 1) := by decide +kernel
theorem dX7_waitingAt_1 : decode cX7_waitingAt 1 = .ok (.istore_n 2, 1) := by decide +kernel
theorem dX7_waitingAt_2 : decode cX7_waitingAt 2 = .ok (.iconst 0, 1) := by decide +kernel
theorem dX7_waitingAt_3 : decode cX7_waitingAt 3 = .ok (.istore_n 3, 1) := by decide +kernel
theorem dX7_waitingAt_4 : decode cX7_waitingAt 4 = .ok (.iload_n 3, 1) := by decide +kernel
theorem dX7_waitingAt_5 : decode cX7_waitingAt 5 = .ok (.aload_n 0, 1) := by decide +kernel
theorem dX7_waitingAt_6 : decode cX7_waitingAt 6 = .ok (.getfield 7, 3) := by decide +kernel
theorem dX7_waitingAt_9 : decode cX7_waitingAt 9 = .ok (.iconst 2, 1) := by decide +kernel
theorem dX7_waitingAt_10 : decode cX7_waitingAt 10 = .ok (.iaload, 1) := by decide +kernel
theorem dX7_waitingAt_11 : decode cX7_waitingAt 11 = .ok (.if_icmp .ge 28, 3) := by decide +kernel
theorem dX7_waitingAt_14 : decode cX7_waitingAt 14 = .ok (.iload_n 2, 1) := by decide +kernel
theorem dX7_waitingAt_15 : decode cX7_waitingAt 15 = .ok (.aload_n 0, 1) := by decide +kernel
theorem dX7_waitingAt_16 : decode cX7_waitingAt 16 = .ok (.iload_n 3, 1) := by decide +kernel
theorem dX7_waitingAt_17 : decode cX7_waitingAt 17 = .ok (.iload_n 1, 1) := by decide +kernel
theorem dX7_waitingAt_18 : decode cX7_waitingAt 18 = .ok (.iconst 0, 1) := by decide +kernel
theorem dX7_waitingAt_19 : decode cX7_waitingAt 19 = .ok (.invokevirtual 215, 3) := by decide +kernel
theorem dX7_waitingAt_22 : decode cX7_waitingAt 22 = .ok (.iconst 1, 1) := by decide +kernel
theorem dX7_waitingAt_23 : decode cX7_waitingAt 23 = .ok (.if_icmp .ne 7, 3) := by decide +kernel
theorem dX7_waitingAt_26 : decode cX7_waitingAt 26 = .ok (.iconst 1, 1) := by decide +kernel
theorem dX7_waitingAt_27 : decode cX7_waitingAt 27 = .ok (.goto 4, 3) := by decide +kernel
theorem dX7_waitingAt_30 : decode cX7_waitingAt 30 = .ok (.iconst 0, 1) := by decide +kernel
theorem dX7_waitingAt_31 : decode cX7_waitingAt 31 = .ok (.iadd, 1) := by decide +kernel
theorem dX7_waitingAt_32 : decode cX7_waitingAt 32 = .ok (.istore_n 2, 1) := by decide +kernel
theorem dX7_waitingAt_33 : decode cX7_waitingAt 33 = .ok (.iinc 3 1, 3) := by decide +kernel
theorem dX7_waitingAt_36 : decode cX7_waitingAt 36 = .ok (.goto (-32), 3) := by decide +kernel
theorem dX7_waitingAt_39 : decode cX7_waitingAt 39 = .ok (.iload_n 2, 1) := by decide +kernel
theorem dX7_waitingAt_40 : decode cX7_waitingAt 40 = .ok (.ireturn, 1) := by decide +kernel
theorem dX7_linksAt_0 : decode cX7_linksAt 0 = .ok (.iconst 0, 1) := by decide +kernel
theorem dX7_linksAt_1 : decode cX7_linksAt 1 = .ok (.istore_n 2, 1) := by decide +kernel
theorem dX7_linksAt_2 : decode cX7_linksAt 2 = .ok (.iconst 0, 1) := by decide +kernel
theorem dX7_linksAt_3 : decode cX7_linksAt 3 = .ok (.istore_n 3, 1) := by decide +kernel
theorem dX7_linksAt_4 : decode cX7_linksAt 4 = .ok (.iload_n 3, 1) := by decide +kernel
theorem dX7_linksAt_5 : decode cX7_linksAt 5 = .ok (.aload_n 0, 1) := by decide +kernel
theorem dX7_linksAt_6 : decode cX7_linksAt 6 = .ok (.getfield 7, 3) := by decide +kernel
theorem dX7_linksAt_9 : decode cX7_linksAt 9 = .ok (.iconst 1, 1) := by decide +kernel
theorem dX7_linksAt_10 : decode cX7_linksAt 10 = .ok (.iaload, 1) := by decide +kernel
theorem dX7_linksAt_11 : decode cX7_linksAt 11 = .ok (.if_icmp .ge 37, 3) := by decide +kernel
theorem dX7_linksAt_14 : decode cX7_linksAt 14 = .ok (.iload_n 2, 1) := by decide +kernel
theorem dX7_linksAt_15 : decode cX7_linksAt 15 = .ok (.aload_n 0, 1) := by decide +kernel
theorem dX7_linksAt_16 : decode cX7_linksAt 16 = .ok (.iload_n 3, 1) := by decide +kernel
theorem dX7_linksAt_17 : decode cX7_linksAt 17 = .ok (.iconst 0, 1) := by decide +kernel
theorem dX7_linksAt_18 : decode cX7_linksAt 18 = .ok (.invokevirtual 193, 3) := by decide +kernel
theorem dX7_linksAt_21 : decode cX7_linksAt 21 = .ok (.iload_n 1, 1) := by decide +kernel
theorem dX7_linksAt_22 : decode cX7_linksAt 22 = .ok (.if_icmp .eq 13, 3) := by decide +kernel
theorem dX7_linksAt_25 : decode cX7_linksAt 25 = .ok (.aload_n 0, 1) := by decide +kernel
theorem dX7_linksAt_26 : decode cX7_linksAt 26 = .ok (.iload_n 3, 1) := by decide +kernel
theorem dX7_linksAt_27 : decode cX7_linksAt 27 = .ok (.iconst 1, 1) := by decide +kernel
theorem dX7_linksAt_28 : decode cX7_linksAt 28 = .ok (.invokevirtual 193, 3) := by decide +kernel
theorem dX7_linksAt_31 : decode cX7_linksAt 31 = .ok (.iload_n 1, 1) := by decide +kernel
theorem dX7_linksAt_32 : decode cX7_linksAt 32 = .ok (.if_icmp .ne 7, 3) := by decide +kernel
theorem dX7_linksAt_35 : decode cX7_linksAt 35 = .ok (.iconst 1, 1) := by decide +kernel
theorem dX7_linksAt_36 : decode cX7_linksAt 36 = .ok (.goto 4, 3) := by decide +kernel
theorem dX7_linksAt_39 : decode cX7_linksAt 39 = .ok (.iconst 0, 1) := by decide +kernel
theorem dX7_linksAt_40 : decode cX7_linksAt 40 = .ok (.iadd, 1) := by decide +kernel
theorem dX7_linksAt_41 : decode cX7_linksAt 41 = .ok (.istore_n 2, 1) := by decide +kernel
theorem dX7_linksAt_42 : decode cX7_linksAt 42 = .ok (.iinc 3 1, 3) := by decide +kernel
theorem dX7_linksAt_45 : decode cX7_linksAt 45 = .ok (.goto (-41), 3) := by decide +kernel
theorem dX7_linksAt_48 : decode cX7_linksAt 48 = .ok (.iload_n 2, 1) := by decide +kernel
theorem dX7_linksAt_49 : decode cX7_linksAt 49 = .ok (.ireturn, 1) := by decide +kernel
theorem dX7_station_0 : decode cX7_station 0 = .ok (.aload_n 0, 1) := by decide +kernel
theorem dX7_station_1 : decode cX7_station 1 = .ok (.iconst 0, 1) := by decide +kernel
theorem dX7_station_2 : decode cX7_station 2 = .ok (.putfield 54, 3) := by decide +kernel
theorem dX7_station_5 : decode cX7_station 5 = .ok (.aload_n 0, 1) := by decide +kernel
theorem dX7_station_6 : decode cX7_station 6 = .ok (.iload_n 1, 1) := by decide +kernel
theorem dX7_station_7 : decode cX7_station 7 = .ok (.invokevirtual 199, 3) := by decide +kernel
theorem dX7_station_10 : decode cX7_station 10 = .ok (.ifCond .ne 9, 3) := by decide +kernel
theorem dX7_station_13 : decode cX7_station 13 = .ok (.aload_n 0, 1) := by decide +kernel
theorem dX7_station_14 : decode cX7_station 14 = .ok (.iconst 1, 1) := by decide +kernel
theorem dX7_station_15 : decode cX7_station 15 = .ok (.invokevirtual 68, 3) := by decide +kernel
theorem dX7_station_18 : decode cX7_station 18 = .ok (.ireturn, 1) := by decide +kernel
theorem dX7_station_19 : decode cX7_station 19 = .ok (.iload_n 2, 1) := by decide +kernel
theorem dX7_station_20 : decode cX7_station 20 = .ok (.tableswitch 106 0 9 #[56, 56, 56, 63, 83, 89, 89, 89, 89, 100], 56) := by decide +kernel
theorem dX7_station_76 : decode cX7_station 76 = .ok (.aload_n 0, 1) := by decide +kernel
theorem dX7_station_77 : decode cX7_station 77 = .ok (.iload_n 1, 1) := by decide +kernel
theorem dX7_station_78 : decode cX7_station 78 = .ok (.iload_n 2, 1) := by decide +kernel
theorem dX7_station_79 : decode cX7_station 79 = .ok (.invokevirtual 205, 3) := by decide +kernel
theorem dX7_station_82 : decode cX7_station 82 = .ok (.ireturn, 1) := by decide +kernel
theorem dX7_station_83 : decode cX7_station 83 = .ok (.aload_n 0, 1) := by decide +kernel
theorem dX7_station_84 : decode cX7_station 84 = .ok (.iload_n 1, 1) := by decide +kernel
theorem dX7_station_85 : decode cX7_station 85 = .ok (.aload_n 0, 1) := by decide +kernel
theorem dX7_station_86 : decode cX7_station 86 = .ok (.getfield 7, 3) := by decide +kernel
theorem dX7_station_89 : decode cX7_station 89 = .ok (.iconst 3, 1) := by decide +kernel
theorem dX7_station_90 : decode cX7_station 90 = .ok (.iaload, 1) := by decide +kernel
theorem dX7_station_91 : decode cX7_station 91 = .ok (.invokevirtual 211, 3) := by decide +kernel
theorem dX7_station_94 : decode cX7_station 94 = .ok (.ifCond .eq 7, 3) := by decide +kernel
theorem dX7_station_97 : decode cX7_station 97 = .ok (.iconst 1, 1) := by decide +kernel
theorem dX7_station_98 : decode cX7_station 98 = .ok (.goto 4, 3) := by decide +kernel
theorem dX7_station_101 : decode cX7_station 101 = .ok (.iconst 0, 1) := by decide +kernel
theorem dX7_station_102 : decode cX7_station 102 = .ok (.ireturn, 1) := by decide +kernel
theorem dX7_station_103 : decode cX7_station 103 = .ok (.aload_n 0, 1) := by decide +kernel
theorem dX7_station_104 : decode cX7_station 104 = .ok (.iload_n 1, 1) := by decide +kernel
theorem dX7_station_105 : decode cX7_station 105 = .ok (.invokevirtual 218, 3) := by decide +kernel
theorem dX7_station_108 : decode cX7_station 108 = .ok (.ireturn, 1) := by decide +kernel
theorem dX7_station_109 : decode cX7_station 109 = .ok (.aload_n 0, 1) := by decide +kernel
theorem dX7_station_110 : decode cX7_station 110 = .ok (.iload_n 1, 1) := by decide +kernel
theorem dX7_station_111 : decode cX7_station 111 = .ok (.iconst 3, 1) := by decide +kernel
theorem dX7_station_112 : decode cX7_station 112 = .ok (.iload_n 2, 1) := by decide +kernel
theorem dX7_station_113 : decode cX7_station 113 = .ok (.iadd, 1) := by decide +kernel
theorem dX7_station_114 : decode cX7_station 114 = .ok (.iconst 5, 1) := by decide +kernel
theorem dX7_station_115 : decode cX7_station 115 = .ok (.isub, 1) := by decide +kernel
theorem dX7_station_116 : decode cX7_station 116 = .ok (.invokevirtual 205, 3) := by decide +kernel
theorem dX7_station_119 : decode cX7_station 119 = .ok (.ireturn, 1) := by decide +kernel
theorem dX7_station_120 : decode cX7_station 120 = .ok (.aload_n 0, 1) := by decide +kernel
theorem dX7_station_121 : decode cX7_station 121 = .ok (.iload_n 1, 1) := by decide +kernel
theorem dX7_station_122 : decode cX7_station 122 = .ok (.invokevirtual 221, 3) := by decide +kernel
theorem dX7_station_125 : decode cX7_station 125 = .ok (.ireturn, 1) := by decide +kernel
theorem dX7_station_126 : decode cX7_station 126 = .ok (.aload_n 0, 1) := by decide +kernel
theorem dX7_station_127 : decode cX7_station 127 = .ok (.iconst 2, 1) := by decide +kernel
theorem dX7_station_128 : decode cX7_station 128 = .ok (.invokevirtual 68, 3) := by decide +kernel
theorem dX7_station_131 : decode cX7_station 131 = .ok (.ireturn, 1) := by decide +kernel
theorem dX7_link_0 : decode cX7_link 0 = .ok (.aload_n 0, 1) := by decide +kernel
theorem dX7_link_1 : decode cX7_link 1 = .ok (.iconst 0, 1) := by decide +kernel
theorem dX7_link_2 : decode cX7_link 2 = .ok (.putfield 54, 3) := by decide +kernel
theorem dX7_link_5 : decode cX7_link 5 = .ok (.iload_n 1, 1) := by decide +kernel
theorem dX7_link_6 : decode cX7_link 6 = .ok (.iconst 0, 1) := by decide +kernel
theorem dX7_link_7 : decode cX7_link 7 = .ok (.aload_n 0, 1) := by decide +kernel
theorem dX7_link_8 : decode cX7_link 8 = .ok (.getfield 7, 3) := by decide +kernel
theorem dX7_link_11 : decode cX7_link 11 = .ok (.iconst 1, 1) := by decide +kernel
theorem dX7_link_12 : decode cX7_link 12 = .ok (.iaload, 1) := by decide +kernel
theorem dX7_link_13 : decode cX7_link 13 = .ok (.iconst 1, 1) := by decide +kernel
theorem dX7_link_14 : decode cX7_link 14 = .ok (.isub, 1) := by decide +kernel
theorem dX7_link_15 : decode cX7_link 15 = .ok (.invokestatic 57, 3) := by decide +kernel
theorem dX7_link_18 : decode cX7_link 18 = .ok (.ifCond .ne 9, 3) := by decide +kernel
theorem dX7_link_21 : decode cX7_link 21 = .ok (.aload_n 0, 1) := by decide +kernel
theorem dX7_link_22 : decode cX7_link 22 = .ok (.iconst 1, 1) := by decide +kernel
theorem dX7_link_23 : decode cX7_link 23 = .ok (.invokevirtual 68, 3) := by decide +kernel
theorem dX7_link_26 : decode cX7_link 26 = .ok (.ireturn, 1) := by decide +kernel
theorem dX7_link_27 : decode cX7_link 27 = .ok (.iload_n 2, 1) := by decide +kernel
theorem dX7_link_28 : decode cX7_link 28 = .ok (.iconst 0, 1) := by decide +kernel
theorem dX7_link_29 : decode cX7_link 29 = .ok (.bipush 8, 2) := by decide +kernel
theorem dX7_link_31 : decode cX7_link 31 = .ok (.invokestatic 57, 3) := by decide +kernel
theorem dX7_link_34 : decode cX7_link 34 = .ok (.ifCond .ne 9, 3) := by decide +kernel
theorem dX7_link_37 : decode cX7_link 37 = .ok (.aload_n 0, 1) := by decide +kernel
theorem dX7_link_38 : decode cX7_link 38 = .ok (.iconst 2, 1) := by decide +kernel
theorem dX7_link_39 : decode cX7_link 39 = .ok (.invokevirtual 68, 3) := by decide +kernel
theorem dX7_link_42 : decode cX7_link 42 = .ok (.ireturn, 1) := by decide +kernel
theorem dX7_link_43 : decode cX7_link 43 = .ok (.iload_n 2, 1) := by decide +kernel
theorem dX7_link_44 : decode cX7_link 44 = .ok (.iconst 5, 1) := by decide +kernel
theorem dX7_link_45 : decode cX7_link 45 = .ok (.if_icmp .ne 23, 3) := by decide +kernel
theorem dX7_link_48 : decode cX7_link 48 = .ok (.aload_n 0, 1) := by decide +kernel
theorem dX7_link_49 : decode cX7_link 49 = .ok (.iload_n 1, 1) := by decide +kernel
theorem dX7_link_50 : decode cX7_link 50 = .ok (.aload_n 0, 1) := by decide +kernel
theorem dX7_link_51 : decode cX7_link 51 = .ok (.getfield 7, 3) := by decide +kernel
theorem dX7_link_54 : decode cX7_link 54 = .ok (.iconst 3, 1) := by decide +kernel
theorem dX7_link_55 : decode cX7_link 55 = .ok (.iaload, 1) := by decide +kernel
theorem dX7_link_56 : decode cX7_link 56 = .ok (.invokevirtual 224, 3) := by decide +kernel
theorem dX7_link_59 : decode cX7_link 59 = .ok (.ifCond .eq 7, 3) := by decide +kernel
theorem dX7_link_62 : decode cX7_link 62 = .ok (.iconst 1, 1) := by decide +kernel
theorem dX7_link_63 : decode cX7_link 63 = .ok (.goto 4, 3) := by decide +kernel
theorem dX7_link_66 : decode cX7_link 66 = .ok (.iconst 0, 1) := by decide +kernel
theorem dX7_link_67 : decode cX7_link 67 = .ok (.ireturn, 1) := by decide +kernel
theorem dX7_link_68 : decode cX7_link 68 = .ok (.aload_n 0, 1) := by decide +kernel
theorem dX7_link_69 : decode cX7_link 69 = .ok (.iload_n 1, 1) := by decide +kernel
theorem dX7_link_70 : decode cX7_link 70 = .ok (.iload_n 2, 1) := by decide +kernel
theorem dX7_link_71 : decode cX7_link 71 = .ok (.iconst 5, 1) := by decide +kernel
theorem dX7_link_72 : decode cX7_link 72 = .ok (.if_icmp .ge 7, 3) := by decide +kernel
theorem dX7_link_75 : decode cX7_link 75 = .ok (.iload_n 2, 1) := by decide +kernel
theorem dX7_link_76 : decode cX7_link 76 = .ok (.goto 6, 3) := by decide +kernel
theorem dX7_link_79 : decode cX7_link 79 = .ok (.iload_n 2, 1) := by decide +kernel
theorem dX7_link_80 : decode cX7_link 80 = .ok (.iconst 1, 1) := by decide +kernel
theorem dX7_link_81 : decode cX7_link 81 = .ok (.isub, 1) := by decide +kernel
theorem dX7_link_82 : decode cX7_link 82 = .ok (.invokevirtual 193, 3) := by decide +kernel
theorem dX7_link_85 : decode cX7_link 85 = .ok (.ireturn, 1) := by decide +kernel
theorem dX7_copiesIn_0 : decode cX7_copiesIn 0 = .ok (.iconst 0, 1) := by decide +kernel
theorem dX7_copiesIn_1 : decode cX7_copiesIn 1 = .ok (.istore_n 3, 1) := by decide +kernel
theorem dX7_copiesIn_2 : decode cX7_copiesIn 2 = .ok (.iconst 0, 1) := by decide +kernel
theorem dX7_copiesIn_3 : decode cX7_copiesIn 3 = .ok (.istore 4, 2) := by decide +kernel
theorem dX7_copiesIn_5 : decode cX7_copiesIn 5 = .ok (.iload 4, 2) := by decide +kernel
theorem dX7_copiesIn_7 : decode cX7_copiesIn 7 = .ok (.aload_n 0, 1) := by decide +kernel
theorem dX7_copiesIn_8 : decode cX7_copiesIn 8 = .ok (.getfield 7, 3) := by decide +kernel
theorem dX7_copiesIn_11 : decode cX7_copiesIn 11 = .ok (.iconst 0, 1) := by decide +kernel
theorem dX7_copiesIn_12 : decode cX7_copiesIn 12 = .ok (.iaload, 1) := by decide +kernel
theorem dX7_copiesIn_13 : decode cX7_copiesIn 13 = .ok (.if_icmp .ge 29, 3) := by decide +kernel
theorem dX7_copiesIn_16 : decode cX7_copiesIn 16 = .ok (.iload_n 3, 1) := by decide +kernel
theorem dX7_copiesIn_17 : decode cX7_copiesIn 17 = .ok (.aload_n 0, 1) := by decide +kernel
theorem dX7_copiesIn_18 : decode cX7_copiesIn 18 = .ok (.iload_n 1, 1) := by decide +kernel
theorem dX7_copiesIn_19 : decode cX7_copiesIn 19 = .ok (.iload 4, 2) := by decide +kernel
theorem dX7_copiesIn_21 : decode cX7_copiesIn 21 = .ok (.iconst 0, 1) := by decide +kernel
theorem dX7_copiesIn_22 : decode cX7_copiesIn 22 = .ok (.invokevirtual 215, 3) := by decide +kernel
theorem dX7_copiesIn_25 : decode cX7_copiesIn 25 = .ok (.iload_n 2, 1) := by decide +kernel
theorem dX7_copiesIn_26 : decode cX7_copiesIn 26 = .ok (.if_icmp .ne 7, 3) := by decide +kernel
theorem dX7_copiesIn_29 : decode cX7_copiesIn 29 = .ok (.iconst 1, 1) := by decide +kernel
theorem dX7_copiesIn_30 : decode cX7_copiesIn 30 = .ok (.goto 4, 3) := by decide +kernel
theorem dX7_copiesIn_33 : decode cX7_copiesIn 33 = .ok (.iconst 0, 1) := by decide +kernel
theorem dX7_copiesIn_34 : decode cX7_copiesIn 34 = .ok (.iadd, 1) := by decide +kernel
theorem dX7_copiesIn_35 : decode cX7_copiesIn 35 = .ok (.istore_n 3, 1) := by decide +kernel
theorem dX7_copiesIn_36 : decode cX7_copiesIn 36 = .ok (.iinc 4 1, 3) := by decide +kernel
theorem dX7_copiesIn_39 : decode cX7_copiesIn 39 = .ok (.goto (-34), 3) := by decide +kernel
theorem dX7_copiesIn_42 : decode cX7_copiesIn 42 = .ok (.iload_n 3, 1) := by decide +kernel
theorem dX7_copiesIn_43 : decode cX7_copiesIn 43 = .ok (.ireturn, 1) := by decide +kernel
theorem dX7_stateOf_0 : decode cX7_stateOf 0 = .ok (.aload_n 0, 1) := by decide +kernel
theorem dX7_stateOf_1 : decode cX7_stateOf 1 = .ok (.iload_n 1, 1) := by decide +kernel
theorem dX7_stateOf_2 : decode cX7_stateOf 2 = .ok (.iconst 5, 1) := by decide +kernel
theorem dX7_stateOf_3 : decode cX7_stateOf 3 = .ok (.invokevirtual 227, 3) := by decide +kernel
theorem dX7_stateOf_6 : decode cX7_stateOf 6 = .ok (.ifCond .le 7, 3) := by decide +kernel
theorem dX7_stateOf_9 : decode cX7_stateOf 9 = .ok (.iconst 1, 1) := by decide +kernel
theorem dX7_stateOf_10 : decode cX7_stateOf 10 = .ok (.goto 17, 3) := by decide +kernel
theorem dX7_stateOf_13 : decode cX7_stateOf 13 = .ok (.aload_n 0, 1) := by decide +kernel
theorem dX7_stateOf_14 : decode cX7_stateOf 14 = .ok (.iload_n 1, 1) := by decide +kernel
theorem dX7_stateOf_15 : decode cX7_stateOf 15 = .ok (.iconst 1, 1) := by decide +kernel
theorem dX7_stateOf_16 : decode cX7_stateOf 16 = .ok (.invokevirtual 227, 3) := by decide +kernel
theorem dX7_stateOf_19 : decode cX7_stateOf 19 = .ok (.ifCond .le 7, 3) := by decide +kernel
theorem dX7_stateOf_22 : decode cX7_stateOf 22 = .ok (.iconst 0, 1) := by decide +kernel
theorem dX7_stateOf_23 : decode cX7_stateOf 23 = .ok (.goto 4, 3) := by decide +kernel
theorem dX7_stateOf_26 : decode cX7_stateOf 26 = .ok (.iconst 2, 1) := by decide +kernel
theorem dX7_stateOf_27 : decode cX7_stateOf 27 = .ok (.ireturn, 1) := by decide +kernel
theorem dX7_messagesIn_0 : decode cX7_messagesIn 0 = .ok (.iconst 0, 1) := by decide +kernel
theorem dX7_messagesIn_1 : decode cX7_messagesIn 1 = .ok (.istore_n 2, 1) := by decide +kernel
theorem dX7_messagesIn_2 : decode cX7_messagesIn 2 = .ok (.iconst 0, 1) := by decide +kernel
theorem dX7_messagesIn_3 : decode cX7_messagesIn 3 = .ok (.istore_n 3, 1) := by decide +kernel
theorem dX7_messagesIn_4 : decode cX7_messagesIn 4 = .ok (.iload_n 3, 1) := by decide +kernel
theorem dX7_messagesIn_5 : decode cX7_messagesIn 5 = .ok (.aload_n 0, 1) := by decide +kernel
theorem dX7_messagesIn_6 : decode cX7_messagesIn 6 = .ok (.getfield 7, 3) := by decide +kernel
theorem dX7_messagesIn_9 : decode cX7_messagesIn 9 = .ok (.iconst 2, 1) := by decide +kernel
theorem dX7_messagesIn_10 : decode cX7_messagesIn 10 = .ok (.iaload, 1) := by decide +kernel
theorem dX7_messagesIn_11 : decode cX7_messagesIn 11 = .ok (.if_icmp .ge 26, 3) := by decide +kernel
theorem dX7_messagesIn_14 : decode cX7_messagesIn 14 = .ok (.iload_n 2, 1) := by decide +kernel
theorem dX7_messagesIn_15 : decode cX7_messagesIn 15 = .ok (.aload_n 0, 1) := by decide +kernel
theorem dX7_messagesIn_16 : decode cX7_messagesIn 16 = .ok (.iload_n 3, 1) := by decide +kernel
theorem dX7_messagesIn_17 : decode cX7_messagesIn 17 = .ok (.invokevirtual 230, 3) := by decide +kernel
theorem dX7_messagesIn_20 : decode cX7_messagesIn 20 = .ok (.iload_n 1, 1) := by decide +kernel
theorem dX7_messagesIn_21 : decode cX7_messagesIn 21 = .ok (.if_icmp .ne 7, 3) := by decide +kernel
theorem dX7_messagesIn_24 : decode cX7_messagesIn 24 = .ok (.iconst 1, 1) := by decide +kernel
theorem dX7_messagesIn_25 : decode cX7_messagesIn 25 = .ok (.goto 4, 3) := by decide +kernel
theorem dX7_messagesIn_28 : decode cX7_messagesIn 28 = .ok (.iconst 0, 1) := by decide +kernel
theorem dX7_messagesIn_29 : decode cX7_messagesIn 29 = .ok (.iadd, 1) := by decide +kernel
theorem dX7_messagesIn_30 : decode cX7_messagesIn 30 = .ok (.istore_n 2, 1) := by decide +kernel
theorem dX7_messagesIn_31 : decode cX7_messagesIn 31 = .ok (.iinc 3 1, 3) := by decide +kernel
theorem dX7_messagesIn_34 : decode cX7_messagesIn 34 = .ok (.goto (-30), 3) := by decide +kernel
theorem dX7_messagesIn_37 : decode cX7_messagesIn 37 = .ok (.iload_n 2, 1) := by decide +kernel
theorem dX7_messagesIn_38 : decode cX7_messagesIn 38 = .ok (.ireturn, 1) := by decide +kernel
theorem dX7_allCopies_0 : decode cX7_allCopies 0 = .ok (.iconst 0, 1) := by decide +kernel
theorem dX7_allCopies_1 : decode cX7_allCopies 1 = .ok (.istore_n 1, 1) := by decide +kernel
theorem dX7_allCopies_2 : decode cX7_allCopies 2 = .ok (.iconst 0, 1) := by decide +kernel
theorem dX7_allCopies_3 : decode cX7_allCopies 3 = .ok (.istore_n 2, 1) := by decide +kernel
theorem dX7_allCopies_4 : decode cX7_allCopies 4 = .ok (.iload_n 2, 1) := by decide +kernel
theorem dX7_allCopies_5 : decode cX7_allCopies 5 = .ok (.aload_n 0, 1) := by decide +kernel
theorem dX7_allCopies_6 : decode cX7_allCopies 6 = .ok (.getfield 7, 3) := by decide +kernel
theorem dX7_allCopies_9 : decode cX7_allCopies 9 = .ok (.iconst 2, 1) := by decide +kernel
theorem dX7_allCopies_10 : decode cX7_allCopies 10 = .ok (.iaload, 1) := by decide +kernel
theorem dX7_allCopies_11 : decode cX7_allCopies 11 = .ok (.if_icmp .ge 18, 3) := by decide +kernel
theorem dX7_allCopies_14 : decode cX7_allCopies 14 = .ok (.iload_n 1, 1) := by decide +kernel
theorem dX7_allCopies_15 : decode cX7_allCopies 15 = .ok (.aload_n 0, 1) := by decide +kernel
theorem dX7_allCopies_16 : decode cX7_allCopies 16 = .ok (.iload_n 2, 1) := by decide +kernel
theorem dX7_allCopies_17 : decode cX7_allCopies 17 = .ok (.iconst 1, 1) := by decide +kernel
theorem dX7_allCopies_18 : decode cX7_allCopies 18 = .ok (.invokevirtual 227, 3) := by decide +kernel
theorem dX7_allCopies_21 : decode cX7_allCopies 21 = .ok (.iadd, 1) := by decide +kernel
theorem dX7_allCopies_22 : decode cX7_allCopies 22 = .ok (.istore_n 1, 1) := by decide +kernel
theorem dX7_allCopies_23 : decode cX7_allCopies 23 = .ok (.iinc 2 1, 3) := by decide +kernel
theorem dX7_allCopies_26 : decode cX7_allCopies 26 = .ok (.goto (-22), 3) := by decide +kernel
theorem dX7_allCopies_29 : decode cX7_allCopies 29 = .ok (.iload_n 1, 1) := by decide +kernel
theorem dX7_allCopies_30 : decode cX7_allCopies 30 = .ok (.ireturn, 1) := by decide +kernel
theorem dX7_sumOfStations_0 : decode cX7_sumOfStations 0 = .ok (.iconst 0, 1) := by decide +kernel
theorem dX7_sumOfStations_1 : decode cX7_sumOfStations 1 = .ok (.istore_n 2, 1) := by decide +kernel
theorem dX7_sumOfStations_2 : decode cX7_sumOfStations 2 = .ok (.iconst 0, 1) := by decide +kernel
theorem dX7_sumOfStations_3 : decode cX7_sumOfStations 3 = .ok (.istore_n 3, 1) := by decide +kernel
theorem dX7_sumOfStations_4 : decode cX7_sumOfStations 4 = .ok (.iload_n 3, 1) := by decide +kernel
theorem dX7_sumOfStations_5 : decode cX7_sumOfStations 5 = .ok (.aload_n 0, 1) := by decide +kernel
theorem dX7_sumOfStations_6 : decode cX7_sumOfStations 6 = .ok (.getfield 7, 3) := by decide +kernel
theorem dX7_sumOfStations_9 : decode cX7_sumOfStations 9 = .ok (.iconst 0, 1) := by decide +kernel
theorem dX7_sumOfStations_10 : decode cX7_sumOfStations 10 = .ok (.iaload, 1) := by decide +kernel
theorem dX7_sumOfStations_11 : decode cX7_sumOfStations 11 = .ok (.if_icmp .ge 18, 3) := by decide +kernel
theorem dX7_sumOfStations_14 : decode cX7_sumOfStations 14 = .ok (.iload_n 2, 1) := by decide +kernel
theorem dX7_sumOfStations_15 : decode cX7_sumOfStations 15 = .ok (.aload_n 0, 1) := by decide +kernel
theorem dX7_sumOfStations_16 : decode cX7_sumOfStations 16 = .ok (.iload_n 3, 1) := by decide +kernel
theorem dX7_sumOfStations_17 : decode cX7_sumOfStations 17 = .ok (.iload_n 1, 1) := by decide +kernel
theorem dX7_sumOfStations_18 : decode cX7_sumOfStations 18 = .ok (.invokevirtual 205, 3) := by decide +kernel
theorem dX7_sumOfStations_21 : decode cX7_sumOfStations 21 = .ok (.iadd, 1) := by decide +kernel
theorem dX7_sumOfStations_22 : decode cX7_sumOfStations 22 = .ok (.istore_n 2, 1) := by decide +kernel
theorem dX7_sumOfStations_23 : decode cX7_sumOfStations 23 = .ok (.iinc 3 1, 3) := by decide +kernel
theorem dX7_sumOfStations_26 : decode cX7_sumOfStations 26 = .ok (.goto (-22), 3) := by decide +kernel
theorem dX7_sumOfStations_29 : decode cX7_sumOfStations 29 = .ok (.iload_n 2, 1) := by decide +kernel
theorem dX7_sumOfStations_30 : decode cX7_sumOfStations 30 = .ok (.ireturn, 1) := by decide +kernel
theorem dX7_count_0 : decode cX7_count 0 = .ok (.aload_n 0, 1) := by decide +kernel
theorem dX7_count_1 : decode cX7_count 1 = .ok (.iconst 0, 1) := by decide +kernel
theorem dX7_count_2 : decode cX7_count 2 = .ok (.putfield 54, 3) := by decide +kernel
theorem dX7_count_5 : decode cX7_count 5 = .ok (.iload_n 1, 1) := by decide +kernel
theorem dX7_count_6 : decode cX7_count 6 = .ok (.tableswitch 76 7 13 #[42, 42, 42, 51, 56, 62, 68], 42) := by decide +kernel
theorem dX7_count_48 : decode cX7_count 48 = .ok (.aload_n 0, 1) := by decide +kernel
theorem dX7_count_49 : decode cX7_count 49 = .ok (.iload_n 1, 1) := by decide +kernel
theorem dX7_count_50 : decode cX7_count 50 = .ok (.bipush 7, 2) := by decide +kernel
theorem dX7_count_52 : decode cX7_count 52 = .ok (.isub, 1) := by decide +kernel
theorem dX7_count_53 : decode cX7_count 53 = .ok (.invokevirtual 233, 3) := by decide +kernel
theorem dX7_count_56 : decode cX7_count 56 = .ok (.ireturn, 1) := by decide +kernel
theorem dX7_count_57 : decode cX7_count 57 = .ok (.aload_n 0, 1) := by decide +kernel
theorem dX7_count_58 : decode cX7_count 58 = .ok (.invokevirtual 236, 3) := by decide +kernel
theorem dX7_count_61 : decode cX7_count 61 = .ok (.ireturn, 1) := by decide +kernel
theorem dX7_count_62 : decode cX7_count 62 = .ok (.aload_n 0, 1) := by decide +kernel
theorem dX7_count_63 : decode cX7_count 63 = .ok (.iconst 3, 1) := by decide +kernel
theorem dX7_count_64 : decode cX7_count 64 = .ok (.invokevirtual 239, 3) := by decide +kernel
theorem dX7_count_67 : decode cX7_count 67 = .ok (.ireturn, 1) := by decide +kernel
theorem dX7_count_68 : decode cX7_count 68 = .ok (.aload_n 0, 1) := by decide +kernel
theorem dX7_count_69 : decode cX7_count 69 = .ok (.iconst 5, 1) := by decide +kernel
theorem dX7_count_70 : decode cX7_count 70 = .ok (.invokevirtual 239, 3) := by decide +kernel
theorem dX7_count_73 : decode cX7_count 73 = .ok (.ireturn, 1) := by decide +kernel
theorem dX7_count_74 : decode cX7_count 74 = .ok (.aload_n 0, 1) := by decide +kernel
theorem dX7_count_75 : decode cX7_count 75 = .ok (.getfield 7, 3) := by decide +kernel
theorem dX7_count_78 : decode cX7_count 78 = .ok (.bipush 7, 2) := by decide +kernel
theorem dX7_count_80 : decode cX7_count 80 = .ok (.iaload, 1) := by decide +kernel
theorem dX7_count_81 : decode cX7_count 81 = .ok (.ireturn, 1) := by decide +kernel
theorem dX7_count_82 : decode cX7_count 82 = .ok (.iload_n 1, 1) := by decide +kernel
theorem dX7_count_83 : decode cX7_count 83 = .ok (.iconst 0, 1) := by decide +kernel
theorem dX7_count_84 : decode cX7_count 84 = .ok (.bipush 6, 2) := by decide +kernel
theorem dX7_count_86 : decode cX7_count 86 = .ok (.invokestatic 57, 3) := by decide +kernel
theorem dX7_count_89 : decode cX7_count 89 = .ok (.ifCond .eq 12, 3) := by decide +kernel
theorem dX7_count_92 : decode cX7_count 92 = .ok (.aload_n 0, 1) := by decide +kernel
theorem dX7_count_93 : decode cX7_count 93 = .ok (.getfield 7, 3) := by decide +kernel
theorem dX7_count_96 : decode cX7_count 96 = .ok (.iload_n 1, 1) := by decide +kernel
theorem dX7_count_97 : decode cX7_count 97 = .ok (.iaload, 1) := by decide +kernel
theorem dX7_count_98 : decode cX7_count 98 = .ok (.goto 8, 3) := by decide +kernel
theorem dX7_count_101 : decode cX7_count 101 = .ok (.aload_n 0, 1) := by decide +kernel
theorem dX7_count_102 : decode cX7_count 102 = .ok (.iconst 1, 1) := by decide +kernel
theorem dX7_count_103 : decode cX7_count 103 = .ok (.invokevirtual 68, 3) := by decide +kernel
theorem dX7_count_106 : decode cX7_count 106 = .ok (.ireturn, 1) := by decide +kernel
theorem dX7_avoid_0 : decode cX7_avoid 0 = .ok (.aload_n 0, 1) := by decide +kernel
theorem dX7_avoid_1 : decode cX7_avoid 1 = .ok (.getfield 39, 3) := by decide +kernel
theorem dX7_avoid_4 : decode cX7_avoid 4 = .ok (.iload_n 1, 1) := by decide +kernel
theorem dX7_avoid_5 : decode cX7_avoid 5 = .ok (.iload_n 2, 1) := by decide +kernel
theorem dX7_avoid_6 : decode cX7_avoid 6 = .ok (.bastore, 1) := by decide +kernel
theorem dX7_avoid_7 : decode cX7_avoid 7 = .ok (.return_, 1) := by decide +kernel
theorem dX7_avoidNone_0 : decode cX7_avoidNone 0 = .ok (.iconst 0, 1) := by decide +kernel
theorem dX7_avoidNone_1 : decode cX7_avoidNone 1 = .ok (.istore_n 1, 1) := by decide +kernel
theorem dX7_avoidNone_2 : decode cX7_avoidNone 2 = .ok (.iload_n 1, 1) := by decide +kernel
theorem dX7_avoidNone_3 : decode cX7_avoidNone 3 = .ok (.bipush 8, 2) := by decide +kernel
theorem dX7_avoidNone_5 : decode cX7_avoidNone 5 = .ok (.if_icmp .ge 16, 3) := by decide +kernel
theorem dX7_avoidNone_8 : decode cX7_avoidNone 8 = .ok (.aload_n 0, 1) := by decide +kernel
theorem dX7_avoidNone_9 : decode cX7_avoidNone 9 = .ok (.getfield 39, 3) := by decide +kernel
theorem dX7_avoidNone_12 : decode cX7_avoidNone 12 = .ok (.iload_n 1, 1) := by decide +kernel
theorem dX7_avoidNone_13 : decode cX7_avoidNone 13 = .ok (.iconst 0, 1) := by decide +kernel
theorem dX7_avoidNone_14 : decode cX7_avoidNone 14 = .ok (.bastore, 1) := by decide +kernel
theorem dX7_avoidNone_15 : decode cX7_avoidNone 15 = .ok (.iinc 1 1, 3) := by decide +kernel
theorem dX7_avoidNone_18 : decode cX7_avoidNone 18 = .ok (.goto (-16), 3) := by decide +kernel
theorem dX7_avoidNone_21 : decode cX7_avoidNone 21 = .ok (.return_, 1) := by decide +kernel
theorem dX7_improve_0 : decode cX7_improve 0 = .ok (.iload_n 2, 1) := by decide +kernel
theorem dX7_improve_1 : decode cX7_improve 1 = .ok (.aload_n 0, 1) := by decide +kernel
theorem dX7_improve_2 : decode cX7_improve 2 = .ok (.getfield 33, 3) := by decide +kernel
theorem dX7_improve_5 : decode cX7_improve 5 = .ok (.iload_n 1, 1) := by decide +kernel
theorem dX7_improve_6 : decode cX7_improve 6 = .ok (.iaload, 1) := by decide +kernel
theorem dX7_improve_7 : decode cX7_improve 7 = .ok (.if_icmp .lt 23, 3) := by decide +kernel
theorem dX7_improve_10 : decode cX7_improve 10 = .ok (.iload_n 2, 1) := by decide +kernel
theorem dX7_improve_11 : decode cX7_improve 11 = .ok (.aload_n 0, 1) := by decide +kernel
theorem dX7_improve_12 : decode cX7_improve 12 = .ok (.getfield 33, 3) := by decide +kernel
theorem dX7_improve_15 : decode cX7_improve 15 = .ok (.iload_n 1, 1) := by decide +kernel
theorem dX7_improve_16 : decode cX7_improve 16 = .ok (.iaload, 1) := by decide +kernel
theorem dX7_improve_17 : decode cX7_improve 17 = .ok (.if_icmp .ne 27, 3) := by decide +kernel
theorem dX7_improve_20 : decode cX7_improve 20 = .ok (.iload_n 3, 1) := by decide +kernel
theorem dX7_improve_21 : decode cX7_improve 21 = .ok (.aload_n 0, 1) := by decide +kernel
theorem dX7_improve_22 : decode cX7_improve 22 = .ok (.getfield 36, 3) := by decide +kernel
theorem dX7_improve_25 : decode cX7_improve 25 = .ok (.iload_n 1, 1) := by decide +kernel
theorem dX7_improve_26 : decode cX7_improve 26 = .ok (.iaload, 1) := by decide +kernel
theorem dX7_improve_27 : decode cX7_improve 27 = .ok (.if_icmp .ge 17, 3) := by decide +kernel
theorem dX7_improve_30 : decode cX7_improve 30 = .ok (.aload_n 0, 1) := by decide +kernel
theorem dX7_improve_31 : decode cX7_improve 31 = .ok (.getfield 33, 3) := by decide +kernel
theorem dX7_improve_34 : decode cX7_improve 34 = .ok (.iload_n 1, 1) := by decide +kernel
theorem dX7_improve_35 : decode cX7_improve 35 = .ok (.iload_n 2, 1) := by decide +kernel
theorem dX7_improve_36 : decode cX7_improve 36 = .ok (.iastore, 1) := by decide +kernel
theorem dX7_improve_37 : decode cX7_improve 37 = .ok (.aload_n 0, 1) := by decide +kernel
theorem dX7_improve_38 : decode cX7_improve 38 = .ok (.getfield 36, 3) := by decide +kernel
theorem dX7_improve_41 : decode cX7_improve 41 = .ok (.iload_n 1, 1) := by decide +kernel
theorem dX7_improve_42 : decode cX7_improve 42 = .ok (.iload_n 3, 1) := by decide +kernel
theorem dX7_improve_43 : decode cX7_improve 43 = .ok (.iastore, 1) := by decide +kernel
theorem dX7_improve_44 : decode cX7_improve 44 = .ok (.return_, 1) := by decide +kernel
theorem dX7_goBy_0 : decode cX7_goBy 0 = .ok (.aload_n 0, 1) := by decide +kernel
theorem dX7_goBy_1 : decode cX7_goBy 1 = .ok (.getfield 39, 3) := by decide +kernel
theorem dX7_goBy_4 : decode cX7_goBy 4 = .ok (.iload_n 3, 1) := by decide +kernel
theorem dX7_goBy_5 : decode cX7_goBy 5 = .ok (.baload, 1) := by decide +kernel
theorem dX7_goBy_6 : decode cX7_goBy 6 = .ok (.ifCond .ne 59, 3) := by decide +kernel
theorem dX7_goBy_9 : decode cX7_goBy 9 = .ok (.aload_n 0, 1) := by decide +kernel
theorem dX7_goBy_10 : decode cX7_goBy 10 = .ok (.getfield 33, 3) := by decide +kernel
theorem dX7_goBy_13 : decode cX7_goBy 13 = .ok (.bipush 8, 2) := by decide +kernel
theorem dX7_goBy_15 : decode cX7_goBy 15 = .ok (.iload_n 1, 1) := by decide +kernel
theorem dX7_goBy_16 : decode cX7_goBy 16 = .ok (.iconst 1, 1) := by decide +kernel
theorem dX7_goBy_17 : decode cX7_goBy 17 = .ok (.iadd, 1) := by decide +kernel
theorem dX7_goBy_18 : decode cX7_goBy 18 = .ok (.imul, 1) := by decide +kernel
theorem dX7_goBy_19 : decode cX7_goBy 19 = .ok (.iload_n 3, 1) := by decide +kernel
theorem dX7_goBy_20 : decode cX7_goBy 20 = .ok (.iadd, 1) := by decide +kernel
theorem dX7_goBy_21 : decode cX7_goBy 21 = .ok (.iaload, 1) := by decide +kernel
theorem dX7_goBy_22 : decode cX7_goBy 22 = .ok (.ldc 242, 2) := by decide +kernel
theorem dX7_goBy_24 : decode cX7_goBy 24 = .ok (.if_icmp .ge 41, 3) := by decide +kernel
theorem dX7_goBy_27 : decode cX7_goBy 27 = .ok (.aload_n 0, 1) := by decide +kernel
theorem dX7_goBy_28 : decode cX7_goBy 28 = .ok (.bipush 8, 2) := by decide +kernel
theorem dX7_goBy_30 : decode cX7_goBy 30 = .ok (.iload_n 1, 1) := by decide +kernel
theorem dX7_goBy_31 : decode cX7_goBy 31 = .ok (.imul, 1) := by decide +kernel
theorem dX7_goBy_32 : decode cX7_goBy 32 = .ok (.iload_n 2, 1) := by decide +kernel
theorem dX7_goBy_33 : decode cX7_goBy 33 = .ok (.iadd, 1) := by decide +kernel
theorem dX7_goBy_34 : decode cX7_goBy 34 = .ok (.aload_n 0, 1) := by decide +kernel
theorem dX7_goBy_35 : decode cX7_goBy 35 = .ok (.getfield 33, 3) := by decide +kernel
theorem dX7_goBy_38 : decode cX7_goBy 38 = .ok (.bipush 8, 2) := by decide +kernel
theorem dX7_goBy_40 : decode cX7_goBy 40 = .ok (.iload_n 1, 1) := by decide +kernel
theorem dX7_goBy_41 : decode cX7_goBy 41 = .ok (.iconst 1, 1) := by decide +kernel
theorem dX7_goBy_42 : decode cX7_goBy 42 = .ok (.iadd, 1) := by decide +kernel
theorem dX7_goBy_43 : decode cX7_goBy 43 = .ok (.imul, 1) := by decide +kernel
theorem dX7_goBy_44 : decode cX7_goBy 44 = .ok (.iload_n 3, 1) := by decide +kernel
theorem dX7_goBy_45 : decode cX7_goBy 45 = .ok (.iadd, 1) := by decide +kernel
theorem dX7_goBy_46 : decode cX7_goBy 46 = .ok (.iaload, 1) := by decide +kernel
theorem dX7_goBy_47 : decode cX7_goBy 47 = .ok (.aload_n 0, 1) := by decide +kernel
theorem dX7_goBy_48 : decode cX7_goBy 48 = .ok (.getfield 36, 3) := by decide +kernel
theorem dX7_goBy_51 : decode cX7_goBy 51 = .ok (.bipush 8, 2) := by decide +kernel
theorem dX7_goBy_53 : decode cX7_goBy 53 = .ok (.iload_n 1, 1) := by decide +kernel
theorem dX7_goBy_54 : decode cX7_goBy 54 = .ok (.iconst 1, 1) := by decide +kernel
theorem dX7_goBy_55 : decode cX7_goBy 55 = .ok (.iadd, 1) := by decide +kernel
theorem dX7_goBy_56 : decode cX7_goBy 56 = .ok (.imul, 1) := by decide +kernel
theorem dX7_goBy_57 : decode cX7_goBy 57 = .ok (.iload_n 3, 1) := by decide +kernel
theorem dX7_goBy_58 : decode cX7_goBy 58 = .ok (.iadd, 1) := by decide +kernel
theorem dX7_goBy_59 : decode cX7_goBy 59 = .ok (.iaload, 1) := by decide +kernel
theorem dX7_goBy_60 : decode cX7_goBy 60 = .ok (.iconst 1, 1) := by decide +kernel
theorem dX7_goBy_61 : decode cX7_goBy 61 = .ok (.iadd, 1) := by decide +kernel
theorem dX7_goBy_62 : decode cX7_goBy 62 = .ok (.invokevirtual 243, 3) := by decide +kernel
theorem dX7_goBy_65 : decode cX7_goBy 65 = .ok (.return_, 1) := by decide +kernel
theorem dX7_layWays_0 : decode cX7_layWays 0 = .ok (.bipush 24, 2) := by decide +kernel
theorem dX7_layWays_2 : decode cX7_layWays 2 = .ok (.istore_n 3, 1) := by decide +kernel
theorem dX7_layWays_3 : decode cX7_layWays 3 = .ok (.iload_n 3, 1) := by decide +kernel
theorem dX7_layWays_4 : decode cX7_layWays 4 = .ok (.ifCond .lt 209, 3) := by decide +kernel
theorem dX7_layWays_7 : decode cX7_layWays 7 = .ok (.iconst 0, 1) := by decide +kernel
theorem dX7_layWays_8 : decode cX7_layWays 8 = .ok (.istore 4, 2) := by decide +kernel
theorem dX7_layWays_10 : decode cX7_layWays 10 = .ok (.iload 4, 2) := by decide +kernel
theorem dX7_layWays_12 : decode cX7_layWays 12 = .ok (.bipush 8, 2) := by decide +kernel
theorem dX7_layWays_14 : decode cX7_layWays 14 = .ok (.if_icmp .ge 91, 3) := by decide +kernel
theorem dX7_layWays_17 : decode cX7_layWays 17 = .ok (.iload_n 3, 1) := by decide +kernel
theorem dX7_layWays_18 : decode cX7_layWays 18 = .ok (.bipush 24, 2) := by decide +kernel
theorem dX7_layWays_20 : decode cX7_layWays 20 = .ok (.if_icmp .ne 7, 3) := by decide +kernel
theorem dX7_layWays_23 : decode cX7_layWays 23 = .ok (.iconst 1, 1) := by decide +kernel
theorem dX7_layWays_24 : decode cX7_layWays 24 = .ok (.goto 4, 3) := by decide +kernel
theorem dX7_layWays_27 : decode cX7_layWays 27 = .ok (.iconst 0, 1) := by decide +kernel
theorem dX7_layWays_28 : decode cX7_layWays 28 = .ok (.istore 5, 2) := by decide +kernel
theorem dX7_layWays_30 : decode cX7_layWays 30 = .ok (.bipush 8, 2) := by decide +kernel
theorem dX7_layWays_32 : decode cX7_layWays 32 = .ok (.iload_n 3, 1) := by decide +kernel
theorem dX7_layWays_33 : decode cX7_layWays 33 = .ok (.iconst 1, 1) := by decide +kernel
theorem dX7_layWays_34 : decode cX7_layWays 34 = .ok (.iadd, 1) := by decide +kernel
theorem dX7_layWays_35 : decode cX7_layWays 35 = .ok (.imul, 1) := by decide +kernel
theorem dX7_layWays_36 : decode cX7_layWays 36 = .ok (.iload 4, 2) := by decide +kernel
theorem dX7_layWays_38 : decode cX7_layWays 38 = .ok (.iadd, 1) := by decide +kernel
theorem dX7_layWays_39 : decode cX7_layWays 39 = .ok (.istore 6, 2) := by decide +kernel
theorem dX7_layWays_41 : decode cX7_layWays 41 = .ok (.aload_n 0, 1) := by decide +kernel
theorem dX7_layWays_42 : decode cX7_layWays 42 = .ok (.getfield 33, 3) := by decide +kernel
theorem dX7_layWays_45 : decode cX7_layWays 45 = .ok (.bipush 8, 2) := by decide +kernel
theorem dX7_layWays_47 : decode cX7_layWays 47 = .ok (.iload_n 3, 1) := by decide +kernel
theorem dX7_layWays_48 : decode cX7_layWays 48 = .ok (.imul, 1) := by decide +kernel
theorem dX7_layWays_49 : decode cX7_layWays 49 = .ok (.iload 4, 2) := by decide +kernel
theorem dX7_layWays_51 : decode cX7_layWays 51 = .ok (.iadd, 1) := by decide +kernel
theorem dX7_layWays_52 : decode cX7_layWays 52 = .ok (.iload 5, 2) := by decide +kernel
theorem dX7_layWays_54 : decode cX7_layWays 54 = .ok (.ifCond .eq 8, 3) := by decide +kernel
theorem dX7_layWays_57 : decode cX7_layWays 57 = .ok (.ldc 242, 2) := by decide +kernel
theorem dX7_layWays_59 : decode cX7_layWays 59 = .ok (.goto 10, 3) := by decide +kernel
theorem dX7_layWays_62 : decode cX7_layWays 62 = .ok (.aload_n 0, 1) := by decide +kernel
theorem dX7_layWays_63 : decode cX7_layWays 63 = .ok (.getfield 33, 3) := by decide +kernel
theorem dX7_layWays_66 : decode cX7_layWays 66 = .ok (.iload 6, 2) := by decide +kernel
theorem dX7_layWays_68 : decode cX7_layWays 68 = .ok (.iaload, 1) := by decide +kernel
theorem dX7_layWays_69 : decode cX7_layWays 69 = .ok (.iastore, 1) := by decide +kernel
theorem dX7_layWays_70 : decode cX7_layWays 70 = .ok (.aload_n 0, 1) := by decide +kernel
theorem dX7_layWays_71 : decode cX7_layWays 71 = .ok (.getfield 36, 3) := by decide +kernel
theorem dX7_layWays_74 : decode cX7_layWays 74 = .ok (.bipush 8, 2) := by decide +kernel
theorem dX7_layWays_76 : decode cX7_layWays 76 = .ok (.iload_n 3, 1) := by decide +kernel
theorem dX7_layWays_77 : decode cX7_layWays 77 = .ok (.imul, 1) := by decide +kernel
theorem dX7_layWays_78 : decode cX7_layWays 78 = .ok (.iload 4, 2) := by decide +kernel
theorem dX7_layWays_80 : decode cX7_layWays 80 = .ok (.iadd, 1) := by decide +kernel
theorem dX7_layWays_81 : decode cX7_layWays 81 = .ok (.iload 5, 2) := by decide +kernel
theorem dX7_layWays_83 : decode cX7_layWays 83 = .ok (.ifCond .eq 8, 3) := by decide +kernel
theorem dX7_layWays_86 : decode cX7_layWays 86 = .ok (.ldc 242, 2) := by decide +kernel
theorem dX7_layWays_88 : decode cX7_layWays 88 = .ok (.goto 10, 3) := by decide +kernel
theorem dX7_layWays_91 : decode cX7_layWays 91 = .ok (.aload_n 0, 1) := by decide +kernel
theorem dX7_layWays_92 : decode cX7_layWays 92 = .ok (.getfield 36, 3) := by decide +kernel
theorem dX7_layWays_95 : decode cX7_layWays 95 = .ok (.iload 6, 2) := by decide +kernel
theorem dX7_layWays_97 : decode cX7_layWays 97 = .ok (.iaload, 1) := by decide +kernel
theorem dX7_layWays_98 : decode cX7_layWays 98 = .ok (.iastore, 1) := by decide +kernel
theorem dX7_layWays_99 : decode cX7_layWays 99 = .ok (.iinc 4 1, 3) := by decide +kernel
theorem dX7_layWays_102 : decode cX7_layWays 102 = .ok (.goto (-92), 3) := by decide +kernel
theorem dX7_layWays_105 : decode cX7_layWays 105 = .ok (.aload_n 0, 1) := by decide +kernel
theorem dX7_layWays_106 : decode cX7_layWays 106 = .ok (.getfield 33, 3) := by decide +kernel
theorem dX7_layWays_109 : decode cX7_layWays 109 = .ok (.bipush 8, 2) := by decide +kernel
theorem dX7_layWays_111 : decode cX7_layWays 111 = .ok (.iload_n 3, 1) := by decide +kernel
theorem dX7_layWays_112 : decode cX7_layWays 112 = .ok (.imul, 1) := by decide +kernel
theorem dX7_layWays_113 : decode cX7_layWays 113 = .ok (.iload_n 1, 1) := by decide +kernel
theorem dX7_layWays_114 : decode cX7_layWays 114 = .ok (.iadd, 1) := by decide +kernel
theorem dX7_layWays_115 : decode cX7_layWays 115 = .ok (.iload_n 2, 1) := by decide +kernel
theorem dX7_layWays_116 : decode cX7_layWays 116 = .ok (.iload_n 3, 1) := by decide +kernel
theorem dX7_layWays_117 : decode cX7_layWays 117 = .ok (.iadd, 1) := by decide +kernel
theorem dX7_layWays_118 : decode cX7_layWays 118 = .ok (.iastore, 1) := by decide +kernel
theorem dX7_layWays_119 : decode cX7_layWays 119 = .ok (.aload_n 0, 1) := by decide +kernel
theorem dX7_layWays_120 : decode cX7_layWays 120 = .ok (.getfield 36, 3) := by decide +kernel
theorem dX7_layWays_123 : decode cX7_layWays 123 = .ok (.bipush 8, 2) := by decide +kernel
theorem dX7_layWays_125 : decode cX7_layWays 125 = .ok (.iload_n 3, 1) := by decide +kernel
theorem dX7_layWays_126 : decode cX7_layWays 126 = .ok (.imul, 1) := by decide +kernel
theorem dX7_layWays_127 : decode cX7_layWays 127 = .ok (.iload_n 1, 1) := by decide +kernel
theorem dX7_layWays_128 : decode cX7_layWays 128 = .ok (.iadd, 1) := by decide +kernel
theorem dX7_layWays_129 : decode cX7_layWays 129 = .ok (.iconst 0, 1) := by decide +kernel
theorem dX7_layWays_130 : decode cX7_layWays 130 = .ok (.iastore, 1) := by decide +kernel
theorem dX7_layWays_131 : decode cX7_layWays 131 = .ok (.iconst 0, 1) := by decide +kernel
theorem dX7_layWays_132 : decode cX7_layWays 132 = .ok (.istore 4, 2) := by decide +kernel
theorem dX7_layWays_134 : decode cX7_layWays 134 = .ok (.iload 4, 2) := by decide +kernel
theorem dX7_layWays_136 : decode cX7_layWays 136 = .ok (.aload_n 0, 1) := by decide +kernel
theorem dX7_layWays_137 : decode cX7_layWays 137 = .ok (.getfield 7, 3) := by decide +kernel
theorem dX7_layWays_140 : decode cX7_layWays 140 = .ok (.iconst 1, 1) := by decide +kernel
theorem dX7_layWays_141 : decode cX7_layWays 141 = .ok (.iaload, 1) := by decide +kernel
theorem dX7_layWays_142 : decode cX7_layWays 142 = .ok (.if_icmp .ge 65, 3) := by decide +kernel
theorem dX7_layWays_145 : decode cX7_layWays 145 = .ok (.iload_n 3, 1) := by decide +kernel
theorem dX7_layWays_146 : decode cX7_layWays 146 = .ok (.bipush 24, 2) := by decide +kernel
theorem dX7_layWays_148 : decode cX7_layWays 148 = .ok (.if_icmp .ge 59, 3) := by decide +kernel
theorem dX7_layWays_151 : decode cX7_layWays 151 = .ok (.aload_n 0, 1) := by decide +kernel
theorem dX7_layWays_152 : decode cX7_layWays 152 = .ok (.iload 4, 2) := by decide +kernel
theorem dX7_layWays_154 : decode cX7_layWays 154 = .ok (.iload_n 2, 1) := by decide +kernel
theorem dX7_layWays_155 : decode cX7_layWays 155 = .ok (.iload_n 3, 1) := by decide +kernel
theorem dX7_layWays_156 : decode cX7_layWays 156 = .ok (.iadd, 1) := by decide +kernel
theorem dX7_layWays_157 : decode cX7_layWays 157 = .ok (.invokevirtual 224, 3) := by decide +kernel
theorem dX7_layWays_160 : decode cX7_layWays 160 = .ok (.ifCond .eq 41, 3) := by decide +kernel
theorem dX7_layWays_163 : decode cX7_layWays 163 = .ok (.aload_n 0, 1) := by decide +kernel
theorem dX7_layWays_164 : decode cX7_layWays 164 = .ok (.iload_n 3, 1) := by decide +kernel
theorem dX7_layWays_165 : decode cX7_layWays 165 = .ok (.aload_n 0, 1) := by decide +kernel
theorem dX7_layWays_166 : decode cX7_layWays 166 = .ok (.iload 4, 2) := by decide +kernel
theorem dX7_layWays_168 : decode cX7_layWays 168 = .ok (.iconst 0, 1) := by decide +kernel
theorem dX7_layWays_169 : decode cX7_layWays 169 = .ok (.invokevirtual 193, 3) := by decide +kernel
theorem dX7_layWays_172 : decode cX7_layWays 172 = .ok (.aload_n 0, 1) := by decide +kernel
theorem dX7_layWays_173 : decode cX7_layWays 173 = .ok (.iload 4, 2) := by decide +kernel
theorem dX7_layWays_175 : decode cX7_layWays 175 = .ok (.iconst 1, 1) := by decide +kernel
theorem dX7_layWays_176 : decode cX7_layWays 176 = .ok (.invokevirtual 193, 3) := by decide +kernel
theorem dX7_layWays_179 : decode cX7_layWays 179 = .ok (.invokevirtual 247, 3) := by decide +kernel
theorem dX7_layWays_182 : decode cX7_layWays 182 = .ok (.aload_n 0, 1) := by decide +kernel
theorem dX7_layWays_183 : decode cX7_layWays 183 = .ok (.iload_n 3, 1) := by decide +kernel
theorem dX7_layWays_184 : decode cX7_layWays 184 = .ok (.aload_n 0, 1) := by decide +kernel
theorem dX7_layWays_185 : decode cX7_layWays 185 = .ok (.iload 4, 2) := by decide +kernel
theorem dX7_layWays_187 : decode cX7_layWays 187 = .ok (.iconst 1, 1) := by decide +kernel
theorem dX7_layWays_188 : decode cX7_layWays 188 = .ok (.invokevirtual 193, 3) := by decide +kernel
theorem dX7_layWays_191 : decode cX7_layWays 191 = .ok (.aload_n 0, 1) := by decide +kernel
theorem dX7_layWays_192 : decode cX7_layWays 192 = .ok (.iload 4, 2) := by decide +kernel
theorem dX7_layWays_194 : decode cX7_layWays 194 = .ok (.iconst 0, 1) := by decide +kernel
theorem dX7_layWays_195 : decode cX7_layWays 195 = .ok (.invokevirtual 193, 3) := by decide +kernel
theorem dX7_layWays_198 : decode cX7_layWays 198 = .ok (.invokevirtual 247, 3) := by decide +kernel
theorem dX7_layWays_201 : decode cX7_layWays 201 = .ok (.iinc 4 1, 3) := by decide +kernel
theorem dX7_layWays_204 : decode cX7_layWays 204 = .ok (.goto (-70), 3) := by decide +kernel
theorem dX7_layWays_207 : decode cX7_layWays 207 = .ok (.iinc 3 (-1), 3) := by decide +kernel
theorem dX7_layWays_210 : decode cX7_layWays 210 = .ok (.goto (-207), 3) := by decide +kernel
theorem dX7_layWays_213 : decode cX7_layWays 213 = .ok (.return_, 1) := by decide +kernel
theorem dX7_firstStep_0 : decode cX7_firstStep 0 = .ok (.aload_n 0, 1) := by decide +kernel
theorem dX7_firstStep_1 : decode cX7_firstStep 1 = .ok (.getfield 33, 3) := by decide +kernel
theorem dX7_firstStep_4 : decode cX7_firstStep 4 = .ok (.iload_n 1, 1) := by decide +kernel
theorem dX7_firstStep_5 : decode cX7_firstStep 5 = .ok (.iaload, 1) := by decide +kernel
theorem dX7_firstStep_6 : decode cX7_firstStep 6 = .ok (.ldc 242, 2) := by decide +kernel
theorem dX7_firstStep_8 : decode cX7_firstStep 8 = .ok (.if_icmp .ne 5, 3) := by decide +kernel
theorem dX7_firstStep_11 : decode cX7_firstStep 11 = .ok (.iconst (-1), 1) := by decide +kernel
theorem dX7_firstStep_12 : decode cX7_firstStep 12 = .ok (.ireturn, 1) := by decide +kernel
theorem dX7_firstStep_13 : decode cX7_firstStep 13 = .ok (.iconst 0, 1) := by decide +kernel
theorem dX7_firstStep_14 : decode cX7_firstStep 14 = .ok (.istore_n 3, 1) := by decide +kernel
theorem dX7_firstStep_15 : decode cX7_firstStep 15 = .ok (.iload_n 3, 1) := by decide +kernel
theorem dX7_firstStep_16 : decode cX7_firstStep 16 = .ok (.aload_n 0, 1) := by decide +kernel
theorem dX7_firstStep_17 : decode cX7_firstStep 17 = .ok (.getfield 7, 3) := by decide +kernel
theorem dX7_firstStep_20 : decode cX7_firstStep 20 = .ok (.iconst 0, 1) := by decide +kernel
theorem dX7_firstStep_21 : decode cX7_firstStep 21 = .ok (.iaload, 1) := by decide +kernel
theorem dX7_firstStep_22 : decode cX7_firstStep 22 = .ok (.if_icmp .ge 103, 3) := by decide +kernel
theorem dX7_firstStep_25 : decode cX7_firstStep 25 = .ok (.iload_n 3, 1) := by decide +kernel
theorem dX7_firstStep_26 : decode cX7_firstStep 26 = .ok (.iload_n 1, 1) := by decide +kernel
theorem dX7_firstStep_27 : decode cX7_firstStep 27 = .ok (.if_icmp .eq 12, 3) := by decide +kernel
theorem dX7_firstStep_30 : decode cX7_firstStep 30 = .ok (.aload_n 0, 1) := by decide +kernel
theorem dX7_firstStep_31 : decode cX7_firstStep 31 = .ok (.getfield 39, 3) := by decide +kernel
theorem dX7_firstStep_34 : decode cX7_firstStep 34 = .ok (.iload_n 3, 1) := by decide +kernel
theorem dX7_firstStep_35 : decode cX7_firstStep 35 = .ok (.baload, 1) := by decide +kernel
theorem dX7_firstStep_36 : decode cX7_firstStep 36 = .ok (.ifCond .eq 7, 3) := by decide +kernel
theorem dX7_firstStep_39 : decode cX7_firstStep 39 = .ok (.iconst (-1), 1) := by decide +kernel
theorem dX7_firstStep_40 : decode cX7_firstStep 40 = .ok (.goto 9, 3) := by decide +kernel
theorem dX7_firstStep_43 : decode cX7_firstStep 43 = .ok (.aload_n 0, 1) := by decide +kernel
theorem dX7_firstStep_44 : decode cX7_firstStep 44 = .ok (.iload_n 1, 1) := by decide +kernel
theorem dX7_firstStep_45 : decode cX7_firstStep 45 = .ok (.iload_n 3, 1) := by decide +kernel
theorem dX7_firstStep_46 : decode cX7_firstStep 46 = .ok (.invokevirtual 148, 3) := by decide +kernel
theorem dX7_firstStep_49 : decode cX7_firstStep 49 = .ok (.istore 4, 2) := by decide +kernel
theorem dX7_firstStep_51 : decode cX7_firstStep 51 = .ok (.iload 4, 2) := by decide +kernel
theorem dX7_firstStep_53 : decode cX7_firstStep 53 = .ok (.iconst (-1), 1) := by decide +kernel
theorem dX7_firstStep_54 : decode cX7_firstStep 54 = .ok (.if_icmp .eq 55, 3) := by decide +kernel
theorem dX7_firstStep_57 : decode cX7_firstStep 57 = .ok (.aload_n 0, 1) := by decide +kernel
theorem dX7_firstStep_58 : decode cX7_firstStep 58 = .ok (.iload 4, 2) := by decide +kernel
theorem dX7_firstStep_60 : decode cX7_firstStep 60 = .ok (.iload_n 2, 1) := by decide +kernel
theorem dX7_firstStep_61 : decode cX7_firstStep 61 = .ok (.invokevirtual 224, 3) := by decide +kernel
theorem dX7_firstStep_64 : decode cX7_firstStep 64 = .ok (.ifCond .eq 45, 3) := by decide +kernel
theorem dX7_firstStep_67 : decode cX7_firstStep 67 = .ok (.aload_n 0, 1) := by decide +kernel
theorem dX7_firstStep_68 : decode cX7_firstStep 68 = .ok (.getfield 33, 3) := by decide +kernel
theorem dX7_firstStep_71 : decode cX7_firstStep 71 = .ok (.bipush 8, 2) := by decide +kernel
theorem dX7_firstStep_73 : decode cX7_firstStep 73 = .ok (.iload_n 3, 1) := by decide +kernel
theorem dX7_firstStep_74 : decode cX7_firstStep 74 = .ok (.iadd, 1) := by decide +kernel
theorem dX7_firstStep_75 : decode cX7_firstStep 75 = .ok (.iaload, 1) := by decide +kernel
theorem dX7_firstStep_76 : decode cX7_firstStep 76 = .ok (.aload_n 0, 1) := by decide +kernel
theorem dX7_firstStep_77 : decode cX7_firstStep 77 = .ok (.getfield 33, 3) := by decide +kernel
theorem dX7_firstStep_80 : decode cX7_firstStep 80 = .ok (.iload_n 1, 1) := by decide +kernel
theorem dX7_firstStep_81 : decode cX7_firstStep 81 = .ok (.iaload, 1) := by decide +kernel
theorem dX7_firstStep_82 : decode cX7_firstStep 82 = .ok (.if_icmp .ne 27, 3) := by decide +kernel
theorem dX7_firstStep_85 : decode cX7_firstStep 85 = .ok (.aload_n 0, 1) := by decide +kernel
theorem dX7_firstStep_86 : decode cX7_firstStep 86 = .ok (.getfield 36, 3) := by decide +kernel
theorem dX7_firstStep_89 : decode cX7_firstStep 89 = .ok (.bipush 8, 2) := by decide +kernel
theorem dX7_firstStep_91 : decode cX7_firstStep 91 = .ok (.iload_n 3, 1) := by decide +kernel
theorem dX7_firstStep_92 : decode cX7_firstStep 92 = .ok (.iadd, 1) := by decide +kernel
theorem dX7_firstStep_93 : decode cX7_firstStep 93 = .ok (.iaload, 1) := by decide +kernel
theorem dX7_firstStep_94 : decode cX7_firstStep 94 = .ok (.iconst 1, 1) := by decide +kernel
theorem dX7_firstStep_95 : decode cX7_firstStep 95 = .ok (.iadd, 1) := by decide +kernel
theorem dX7_firstStep_96 : decode cX7_firstStep 96 = .ok (.aload_n 0, 1) := by decide +kernel
theorem dX7_firstStep_97 : decode cX7_firstStep 97 = .ok (.getfield 36, 3) := by decide +kernel
theorem dX7_firstStep_100 : decode cX7_firstStep 100 = .ok (.iload_n 1, 1) := by decide +kernel
theorem dX7_firstStep_101 : decode cX7_firstStep 101 = .ok (.iaload, 1) := by decide +kernel
theorem dX7_firstStep_102 : decode cX7_firstStep 102 = .ok (.if_icmp .ne 7, 3) := by decide +kernel
theorem dX7_firstStep_105 : decode cX7_firstStep 105 = .ok (.iconst 1, 1) := by decide +kernel
theorem dX7_firstStep_106 : decode cX7_firstStep 106 = .ok (.goto 4, 3) := by decide +kernel
theorem dX7_firstStep_109 : decode cX7_firstStep 109 = .ok (.iconst 0, 1) := by decide +kernel
theorem dX7_firstStep_110 : decode cX7_firstStep 110 = .ok (.istore 5, 2) := by decide +kernel
theorem dX7_firstStep_112 : decode cX7_firstStep 112 = .ok (.iload 5, 2) := by decide +kernel
theorem dX7_firstStep_114 : decode cX7_firstStep 114 = .ok (.ifCond .eq 5, 3) := by decide +kernel
theorem dX7_firstStep_117 : decode cX7_firstStep 117 = .ok (.iload_n 3, 1) := by decide +kernel
theorem dX7_firstStep_118 : decode cX7_firstStep 118 = .ok (.ireturn, 1) := by decide +kernel
theorem dX7_firstStep_119 : decode cX7_firstStep 119 = .ok (.iinc 3 1, 3) := by decide +kernel
theorem dX7_firstStep_122 : decode cX7_firstStep 122 = .ok (.goto (-107), 3) := by decide +kernel
theorem dX7_firstStep_125 : decode cX7_firstStep 125 = .ok (.iconst (-1), 1) := by decide +kernel
theorem dX7_firstStep_126 : decode cX7_firstStep 126 = .ok (.ireturn, 1) := by decide +kernel
theorem dX7_way_0 : decode cX7_way 0 = .ok (.aload_n 0, 1) := by decide +kernel
theorem dX7_way_1 : decode cX7_way 1 = .ok (.iconst 0, 1) := by decide +kernel
theorem dX7_way_2 : decode cX7_way 2 = .ok (.putfield 54, 3) := by decide +kernel
theorem dX7_way_5 : decode cX7_way 5 = .ok (.aload_n 0, 1) := by decide +kernel
theorem dX7_way_6 : decode cX7_way 6 = .ok (.iload_n 1, 1) := by decide +kernel
theorem dX7_way_7 : decode cX7_way 7 = .ok (.invokevirtual 199, 3) := by decide +kernel
theorem dX7_way_10 : decode cX7_way 10 = .ok (.ifCond .eq 11, 3) := by decide +kernel
theorem dX7_way_13 : decode cX7_way 13 = .ok (.aload_n 0, 1) := by decide +kernel
theorem dX7_way_14 : decode cX7_way 14 = .ok (.iload_n 2, 1) := by decide +kernel
theorem dX7_way_15 : decode cX7_way 15 = .ok (.invokevirtual 199, 3) := by decide +kernel
theorem dX7_way_18 : decode cX7_way 18 = .ok (.ifCond .ne 9, 3) := by decide +kernel
theorem dX7_way_21 : decode cX7_way 21 = .ok (.aload_n 0, 1) := by decide +kernel
theorem dX7_way_22 : decode cX7_way 22 = .ok (.iconst 1, 1) := by decide +kernel
theorem dX7_way_23 : decode cX7_way 23 = .ok (.invokevirtual 68, 3) := by decide +kernel
theorem dX7_way_26 : decode cX7_way 26 = .ok (.ireturn, 1) := by decide +kernel
theorem dX7_way_27 : decode cX7_way 27 = .ok (.iload_n 1, 1) := by decide +kernel
theorem dX7_way_28 : decode cX7_way 28 = .ok (.iload_n 2, 1) := by decide +kernel
theorem dX7_way_29 : decode cX7_way 29 = .ok (.if_icmp .eq 23, 3) := by decide +kernel
theorem dX7_way_32 : decode cX7_way 32 = .ok (.iload_n 3, 1) := by decide +kernel
theorem dX7_way_33 : decode cX7_way 33 = .ok (.iconst 0, 1) := by decide +kernel
theorem dX7_way_34 : decode cX7_way 34 = .ok (.ldc 250, 2) := by decide +kernel
theorem dX7_way_36 : decode cX7_way 36 = .ok (.invokestatic 57, 3) := by decide +kernel
theorem dX7_way_39 : decode cX7_way 39 = .ok (.ifCond .eq 13, 3) := by decide +kernel
theorem dX7_way_42 : decode cX7_way 42 = .ok (.iload 4, 2) := by decide +kernel
theorem dX7_way_44 : decode cX7_way 44 = .ok (.iconst 0, 1) := by decide +kernel
theorem dX7_way_45 : decode cX7_way 45 = .ok (.iconst 2, 1) := by decide +kernel
theorem dX7_way_46 : decode cX7_way 46 = .ok (.invokestatic 57, 3) := by decide +kernel
theorem dX7_way_49 : decode cX7_way 49 = .ok (.ifCond .ne 9, 3) := by decide +kernel
theorem dX7_way_52 : decode cX7_way 52 = .ok (.aload_n 0, 1) := by decide +kernel
theorem dX7_way_53 : decode cX7_way 53 = .ok (.iconst 2, 1) := by decide +kernel
theorem dX7_way_54 : decode cX7_way 54 = .ok (.invokevirtual 68, 3) := by decide +kernel
theorem dX7_way_57 : decode cX7_way 57 = .ok (.ireturn, 1) := by decide +kernel
theorem dX7_way_58 : decode cX7_way 58 = .ok (.aload_n 0, 1) := by decide +kernel
theorem dX7_way_59 : decode cX7_way 59 = .ok (.invokevirtual 251, 3) := by decide +kernel
theorem dX7_way_62 : decode cX7_way 62 = .ok (.aload_n 0, 1) := by decide +kernel
theorem dX7_way_63 : decode cX7_way 63 = .ok (.iload_n 2, 1) := by decide +kernel
theorem dX7_way_64 : decode cX7_way 64 = .ok (.iload_n 3, 1) := by decide +kernel
theorem dX7_way_65 : decode cX7_way 65 = .ok (.invokevirtual 254, 3) := by decide +kernel
theorem dX7_way_68 : decode cX7_way 68 = .ok (.aload_n 0, 1) := by decide +kernel
theorem dX7_way_69 : decode cX7_way 69 = .ok (.getfield 33, 3) := by decide +kernel
theorem dX7_way_72 : decode cX7_way 72 = .ok (.iload_n 1, 1) := by decide +kernel
theorem dX7_way_73 : decode cX7_way 73 = .ok (.iaload, 1) := by decide +kernel
theorem dX7_way_74 : decode cX7_way 74 = .ok (.ldc 242, 2) := by decide +kernel
theorem dX7_way_76 : decode cX7_way 76 = .ok (.if_icmp .ne 5, 3) := by decide +kernel
theorem dX7_way_79 : decode cX7_way 79 = .ok (.iconst (-1), 1) := by decide +kernel
theorem dX7_way_80 : decode cX7_way 80 = .ok (.ireturn, 1) := by decide +kernel
theorem dX7_way_81 : decode cX7_way 81 = .ok (.iload 4, 2) := by decide +kernel
theorem dX7_way_83 : decode cX7_way 83 = .ok (.ifCond .ne 12, 3) := by decide +kernel
theorem dX7_way_86 : decode cX7_way 86 = .ok (.aload_n 0, 1) := by decide +kernel
theorem dX7_way_87 : decode cX7_way 87 = .ok (.getfield 33, 3) := by decide +kernel
theorem dX7_way_90 : decode cX7_way 90 = .ok (.iload_n 1, 1) := by decide +kernel
theorem dX7_way_91 : decode cX7_way 91 = .ok (.iaload, 1) := by decide +kernel
theorem dX7_way_92 : decode cX7_way 92 = .ok (.goto 24, 3) := by decide +kernel
theorem dX7_way_95 : decode cX7_way 95 = .ok (.iload 4, 2) := by decide +kernel
theorem dX7_way_97 : decode cX7_way 97 = .ok (.iconst 1, 1) := by decide +kernel
theorem dX7_way_98 : decode cX7_way 98 = .ok (.if_icmp .ne 12, 3) := by decide +kernel
theorem dX7_way_101 : decode cX7_way 101 = .ok (.aload_n 0, 1) := by decide +kernel
theorem dX7_way_102 : decode cX7_way 102 = .ok (.getfield 36, 3) := by decide +kernel
theorem dX7_way_105 : decode cX7_way 105 = .ok (.iload_n 1, 1) := by decide +kernel
theorem dX7_way_106 : decode cX7_way 106 = .ok (.iaload, 1) := by decide +kernel
theorem dX7_way_107 : decode cX7_way 107 = .ok (.goto 9, 3) := by decide +kernel
theorem dX7_way_110 : decode cX7_way 110 = .ok (.aload_n 0, 1) := by decide +kernel
theorem dX7_way_111 : decode cX7_way 111 = .ok (.iload_n 1, 1) := by decide +kernel
theorem dX7_way_112 : decode cX7_way 112 = .ok (.iload_n 3, 1) := by decide +kernel
theorem dX7_way_113 : decode cX7_way 113 = .ok (.invokevirtual 257, 3) := by decide +kernel
theorem dX7_way_116 : decode cX7_way 116 = .ok (.ireturn, 1) := by decide +kernel
theorem dX7_pairsWithout_0 : decode cX7_pairsWithout 0 = .ok (.iconst 0, 1) := by decide +kernel
theorem dX7_pairsWithout_1 : decode cX7_pairsWithout 1 = .ok (.istore_n 2, 1) := by decide +kernel
theorem dX7_pairsWithout_2 : decode cX7_pairsWithout 2 = .ok (.iconst 0, 1) := by decide +kernel
theorem dX7_pairsWithout_3 : decode cX7_pairsWithout 3 = .ok (.istore_n 3, 1) := by decide +kernel
theorem dX7_pairsWithout_4 : decode cX7_pairsWithout 4 = .ok (.iload_n 3, 1) := by decide +kernel
theorem dX7_pairsWithout_5 : decode cX7_pairsWithout 5 = .ok (.aload_n 0, 1) := by decide +kernel
theorem dX7_pairsWithout_6 : decode cX7_pairsWithout 6 = .ok (.getfield 7, 3) := by decide +kernel
theorem dX7_pairsWithout_9 : decode cX7_pairsWithout 9 = .ok (.iconst 0, 1) := by decide +kernel
theorem dX7_pairsWithout_10 : decode cX7_pairsWithout 10 = .ok (.iaload, 1) := by decide +kernel
theorem dX7_pairsWithout_11 : decode cX7_pairsWithout 11 = .ok (.if_icmp .ge 80, 3) := by decide +kernel
theorem dX7_pairsWithout_14 : decode cX7_pairsWithout 14 = .ok (.iload_n 3, 1) := by decide +kernel
theorem dX7_pairsWithout_15 : decode cX7_pairsWithout 15 = .ok (.iload_n 1, 1) := by decide +kernel
theorem dX7_pairsWithout_16 : decode cX7_pairsWithout 16 = .ok (.if_icmp .ne 6, 3) := by decide +kernel
theorem dX7_pairsWithout_19 : decode cX7_pairsWithout 19 = .ok (.goto 66, 3) := by decide +kernel
theorem dX7_pairsWithout_22 : decode cX7_pairsWithout 22 = .ok (.aload_n 0, 1) := by decide +kernel
theorem dX7_pairsWithout_23 : decode cX7_pairsWithout 23 = .ok (.iload_n 3, 1) := by decide +kernel
theorem dX7_pairsWithout_24 : decode cX7_pairsWithout 24 = .ok (.aload_n 0, 1) := by decide +kernel
theorem dX7_pairsWithout_25 : decode cX7_pairsWithout 25 = .ok (.getfield 7, 3) := by decide +kernel
theorem dX7_pairsWithout_28 : decode cX7_pairsWithout 28 = .ok (.iconst 3, 1) := by decide +kernel
theorem dX7_pairsWithout_29 : decode cX7_pairsWithout 29 = .ok (.iaload, 1) := by decide +kernel
theorem dX7_pairsWithout_30 : decode cX7_pairsWithout 30 = .ok (.invokevirtual 254, 3) := by decide +kernel
theorem dX7_pairsWithout_33 : decode cX7_pairsWithout 33 = .ok (.iconst 0, 1) := by decide +kernel
theorem dX7_pairsWithout_34 : decode cX7_pairsWithout 34 = .ok (.istore 4, 2) := by decide +kernel
theorem dX7_pairsWithout_36 : decode cX7_pairsWithout 36 = .ok (.iload 4, 2) := by decide +kernel
theorem dX7_pairsWithout_38 : decode cX7_pairsWithout 38 = .ok (.aload_n 0, 1) := by decide +kernel
theorem dX7_pairsWithout_39 : decode cX7_pairsWithout 39 = .ok (.getfield 7, 3) := by decide +kernel
theorem dX7_pairsWithout_42 : decode cX7_pairsWithout 42 = .ok (.iconst 0, 1) := by decide +kernel
theorem dX7_pairsWithout_43 : decode cX7_pairsWithout 43 = .ok (.iaload, 1) := by decide +kernel
theorem dX7_pairsWithout_44 : decode cX7_pairsWithout 44 = .ok (.if_icmp .ge 41, 3) := by decide +kernel
theorem dX7_pairsWithout_47 : decode cX7_pairsWithout 47 = .ok (.iload_n 2, 1) := by decide +kernel
theorem dX7_pairsWithout_48 : decode cX7_pairsWithout 48 = .ok (.iload 4, 2) := by decide +kernel
theorem dX7_pairsWithout_50 : decode cX7_pairsWithout 50 = .ok (.iload_n 3, 1) := by decide +kernel
theorem dX7_pairsWithout_51 : decode cX7_pairsWithout 51 = .ok (.if_icmp .eq 25, 3) := by decide +kernel
theorem dX7_pairsWithout_54 : decode cX7_pairsWithout 54 = .ok (.iload 4, 2) := by decide +kernel
theorem dX7_pairsWithout_56 : decode cX7_pairsWithout 56 = .ok (.iload_n 1, 1) := by decide +kernel
theorem dX7_pairsWithout_57 : decode cX7_pairsWithout 57 = .ok (.if_icmp .eq 19, 3) := by decide +kernel
theorem dX7_pairsWithout_60 : decode cX7_pairsWithout 60 = .ok (.aload_n 0, 1) := by decide +kernel
theorem dX7_pairsWithout_61 : decode cX7_pairsWithout 61 = .ok (.getfield 33, 3) := by decide +kernel
theorem dX7_pairsWithout_64 : decode cX7_pairsWithout 64 = .ok (.iload 4, 2) := by decide +kernel
theorem dX7_pairsWithout_66 : decode cX7_pairsWithout 66 = .ok (.iaload, 1) := by decide +kernel
theorem dX7_pairsWithout_67 : decode cX7_pairsWithout 67 = .ok (.ldc 242, 2) := by decide +kernel
theorem dX7_pairsWithout_69 : decode cX7_pairsWithout 69 = .ok (.if_icmp .ge 7, 3) := by decide +kernel
theorem dX7_pairsWithout_72 : decode cX7_pairsWithout 72 = .ok (.iconst 1, 1) := by decide +kernel
theorem dX7_pairsWithout_73 : decode cX7_pairsWithout 73 = .ok (.goto 4, 3) := by decide +kernel
theorem dX7_pairsWithout_76 : decode cX7_pairsWithout 76 = .ok (.iconst 0, 1) := by decide +kernel
theorem dX7_pairsWithout_77 : decode cX7_pairsWithout 77 = .ok (.iadd, 1) := by decide +kernel
theorem dX7_pairsWithout_78 : decode cX7_pairsWithout 78 = .ok (.istore_n 2, 1) := by decide +kernel
theorem dX7_pairsWithout_79 : decode cX7_pairsWithout 79 = .ok (.iinc 4 1, 3) := by decide +kernel
theorem dX7_pairsWithout_82 : decode cX7_pairsWithout 82 = .ok (.goto (-46), 3) := by decide +kernel
theorem dX7_pairsWithout_85 : decode cX7_pairsWithout 85 = .ok (.iinc 3 1, 3) := by decide +kernel
theorem dX7_pairsWithout_88 : decode cX7_pairsWithout 88 = .ok (.goto (-84), 3) := by decide +kernel
theorem dX7_pairsWithout_91 : decode cX7_pairsWithout 91 = .ok (.iload_n 2, 1) := by decide +kernel
theorem dX7_pairsWithout_92 : decode cX7_pairsWithout 92 = .ok (.ireturn, 1) := by decide +kernel
theorem dX7_reachable_0 : decode cX7_reachable 0 = .ok (.aload_n 0, 1) := by decide +kernel
theorem dX7_reachable_1 : decode cX7_reachable 1 = .ok (.iconst 0, 1) := by decide +kernel
theorem dX7_reachable_2 : decode cX7_reachable 2 = .ok (.putfield 54, 3) := by decide +kernel
theorem dX7_reachable_5 : decode cX7_reachable 5 = .ok (.aload_n 0, 1) := by decide +kernel
theorem dX7_reachable_6 : decode cX7_reachable 6 = .ok (.invokevirtual 251, 3) := by decide +kernel
theorem dX7_reachable_9 : decode cX7_reachable 9 = .ok (.aload_n 0, 1) := by decide +kernel
theorem dX7_reachable_10 : decode cX7_reachable 10 = .ok (.iconst (-1), 1) := by decide +kernel
theorem dX7_reachable_11 : decode cX7_reachable 11 = .ok (.invokevirtual 260, 3) := by decide +kernel
theorem dX7_reachable_14 : decode cX7_reachable 14 = .ok (.ireturn, 1) := by decide +kernel
theorem dX7_keyStation_0 : decode cX7_keyStation 0 = .ok (.aload_n 0, 1) := by decide +kernel
theorem dX7_keyStation_1 : decode cX7_keyStation 1 = .ok (.iconst 0, 1) := by decide +kernel
theorem dX7_keyStation_2 : decode cX7_keyStation 2 = .ok (.putfield 54, 3) := by decide +kernel
theorem dX7_keyStation_5 : decode cX7_keyStation 5 = .ok (.iconst (-1), 1) := by decide +kernel
theorem dX7_keyStation_6 : decode cX7_keyStation 6 = .ok (.istore_n 1, 1) := by decide +kernel
theorem dX7_keyStation_7 : decode cX7_keyStation 7 = .ok (.ldc 242, 2) := by decide +kernel
theorem dX7_keyStation_9 : decode cX7_keyStation 9 = .ok (.istore_n 2, 1) := by decide +kernel
theorem dX7_keyStation_10 : decode cX7_keyStation 10 = .ok (.iconst 0, 1) := by decide +kernel
theorem dX7_keyStation_11 : decode cX7_keyStation 11 = .ok (.istore_n 3, 1) := by decide +kernel
theorem dX7_keyStation_12 : decode cX7_keyStation 12 = .ok (.iload_n 3, 1) := by decide +kernel
theorem dX7_keyStation_13 : decode cX7_keyStation 13 = .ok (.aload_n 0, 1) := by decide +kernel
theorem dX7_keyStation_14 : decode cX7_keyStation 14 = .ok (.getfield 7, 3) := by decide +kernel
theorem dX7_keyStation_17 : decode cX7_keyStation 17 = .ok (.iconst 0, 1) := by decide +kernel
theorem dX7_keyStation_18 : decode cX7_keyStation 18 = .ok (.iaload, 1) := by decide +kernel
theorem dX7_keyStation_19 : decode cX7_keyStation 19 = .ok (.if_icmp .ge 37, 3) := by decide +kernel
theorem dX7_keyStation_22 : decode cX7_keyStation 22 = .ok (.aload_n 0, 1) := by decide +kernel
theorem dX7_keyStation_23 : decode cX7_keyStation 23 = .ok (.invokevirtual 251, 3) := by decide +kernel
theorem dX7_keyStation_26 : decode cX7_keyStation 26 = .ok (.aload_n 0, 1) := by decide +kernel
theorem dX7_keyStation_27 : decode cX7_keyStation 27 = .ok (.iload_n 3, 1) := by decide +kernel
theorem dX7_keyStation_28 : decode cX7_keyStation 28 = .ok (.iconst 1, 1) := by decide +kernel
theorem dX7_keyStation_29 : decode cX7_keyStation 29 = .ok (.invokevirtual 263, 3) := by decide +kernel
theorem dX7_keyStation_32 : decode cX7_keyStation 32 = .ok (.aload_n 0, 1) := by decide +kernel
theorem dX7_keyStation_33 : decode cX7_keyStation 33 = .ok (.iload_n 3, 1) := by decide +kernel
theorem dX7_keyStation_34 : decode cX7_keyStation 34 = .ok (.invokevirtual 260, 3) := by decide +kernel
theorem dX7_keyStation_37 : decode cX7_keyStation 37 = .ok (.istore 4, 2) := by decide +kernel
theorem dX7_keyStation_39 : decode cX7_keyStation 39 = .ok (.iload 4, 2) := by decide +kernel
theorem dX7_keyStation_41 : decode cX7_keyStation 41 = .ok (.iload_n 2, 1) := by decide +kernel
theorem dX7_keyStation_42 : decode cX7_keyStation 42 = .ok (.if_icmp .ge 8, 3) := by decide +kernel
theorem dX7_keyStation_45 : decode cX7_keyStation 45 = .ok (.iload_n 3, 1) := by decide +kernel
theorem dX7_keyStation_46 : decode cX7_keyStation 46 = .ok (.istore_n 1, 1) := by decide +kernel
theorem dX7_keyStation_47 : decode cX7_keyStation 47 = .ok (.iload 4, 2) := by decide +kernel
theorem dX7_keyStation_49 : decode cX7_keyStation 49 = .ok (.istore_n 2, 1) := by decide +kernel
theorem dX7_keyStation_50 : decode cX7_keyStation 50 = .ok (.iinc 3 1, 3) := by decide +kernel
theorem dX7_keyStation_53 : decode cX7_keyStation 53 = .ok (.goto (-41), 3) := by decide +kernel
theorem dX7_keyStation_56 : decode cX7_keyStation 56 = .ok (.iload_n 1, 1) := by decide +kernel
theorem dX7_keyStation_57 : decode cX7_keyStation 57 = .ok (.ireturn, 1) := by decide +kernel
theorem dX7_nextOf_0 : decode cX7_nextOf 0 = .ok (.aload_n 0, 1) := by decide +kernel
theorem dX7_nextOf_1 : decode cX7_nextOf 1 = .ok (.invokevirtual 251, 3) := by decide +kernel
theorem dX7_nextOf_4 : decode cX7_nextOf 4 = .ok (.iconst 0, 1) := by decide +kernel
theorem dX7_nextOf_5 : decode cX7_nextOf 5 = .ok (.istore_n 3, 1) := by decide +kernel
theorem dX7_nextOf_6 : decode cX7_nextOf 6 = .ok (.iload_n 3, 1) := by decide +kernel
theorem dX7_nextOf_7 : decode cX7_nextOf 7 = .ok (.aload_n 0, 1) := by decide +kernel
theorem dX7_nextOf_8 : decode cX7_nextOf 8 = .ok (.iload_n 1, 1) := by decide +kernel
theorem dX7_nextOf_9 : decode cX7_nextOf 9 = .ok (.iload_n 2, 1) := by decide +kernel
theorem dX7_nextOf_10 : decode cX7_nextOf 10 = .ok (.iconst 3, 1) := by decide +kernel
theorem dX7_nextOf_11 : decode cX7_nextOf 11 = .ok (.invokevirtual 215, 3) := by decide +kernel
theorem dX7_nextOf_14 : decode cX7_nextOf 14 = .ok (.if_icmp .ge 23, 3) := by decide +kernel
theorem dX7_nextOf_17 : decode cX7_nextOf 17 = .ok (.aload_n 0, 1) := by decide +kernel
theorem dX7_nextOf_18 : decode cX7_nextOf 18 = .ok (.aload_n 0, 1) := by decide +kernel
theorem dX7_nextOf_19 : decode cX7_nextOf 19 = .ok (.iload_n 1, 1) := by decide +kernel
theorem dX7_nextOf_20 : decode cX7_nextOf 20 = .ok (.iload_n 2, 1) := by decide +kernel
theorem dX7_nextOf_21 : decode cX7_nextOf 21 = .ok (.iconst 4, 1) := by decide +kernel
theorem dX7_nextOf_22 : decode cX7_nextOf 22 = .ok (.iload_n 3, 1) := by decide +kernel
theorem dX7_nextOf_23 : decode cX7_nextOf 23 = .ok (.iadd, 1) := by decide +kernel
theorem dX7_nextOf_24 : decode cX7_nextOf 24 = .ok (.invokevirtual 215, 3) := by decide +kernel
theorem dX7_nextOf_27 : decode cX7_nextOf 27 = .ok (.iconst 1, 1) := by decide +kernel
theorem dX7_nextOf_28 : decode cX7_nextOf 28 = .ok (.invokevirtual 263, 3) := by decide +kernel
theorem dX7_nextOf_31 : decode cX7_nextOf 31 = .ok (.iinc 3 1, 3) := by decide +kernel
theorem dX7_nextOf_34 : decode cX7_nextOf 34 = .ok (.goto (-28), 3) := by decide +kernel
theorem dX7_nextOf_37 : decode cX7_nextOf 37 = .ok (.aload_n 0, 1) := by decide +kernel
theorem dX7_nextOf_38 : decode cX7_nextOf 38 = .ok (.aload_n 0, 1) := by decide +kernel
theorem dX7_nextOf_39 : decode cX7_nextOf 39 = .ok (.iload_n 1, 1) := by decide +kernel
theorem dX7_nextOf_40 : decode cX7_nextOf 40 = .ok (.iconst 1, 1) := by decide +kernel
theorem dX7_nextOf_41 : decode cX7_nextOf 41 = .ok (.invokevirtual 267, 3) := by decide +kernel
theorem dX7_nextOf_44 : decode cX7_nextOf 44 = .ok (.aload_n 0, 1) := by decide +kernel
theorem dX7_nextOf_45 : decode cX7_nextOf 45 = .ok (.getfield 7, 3) := by decide +kernel
theorem dX7_nextOf_48 : decode cX7_nextOf 48 = .ok (.iconst 3, 1) := by decide +kernel
theorem dX7_nextOf_49 : decode cX7_nextOf 49 = .ok (.iaload, 1) := by decide +kernel
theorem dX7_nextOf_50 : decode cX7_nextOf 50 = .ok (.invokevirtual 254, 3) := by decide +kernel
theorem dX7_nextOf_53 : decode cX7_nextOf 53 = .ok (.aload_n 0, 1) := by decide +kernel
theorem dX7_nextOf_54 : decode cX7_nextOf 54 = .ok (.iload_n 2, 1) := by decide +kernel
theorem dX7_nextOf_55 : decode cX7_nextOf 55 = .ok (.aload_n 0, 1) := by decide +kernel
theorem dX7_nextOf_56 : decode cX7_nextOf 56 = .ok (.getfield 7, 3) := by decide +kernel
theorem dX7_nextOf_59 : decode cX7_nextOf 59 = .ok (.iconst 3, 1) := by decide +kernel
theorem dX7_nextOf_60 : decode cX7_nextOf 60 = .ok (.iaload, 1) := by decide +kernel
theorem dX7_nextOf_61 : decode cX7_nextOf 61 = .ok (.invokevirtual 257, 3) := by decide +kernel
theorem dX7_nextOf_64 : decode cX7_nextOf 64 = .ok (.ireturn, 1) := by decide +kernel
theorem dX7_note_0 : decode cX7_note 0 = .ok (.aload_n 0, 1) := by decide +kernel
theorem dX7_note_1 : decode cX7_note 1 = .ok (.getfield 7, 3) := by decide +kernel
theorem dX7_note_4 : decode cX7_note 4 = .ok (.bipush 7, 2) := by decide +kernel
theorem dX7_note_6 : decode cX7_note 6 = .ok (.iaload, 1) := by decide +kernel
theorem dX7_note_7 : decode cX7_note 7 = .ok (.bipush 40, 2) := by decide +kernel
theorem dX7_note_9 : decode cX7_note 9 = .ok (.if_icmp .ne 55, 3) := by decide +kernel
theorem dX7_note_12 : decode cX7_note 12 = .ok (.iconst 0, 1) := by decide +kernel
theorem dX7_note_13 : decode cX7_note 13 = .ok (.istore 5, 2) := by decide +kernel
theorem dX7_note_15 : decode cX7_note 15 = .ok (.iload 5, 2) := by decide +kernel
theorem dX7_note_17 : decode cX7_note 17 = .ok (.sipush 195, 3) := by decide +kernel
theorem dX7_note_20 : decode cX7_note 20 = .ok (.if_icmp .ge 33, 3) := by decide +kernel
theorem dX7_note_23 : decode cX7_note 23 = .ok (.aload_n 0, 1) := by decide +kernel
theorem dX7_note_24 : decode cX7_note 24 = .ok (.getfield 7, 3) := by decide +kernel
theorem dX7_note_27 : decode cX7_note 27 = .ok (.sipush 2688, 3) := by decide +kernel
theorem dX7_note_30 : decode cX7_note 30 = .ok (.iload 5, 2) := by decide +kernel
theorem dX7_note_32 : decode cX7_note 32 = .ok (.iadd, 1) := by decide +kernel
theorem dX7_note_33 : decode cX7_note 33 = .ok (.aload_n 0, 1) := by decide +kernel
theorem dX7_note_34 : decode cX7_note 34 = .ok (.getfield 7, 3) := by decide +kernel
theorem dX7_note_37 : decode cX7_note 37 = .ok (.sipush 2688, 3) := by decide +kernel
theorem dX7_note_40 : decode cX7_note 40 = .ok (.iload 5, 2) := by decide +kernel
theorem dX7_note_42 : decode cX7_note 42 = .ok (.iadd, 1) := by decide +kernel
theorem dX7_note_43 : decode cX7_note 43 = .ok (.iconst 5, 1) := by decide +kernel
theorem dX7_note_44 : decode cX7_note 44 = .ok (.iadd, 1) := by decide +kernel
theorem dX7_note_45 : decode cX7_note 45 = .ok (.iaload, 1) := by decide +kernel
theorem dX7_note_46 : decode cX7_note 46 = .ok (.iastore, 1) := by decide +kernel
theorem dX7_note_47 : decode cX7_note 47 = .ok (.iinc 5 1, 3) := by decide +kernel
theorem dX7_note_50 : decode cX7_note 50 = .ok (.goto (-35), 3) := by decide +kernel
theorem dX7_note_53 : decode cX7_note 53 = .ok (.aload_n 0, 1) := by decide +kernel
theorem dX7_note_54 : decode cX7_note 54 = .ok (.getfield 7, 3) := by decide +kernel
theorem dX7_note_57 : decode cX7_note 57 = .ok (.bipush 7, 2) := by decide +kernel
theorem dX7_note_59 : decode cX7_note 59 = .ok (.dup2, 1) := by decide +kernel
theorem dX7_note_60 : decode cX7_note 60 = .ok (.iaload, 1) := by decide +kernel
theorem dX7_note_61 : decode cX7_note 61 = .ok (.iconst 1, 1) := by decide +kernel
theorem dX7_note_62 : decode cX7_note 62 = .ok (.isub, 1) := by decide +kernel
theorem dX7_note_63 : decode cX7_note 63 = .ok (.iastore, 1) := by decide +kernel
theorem dX7_note_64 : decode cX7_note 64 = .ok (.sipush 2688, 3) := by decide +kernel
theorem dX7_note_67 : decode cX7_note 67 = .ok (.iconst 5, 1) := by decide +kernel
theorem dX7_note_68 : decode cX7_note 68 = .ok (.aload_n 0, 1) := by decide +kernel
theorem dX7_note_69 : decode cX7_note 69 = .ok (.getfield 7, 3) := by decide +kernel
theorem dX7_note_72 : decode cX7_note 72 = .ok (.bipush 7, 2) := by decide +kernel
theorem dX7_note_74 : decode cX7_note 74 = .ok (.iaload, 1) := by decide +kernel
theorem dX7_note_75 : decode cX7_note 75 = .ok (.imul, 1) := by decide +kernel
theorem dX7_note_76 : decode cX7_note 76 = .ok (.iadd, 1) := by decide +kernel
theorem dX7_note_77 : decode cX7_note 77 = .ok (.istore 5, 2) := by decide +kernel
theorem dX7_note_79 : decode cX7_note 79 = .ok (.aload_n 0, 1) := by decide +kernel
theorem dX7_note_80 : decode cX7_note 80 = .ok (.getfield 7, 3) := by decide +kernel
theorem dX7_note_83 : decode cX7_note 83 = .ok (.iload 5, 2) := by decide +kernel
theorem dX7_note_85 : decode cX7_note 85 = .ok (.aload_n 0, 1) := by decide +kernel
theorem dX7_note_86 : decode cX7_note 86 = .ok (.getfield 7, 3) := by decide +kernel
theorem dX7_note_89 : decode cX7_note 89 = .ok (.iconst 3, 1) := by decide +kernel
theorem dX7_note_90 : decode cX7_note 90 = .ok (.iaload, 1) := by decide +kernel
theorem dX7_note_91 : decode cX7_note 91 = .ok (.iastore, 1) := by decide +kernel
theorem dX7_note_92 : decode cX7_note 92 = .ok (.aload_n 0, 1) := by decide +kernel
theorem dX7_note_93 : decode cX7_note 93 = .ok (.getfield 7, 3) := by decide +kernel
theorem dX7_note_96 : decode cX7_note 96 = .ok (.iload 5, 2) := by decide +kernel
theorem dX7_note_98 : decode cX7_note 98 = .ok (.iconst 1, 1) := by decide +kernel
theorem dX7_note_99 : decode cX7_note 99 = .ok (.iadd, 1) := by decide +kernel
theorem dX7_note_100 : decode cX7_note 100 = .ok (.iload_n 1, 1) := by decide +kernel
theorem dX7_note_101 : decode cX7_note 101 = .ok (.iastore, 1) := by decide +kernel
theorem dX7_note_102 : decode cX7_note 102 = .ok (.aload_n 0, 1) := by decide +kernel
theorem dX7_note_103 : decode cX7_note 103 = .ok (.getfield 7, 3) := by decide +kernel
theorem dX7_note_106 : decode cX7_note 106 = .ok (.iload 5, 2) := by decide +kernel
theorem dX7_note_108 : decode cX7_note 108 = .ok (.iconst 2, 1) := by decide +kernel
theorem dX7_note_109 : decode cX7_note 109 = .ok (.iadd, 1) := by decide +kernel
theorem dX7_note_110 : decode cX7_note 110 = .ok (.iload_n 2, 1) := by decide +kernel
theorem dX7_note_111 : decode cX7_note 111 = .ok (.iastore, 1) := by decide +kernel
theorem dX7_note_112 : decode cX7_note 112 = .ok (.aload_n 0, 1) := by decide +kernel
theorem dX7_note_113 : decode cX7_note 113 = .ok (.getfield 7, 3) := by decide +kernel
theorem dX7_note_116 : decode cX7_note 116 = .ok (.iload 5, 2) := by decide +kernel
theorem dX7_note_118 : decode cX7_note 118 = .ok (.iconst 3, 1) := by decide +kernel
theorem dX7_note_119 : decode cX7_note 119 = .ok (.iadd, 1) := by decide +kernel
theorem dX7_note_120 : decode cX7_note 120 = .ok (.iload_n 3, 1) := by decide +kernel
theorem dX7_note_121 : decode cX7_note 121 = .ok (.iastore, 1) := by decide +kernel
theorem dX7_note_122 : decode cX7_note 122 = .ok (.aload_n 0, 1) := by decide +kernel
theorem dX7_note_123 : decode cX7_note 123 = .ok (.getfield 7, 3) := by decide +kernel
theorem dX7_note_126 : decode cX7_note 126 = .ok (.iload 5, 2) := by decide +kernel
theorem dX7_note_128 : decode cX7_note 128 = .ok (.iconst 4, 1) := by decide +kernel
theorem dX7_note_129 : decode cX7_note 129 = .ok (.iadd, 1) := by decide +kernel
theorem dX7_note_130 : decode cX7_note 130 = .ok (.iload 4, 2) := by decide +kernel
theorem dX7_note_132 : decode cX7_note 132 = .ok (.iastore, 1) := by decide +kernel
theorem dX7_note_133 : decode cX7_note 133 = .ok (.aload_n 0, 1) := by decide +kernel
theorem dX7_note_134 : decode cX7_note 134 = .ok (.getfield 7, 3) := by decide +kernel
theorem dX7_note_137 : decode cX7_note 137 = .ok (.bipush 7, 2) := by decide +kernel
theorem dX7_note_139 : decode cX7_note 139 = .ok (.dup2, 1) := by decide +kernel
theorem dX7_note_140 : decode cX7_note 140 = .ok (.iaload, 1) := by decide +kernel
theorem dX7_note_141 : decode cX7_note 141 = .ok (.iconst 1, 1) := by decide +kernel
theorem dX7_note_142 : decode cX7_note 142 = .ok (.iadd, 1) := by decide +kernel
theorem dX7_note_143 : decode cX7_note 143 = .ok (.iastore, 1) := by decide +kernel
theorem dX7_note_144 : decode cX7_note 144 = .ok (.return_, 1) := by decide +kernel
theorem dX7_event_0 : decode cX7_event 0 = .ok (.aload_n 0, 1) := by decide +kernel
theorem dX7_event_1 : decode cX7_event 1 = .ok (.iconst 0, 1) := by decide +kernel
theorem dX7_event_2 : decode cX7_event 2 = .ok (.putfield 54, 3) := by decide +kernel
theorem dX7_event_5 : decode cX7_event 5 = .ok (.iload_n 1, 1) := by decide +kernel
theorem dX7_event_6 : decode cX7_event 6 = .ok (.iconst 0, 1) := by decide +kernel
theorem dX7_event_7 : decode cX7_event 7 = .ok (.aload_n 0, 1) := by decide +kernel
theorem dX7_event_8 : decode cX7_event 8 = .ok (.getfield 7, 3) := by decide +kernel
theorem dX7_event_11 : decode cX7_event 11 = .ok (.bipush 7, 2) := by decide +kernel
theorem dX7_event_13 : decode cX7_event 13 = .ok (.iaload, 1) := by decide +kernel
theorem dX7_event_14 : decode cX7_event 14 = .ok (.iconst 1, 1) := by decide +kernel
theorem dX7_event_15 : decode cX7_event 15 = .ok (.isub, 1) := by decide +kernel
theorem dX7_event_16 : decode cX7_event 16 = .ok (.invokestatic 57, 3) := by decide +kernel
theorem dX7_event_19 : decode cX7_event 19 = .ok (.ifCond .ne 9, 3) := by decide +kernel
theorem dX7_event_22 : decode cX7_event 22 = .ok (.aload_n 0, 1) := by decide +kernel
theorem dX7_event_23 : decode cX7_event 23 = .ok (.iconst 1, 1) := by decide +kernel
theorem dX7_event_24 : decode cX7_event 24 = .ok (.invokevirtual 68, 3) := by decide +kernel
theorem dX7_event_27 : decode cX7_event 27 = .ok (.ireturn, 1) := by decide +kernel
theorem dX7_event_28 : decode cX7_event 28 = .ok (.iload_n 2, 1) := by decide +kernel
theorem dX7_event_29 : decode cX7_event 29 = .ok (.iconst 0, 1) := by decide +kernel
theorem dX7_event_30 : decode cX7_event 30 = .ok (.iconst 4, 1) := by decide +kernel
theorem dX7_event_31 : decode cX7_event 31 = .ok (.invokestatic 57, 3) := by decide +kernel
theorem dX7_event_34 : decode cX7_event 34 = .ok (.ifCond .eq 20, 3) := by decide +kernel
theorem dX7_event_37 : decode cX7_event 37 = .ok (.aload_n 0, 1) := by decide +kernel
theorem dX7_event_38 : decode cX7_event 38 = .ok (.getfield 7, 3) := by decide +kernel
theorem dX7_event_41 : decode cX7_event 41 = .ok (.sipush 2688, 3) := by decide +kernel
theorem dX7_event_44 : decode cX7_event 44 = .ok (.iconst 5, 1) := by decide +kernel
theorem dX7_event_45 : decode cX7_event 45 = .ok (.iload_n 1, 1) := by decide +kernel
theorem dX7_event_46 : decode cX7_event 46 = .ok (.imul, 1) := by decide +kernel
theorem dX7_event_47 : decode cX7_event 47 = .ok (.iadd, 1) := by decide +kernel
theorem dX7_event_48 : decode cX7_event 48 = .ok (.iload_n 2, 1) := by decide +kernel
theorem dX7_event_49 : decode cX7_event 49 = .ok (.iadd, 1) := by decide +kernel
theorem dX7_event_50 : decode cX7_event 50 = .ok (.iaload, 1) := by decide +kernel
theorem dX7_event_51 : decode cX7_event 51 = .ok (.goto 8, 3) := by decide +kernel
theorem dX7_event_54 : decode cX7_event 54 = .ok (.aload_n 0, 1) := by decide +kernel
theorem dX7_event_55 : decode cX7_event 55 = .ok (.iconst 2, 1) := by decide +kernel
theorem dX7_event_56 : decode cX7_event 56 = .ok (.invokevirtual 68, 3) := by decide +kernel
theorem dX7_event_59 : decode cX7_event 59 = .ok (.ireturn, 1) := by decide +kernel
theorem dX7_put_0 : decode cX7_put 0 = .ok (.aload_n 0, 1) := by decide +kernel
theorem dX7_put_1 : decode cX7_put 1 = .ok (.getfield 42, 3) := by decide +kernel
theorem dX7_put_4 : decode cX7_put 4 = .ok (.aload_n 0, 1) := by decide +kernel
theorem dX7_put_5 : decode cX7_put 5 = .ok (.getfield 270, 3) := by decide +kernel
theorem dX7_put_8 : decode cX7_put 8 = .ok (.iload_n 1, 1) := by decide +kernel
theorem dX7_put_9 : decode cX7_put 9 = .ok (.iastore, 1) := by decide +kernel
theorem dX7_put_10 : decode cX7_put 10 = .ok (.aload_n 0, 1) := by decide +kernel
theorem dX7_put_11 : decode cX7_put 11 = .ok (.dup, 1) := by decide +kernel
theorem dX7_put_12 : decode cX7_put 12 = .ok (.getfield 270, 3) := by decide +kernel
theorem dX7_put_15 : decode cX7_put 15 = .ok (.iconst 1, 1) := by decide +kernel
theorem dX7_put_16 : decode cX7_put 16 = .ok (.iadd, 1) := by decide +kernel
theorem dX7_put_17 : decode cX7_put 17 = .ok (.putfield 270, 3) := by decide +kernel
theorem dX7_put_20 : decode cX7_put 20 = .ok (.return_, 1) := by decide +kernel
theorem dX7_putNumber_0 : decode cX7_putNumber 0 = .ok (.iconst 1, 1) := by decide +kernel
theorem dX7_putNumber_1 : decode cX7_putNumber 1 = .ok (.istore_n 2, 1) := by decide +kernel
theorem dX7_putNumber_2 : decode cX7_putNumber 2 = .ok (.iload_n 1, 1) := by decide +kernel
theorem dX7_putNumber_3 : decode cX7_putNumber 3 = .ok (.iload_n 2, 1) := by decide +kernel
theorem dX7_putNumber_4 : decode cX7_putNumber 4 = .ok (.idiv, 1) := by decide +kernel
theorem dX7_putNumber_5 : decode cX7_putNumber 5 = .ok (.bipush 9, 2) := by decide +kernel
theorem dX7_putNumber_7 : decode cX7_putNumber 7 = .ok (.if_icmp .le 11, 3) := by decide +kernel
theorem dX7_putNumber_10 : decode cX7_putNumber 10 = .ok (.iload_n 2, 1) := by decide +kernel
theorem dX7_putNumber_11 : decode cX7_putNumber 11 = .ok (.bipush 10, 2) := by decide +kernel
theorem dX7_putNumber_13 : decode cX7_putNumber 13 = .ok (.imul, 1) := by decide +kernel
theorem dX7_putNumber_14 : decode cX7_putNumber 14 = .ok (.istore_n 2, 1) := by decide +kernel
theorem dX7_putNumber_15 : decode cX7_putNumber 15 = .ok (.goto (-13), 3) := by decide +kernel
theorem dX7_putNumber_18 : decode cX7_putNumber 18 = .ok (.iload_n 2, 1) := by decide +kernel
theorem dX7_putNumber_19 : decode cX7_putNumber 19 = .ok (.istore_n 3, 1) := by decide +kernel
theorem dX7_putNumber_20 : decode cX7_putNumber 20 = .ok (.iload_n 3, 1) := by decide +kernel
theorem dX7_putNumber_21 : decode cX7_putNumber 21 = .ok (.ifCond .le 24, 3) := by decide +kernel
theorem dX7_putNumber_24 : decode cX7_putNumber 24 = .ok (.aload_n 0, 1) := by decide +kernel
theorem dX7_putNumber_25 : decode cX7_putNumber 25 = .ok (.bipush 48, 2) := by decide +kernel
theorem dX7_putNumber_27 : decode cX7_putNumber 27 = .ok (.iload_n 1, 1) := by decide +kernel
theorem dX7_putNumber_28 : decode cX7_putNumber 28 = .ok (.iload_n 3, 1) := by decide +kernel
theorem dX7_putNumber_29 : decode cX7_putNumber 29 = .ok (.idiv, 1) := by decide +kernel
theorem dX7_putNumber_30 : decode cX7_putNumber 30 = .ok (.bipush 10, 2) := by decide +kernel
theorem dX7_putNumber_32 : decode cX7_putNumber 32 = .ok (.irem, 1) := by decide +kernel
theorem dX7_putNumber_33 : decode cX7_putNumber 33 = .ok (.iadd, 1) := by decide +kernel
theorem dX7_putNumber_34 : decode cX7_putNumber 34 = .ok (.invokevirtual 273, 3) := by decide +kernel
theorem dX7_putNumber_37 : decode cX7_putNumber 37 = .ok (.iload_n 3, 1) := by decide +kernel
theorem dX7_putNumber_38 : decode cX7_putNumber 38 = .ok (.bipush 10, 2) := by decide +kernel
theorem dX7_putNumber_40 : decode cX7_putNumber 40 = .ok (.idiv, 1) := by decide +kernel
theorem dX7_putNumber_41 : decode cX7_putNumber 41 = .ok (.istore_n 3, 1) := by decide +kernel
theorem dX7_putNumber_42 : decode cX7_putNumber 42 = .ok (.goto (-22), 3) := by decide +kernel
theorem dX7_putNumber_45 : decode cX7_putNumber 45 = .ok (.return_, 1) := by decide +kernel
theorem dX7_putWord_0 : decode cX7_putWord 0 = .ok (.iconst 0, 1) := by decide +kernel
theorem dX7_putWord_1 : decode cX7_putWord 1 = .ok (.istore_n 2, 1) := by decide +kernel
theorem dX7_putWord_2 : decode cX7_putWord 2 = .ok (.iload_n 2, 1) := by decide +kernel
theorem dX7_putWord_3 : decode cX7_putWord 3 = .ok (.aload_n 1, 1) := by decide +kernel
theorem dX7_putWord_4 : decode cX7_putWord 4 = .ok (.invokevirtual 106, 3) := by decide +kernel
theorem dX7_putWord_7 : decode cX7_putWord 7 = .ok (.if_icmp .ge 18, 3) := by decide +kernel
theorem dX7_putWord_10 : decode cX7_putWord 10 = .ok (.aload_n 0, 1) := by decide +kernel
theorem dX7_putWord_11 : decode cX7_putWord 11 = .ok (.aload_n 1, 1) := by decide +kernel
theorem dX7_putWord_12 : decode cX7_putWord 12 = .ok (.iload_n 2, 1) := by decide +kernel
theorem dX7_putWord_13 : decode cX7_putWord 13 = .ok (.invokevirtual 112, 3) := by decide +kernel
theorem dX7_putWord_16 : decode cX7_putWord 16 = .ok (.invokevirtual 273, 3) := by decide +kernel
theorem dX7_putWord_19 : decode cX7_putWord 19 = .ok (.iinc 2 1, 3) := by decide +kernel
theorem dX7_putWord_22 : decode cX7_putWord 22 = .ok (.goto (-20), 3) := by decide +kernel
theorem dX7_putWord_25 : decode cX7_putWord 25 = .ok (.return_, 1) := by decide +kernel
theorem dX7_putKind_0 : decode cX7_putKind 0 = .ok (.iload_n 1, 1) := by decide +kernel
theorem dX7_putKind_1 : decode cX7_putKind 1 = .ok (.tableswitch 127 0 7 #[47, 57, 67, 77, 87, 97, 107, 117], 47) := by decide +kernel
theorem dX7_putKind_48 : decode cX7_putKind 48 = .ok (.aload_n 0, 1) := by decide +kernel
theorem dX7_putKind_49 : decode cX7_putKind 49 = .ok (.ldc_w 277, 3) := by decide +kernel
theorem dX7_putKind_52 : decode cX7_putKind 52 = .ok (.invokevirtual 279, 3) := by decide +kernel
theorem dX7_putKind_55 : decode cX7_putKind 55 = .ok (.goto 80, 3) := by decide +kernel
theorem dX7_putKind_58 : decode cX7_putKind 58 = .ok (.aload_n 0, 1) := by decide +kernel
theorem dX7_putKind_59 : decode cX7_putKind 59 = .ok (.ldc_w 283, 3) := by decide +kernel
theorem dX7_putKind_62 : decode cX7_putKind 62 = .ok (.invokevirtual 279, 3) := by decide +kernel
theorem dX7_putKind_65 : decode cX7_putKind 65 = .ok (.goto 70, 3) := by decide +kernel
theorem dX7_putKind_68 : decode cX7_putKind 68 = .ok (.aload_n 0, 1) := by decide +kernel
theorem dX7_putKind_69 : decode cX7_putKind 69 = .ok (.ldc_w 285, 3) := by decide +kernel
theorem dX7_putKind_72 : decode cX7_putKind 72 = .ok (.invokevirtual 279, 3) := by decide +kernel
theorem dX7_putKind_75 : decode cX7_putKind 75 = .ok (.goto 60, 3) := by decide +kernel
theorem dX7_putKind_78 : decode cX7_putKind 78 = .ok (.aload_n 0, 1) := by decide +kernel
theorem dX7_putKind_79 : decode cX7_putKind 79 = .ok (.ldc_w 287, 3) := by decide +kernel
theorem dX7_putKind_82 : decode cX7_putKind 82 = .ok (.invokevirtual 279, 3) := by decide +kernel
theorem dX7_putKind_85 : decode cX7_putKind 85 = .ok (.goto 50, 3) := by decide +kernel
theorem dX7_putKind_88 : decode cX7_putKind 88 = .ok (.aload_n 0, 1) := by decide +kernel
theorem dX7_putKind_89 : decode cX7_putKind 89 = .ok (.ldc_w 289, 3) := by decide +kernel
theorem dX7_putKind_92 : decode cX7_putKind 92 = .ok (.invokevirtual 279, 3) := by decide +kernel
theorem dX7_putKind_95 : decode cX7_putKind 95 = .ok (.goto 40, 3) := by decide +kernel
theorem dX7_putKind_98 : decode cX7_putKind 98 = .ok (.aload_n 0, 1) := by decide +kernel
theorem dX7_putKind_99 : decode cX7_putKind 99 = .ok (.ldc_w 291, 3) := by decide +kernel
theorem dX7_putKind_102 : decode cX7_putKind 102 = .ok (.invokevirtual 279, 3) := by decide +kernel
theorem dX7_putKind_105 : decode cX7_putKind 105 = .ok (.goto 30, 3) := by decide +kernel
theorem dX7_putKind_108 : decode cX7_putKind 108 = .ok (.aload_n 0, 1) := by decide +kernel
theorem dX7_putKind_109 : decode cX7_putKind 109 = .ok (.ldc_w 293, 3) := by decide +kernel
theorem dX7_putKind_112 : decode cX7_putKind 112 = .ok (.invokevirtual 279, 3) := by decide +kernel
theorem dX7_putKind_115 : decode cX7_putKind 115 = .ok (.goto 20, 3) := by decide +kernel
theorem dX7_putKind_118 : decode cX7_putKind 118 = .ok (.aload_n 0, 1) := by decide +kernel
theorem dX7_putKind_119 : decode cX7_putKind 119 = .ok (.ldc_w 295, 3) := by decide +kernel
theorem dX7_putKind_122 : decode cX7_putKind 122 = .ok (.invokevirtual 279, 3) := by decide +kernel
theorem dX7_putKind_125 : decode cX7_putKind 125 = .ok (.goto 10, 3) := by decide +kernel
theorem dX7_putKind_128 : decode cX7_putKind 128 = .ok (.aload_n 0, 1) := by decide +kernel
theorem dX7_putKind_129 : decode cX7_putKind 129 = .ok (.ldc_w 297, 3) := by decide +kernel
theorem dX7_putKind_132 : decode cX7_putKind 132 = .ok (.invokevirtual 279, 3) := by decide +kernel
theorem dX7_putKind_135 : decode cX7_putKind 135 = .ok (.return_, 1) := by decide +kernel
theorem dX7_write_0 : decode cX7_write 0 = .ok (.aload_n 0, 1) := by decide +kernel
theorem dX7_write_1 : decode cX7_write 1 = .ok (.iconst 0, 1) := by decide +kernel
theorem dX7_write_2 : decode cX7_write 2 = .ok (.putfield 54, 3) := by decide +kernel
theorem dX7_write_5 : decode cX7_write 5 = .ok (.iload_n 1, 1) := by decide +kernel
theorem dX7_write_6 : decode cX7_write 6 = .ok (.iconst 0, 1) := by decide +kernel
theorem dX7_write_7 : decode cX7_write 7 = .ok (.aload_n 0, 1) := by decide +kernel
theorem dX7_write_8 : decode cX7_write 8 = .ok (.getfield 7, 3) := by decide +kernel
theorem dX7_write_11 : decode cX7_write 11 = .ok (.bipush 7, 2) := by decide +kernel
theorem dX7_write_13 : decode cX7_write 13 = .ok (.iaload, 1) := by decide +kernel
theorem dX7_write_14 : decode cX7_write 14 = .ok (.iconst 1, 1) := by decide +kernel
theorem dX7_write_15 : decode cX7_write 15 = .ok (.isub, 1) := by decide +kernel
theorem dX7_write_16 : decode cX7_write 16 = .ok (.invokestatic 57, 3) := by decide +kernel
theorem dX7_write_19 : decode cX7_write 19 = .ok (.ifCond .ne 9, 3) := by decide +kernel
theorem dX7_write_22 : decode cX7_write 22 = .ok (.aload_n 0, 1) := by decide +kernel
theorem dX7_write_23 : decode cX7_write 23 = .ok (.iconst 1, 1) := by decide +kernel
theorem dX7_write_24 : decode cX7_write 24 = .ok (.invokevirtual 68, 3) := by decide +kernel
theorem dX7_write_27 : decode cX7_write 27 = .ok (.ireturn, 1) := by decide +kernel
theorem dX7_write_28 : decode cX7_write 28 = .ok (.sipush 2688, 3) := by decide +kernel
theorem dX7_write_31 : decode cX7_write 31 = .ok (.iconst 5, 1) := by decide +kernel
theorem dX7_write_32 : decode cX7_write 32 = .ok (.iload_n 1, 1) := by decide +kernel
theorem dX7_write_33 : decode cX7_write 33 = .ok (.imul, 1) := by decide +kernel
theorem dX7_write_34 : decode cX7_write 34 = .ok (.iadd, 1) := by decide +kernel
theorem dX7_write_35 : decode cX7_write 35 = .ok (.istore_n 2, 1) := by decide +kernel
theorem dX7_write_36 : decode cX7_write 36 = .ok (.aload_n 0, 1) := by decide +kernel
theorem dX7_write_37 : decode cX7_write 37 = .ok (.iconst 0, 1) := by decide +kernel
theorem dX7_write_38 : decode cX7_write 38 = .ok (.putfield 270, 3) := by decide +kernel
theorem dX7_write_41 : decode cX7_write 41 = .ok (.aload_n 0, 1) := by decide +kernel
theorem dX7_write_42 : decode cX7_write 42 = .ok (.aload_n 0, 1) := by decide +kernel
theorem dX7_write_43 : decode cX7_write 43 = .ok (.getfield 7, 3) := by decide +kernel
theorem dX7_write_46 : decode cX7_write 46 = .ok (.iload_n 2, 1) := by decide +kernel
theorem dX7_write_47 : decode cX7_write 47 = .ok (.iaload, 1) := by decide +kernel
theorem dX7_write_48 : decode cX7_write 48 = .ok (.invokevirtual 299, 3) := by decide +kernel
theorem dX7_write_51 : decode cX7_write 51 = .ok (.aload_n 0, 1) := by decide +kernel
theorem dX7_write_52 : decode cX7_write 52 = .ok (.ldc_w 302, 3) := by decide +kernel
theorem dX7_write_55 : decode cX7_write 55 = .ok (.invokevirtual 279, 3) := by decide +kernel
theorem dX7_write_58 : decode cX7_write 58 = .ok (.aload_n 0, 1) := by decide +kernel
theorem dX7_write_59 : decode cX7_write 59 = .ok (.aload_n 0, 1) := by decide +kernel
theorem dX7_write_60 : decode cX7_write 60 = .ok (.getfield 7, 3) := by decide +kernel
theorem dX7_write_63 : decode cX7_write 63 = .ok (.iload_n 2, 1) := by decide +kernel
theorem dX7_write_64 : decode cX7_write 64 = .ok (.iconst 2, 1) := by decide +kernel
theorem dX7_write_65 : decode cX7_write 65 = .ok (.iadd, 1) := by decide +kernel
theorem dX7_write_66 : decode cX7_write 66 = .ok (.iaload, 1) := by decide +kernel
theorem dX7_write_67 : decode cX7_write 67 = .ok (.invokevirtual 299, 3) := by decide +kernel
theorem dX7_write_70 : decode cX7_write 70 = .ok (.aload_n 0, 1) := by decide +kernel
theorem dX7_write_71 : decode cX7_write 71 = .ok (.bipush 32, 2) := by decide +kernel
theorem dX7_write_73 : decode cX7_write 73 = .ok (.invokevirtual 273, 3) := by decide +kernel
theorem dX7_write_76 : decode cX7_write 76 = .ok (.aload_n 0, 1) := by decide +kernel
theorem dX7_write_77 : decode cX7_write 77 = .ok (.aload_n 0, 1) := by decide +kernel
theorem dX7_write_78 : decode cX7_write 78 = .ok (.getfield 7, 3) := by decide +kernel
theorem dX7_write_81 : decode cX7_write 81 = .ok (.iload_n 2, 1) := by decide +kernel
theorem dX7_write_82 : decode cX7_write 82 = .ok (.iconst 3, 1) := by decide +kernel
theorem dX7_write_83 : decode cX7_write 83 = .ok (.iadd, 1) := by decide +kernel
theorem dX7_write_84 : decode cX7_write 84 = .ok (.iaload, 1) := by decide +kernel
theorem dX7_write_85 : decode cX7_write 85 = .ok (.invokevirtual 299, 3) := by decide +kernel
theorem dX7_write_88 : decode cX7_write 88 = .ok (.aload_n 0, 1) := by decide +kernel
theorem dX7_write_89 : decode cX7_write 89 = .ok (.getfield 7, 3) := by decide +kernel
theorem dX7_write_92 : decode cX7_write 92 = .ok (.iload_n 2, 1) := by decide +kernel
theorem dX7_write_93 : decode cX7_write 93 = .ok (.iconst 4, 1) := by decide +kernel
theorem dX7_write_94 : decode cX7_write 94 = .ok (.iadd, 1) := by decide +kernel
theorem dX7_write_95 : decode cX7_write 95 = .ok (.iaload, 1) := by decide +kernel
theorem dX7_write_96 : decode cX7_write 96 = .ok (.iconst (-1), 1) := by decide +kernel
theorem dX7_write_97 : decode cX7_write 97 = .ok (.if_icmp .eq 21, 3) := by decide +kernel
theorem dX7_write_100 : decode cX7_write 100 = .ok (.aload_n 0, 1) := by decide +kernel
theorem dX7_write_101 : decode cX7_write 101 = .ok (.bipush 62, 2) := by decide +kernel
theorem dX7_write_103 : decode cX7_write 103 = .ok (.invokevirtual 273, 3) := by decide +kernel
theorem dX7_write_106 : decode cX7_write 106 = .ok (.aload_n 0, 1) := by decide +kernel
theorem dX7_write_107 : decode cX7_write 107 = .ok (.aload_n 0, 1) := by decide +kernel
theorem dX7_write_108 : decode cX7_write 108 = .ok (.getfield 7, 3) := by decide +kernel
theorem dX7_write_111 : decode cX7_write 111 = .ok (.iload_n 2, 1) := by decide +kernel
theorem dX7_write_112 : decode cX7_write 112 = .ok (.iconst 4, 1) := by decide +kernel
theorem dX7_write_113 : decode cX7_write 113 = .ok (.iadd, 1) := by decide +kernel
theorem dX7_write_114 : decode cX7_write 114 = .ok (.iaload, 1) := by decide +kernel
theorem dX7_write_115 : decode cX7_write 115 = .ok (.invokevirtual 299, 3) := by decide +kernel
theorem dX7_write_118 : decode cX7_write 118 = .ok (.aload_n 0, 1) := by decide +kernel
theorem dX7_write_119 : decode cX7_write 119 = .ok (.bipush 32, 2) := by decide +kernel
theorem dX7_write_121 : decode cX7_write 121 = .ok (.invokevirtual 273, 3) := by decide +kernel
theorem dX7_write_124 : decode cX7_write 124 = .ok (.aload_n 0, 1) := by decide +kernel
theorem dX7_write_125 : decode cX7_write 125 = .ok (.aload_n 0, 1) := by decide +kernel
theorem dX7_write_126 : decode cX7_write 126 = .ok (.getfield 7, 3) := by decide +kernel
theorem dX7_write_129 : decode cX7_write 129 = .ok (.iload_n 2, 1) := by decide +kernel
theorem dX7_write_130 : decode cX7_write 130 = .ok (.iconst 1, 1) := by decide +kernel
theorem dX7_write_131 : decode cX7_write 131 = .ok (.iadd, 1) := by decide +kernel
theorem dX7_write_132 : decode cX7_write 132 = .ok (.iaload, 1) := by decide +kernel
theorem dX7_write_133 : decode cX7_write 133 = .ok (.invokevirtual 304, 3) := by decide +kernel
theorem dX7_write_136 : decode cX7_write 136 = .ok (.aload_n 0, 1) := by decide +kernel
theorem dX7_write_137 : decode cX7_write 137 = .ok (.getfield 270, 3) := by decide +kernel
theorem dX7_write_140 : decode cX7_write 140 = .ok (.ireturn, 1) := by decide +kernel
theorem dX7_output_0 : decode cX7_output 0 = .ok (.aload_n 0, 1) := by decide +kernel
theorem dX7_output_1 : decode cX7_output 1 = .ok (.iconst 0, 1) := by decide +kernel
theorem dX7_output_2 : decode cX7_output 2 = .ok (.putfield 54, 3) := by decide +kernel
theorem dX7_output_5 : decode cX7_output 5 = .ok (.iload_n 1, 1) := by decide +kernel
theorem dX7_output_6 : decode cX7_output 6 = .ok (.iconst 0, 1) := by decide +kernel
theorem dX7_output_7 : decode cX7_output 7 = .ok (.aload_n 0, 1) := by decide +kernel
theorem dX7_output_8 : decode cX7_output 8 = .ok (.getfield 270, 3) := by decide +kernel
theorem dX7_output_11 : decode cX7_output 11 = .ok (.iconst 1, 1) := by decide +kernel
theorem dX7_output_12 : decode cX7_output 12 = .ok (.isub, 1) := by decide +kernel
theorem dX7_output_13 : decode cX7_output 13 = .ok (.invokestatic 57, 3) := by decide +kernel
theorem dX7_output_16 : decode cX7_output 16 = .ok (.ifCond .eq 12, 3) := by decide +kernel
theorem dX7_output_19 : decode cX7_output 19 = .ok (.aload_n 0, 1) := by decide +kernel
theorem dX7_output_20 : decode cX7_output 20 = .ok (.getfield 42, 3) := by decide +kernel
theorem dX7_output_23 : decode cX7_output 23 = .ok (.iload_n 1, 1) := by decide +kernel
theorem dX7_output_24 : decode cX7_output 24 = .ok (.iaload, 1) := by decide +kernel
theorem dX7_output_25 : decode cX7_output 25 = .ok (.goto 4, 3) := by decide +kernel
theorem dX7_output_28 : decode cX7_output 28 = .ok (.iconst (-1), 1) := by decide +kernel
theorem dX7_output_29 : decode cX7_output 29 = .ok (.ireturn, 1) := by decide +kernel
theorem dX7_putCopy_0 : decode cX7_putCopy 0 = .ok (.iload_n 1, 1) := by decide +kernel
theorem dX7_putCopy_1 : decode cX7_putCopy 1 = .ok (.iload_n 2, 1) := by decide +kernel
theorem dX7_putCopy_2 : decode cX7_putCopy 2 = .ok (.invokestatic 61, 3) := by decide +kernel
theorem dX7_putCopy_5 : decode cX7_putCopy 5 = .ok (.istore 5, 2) := by decide +kernel
theorem dX7_putCopy_7 : decode cX7_putCopy 7 = .ok (.aload_n 0, 1) := by decide +kernel
theorem dX7_putCopy_8 : decode cX7_putCopy 8 = .ok (.getfield 7, 3) := by decide +kernel
theorem dX7_putCopy_11 : decode cX7_putCopy 11 = .ok (.iload 5, 2) := by decide +kernel
theorem dX7_putCopy_13 : decode cX7_putCopy 13 = .ok (.iconst 0, 1) := by decide +kernel
theorem dX7_putCopy_14 : decode cX7_putCopy 14 = .ok (.iadd, 1) := by decide +kernel
theorem dX7_putCopy_15 : decode cX7_putCopy 15 = .ok (.iload_n 3, 1) := by decide +kernel
theorem dX7_putCopy_16 : decode cX7_putCopy 16 = .ok (.iastore, 1) := by decide +kernel
theorem dX7_putCopy_17 : decode cX7_putCopy 17 = .ok (.aload_n 0, 1) := by decide +kernel
theorem dX7_putCopy_18 : decode cX7_putCopy 18 = .ok (.getfield 7, 3) := by decide +kernel
theorem dX7_putCopy_21 : decode cX7_putCopy 21 = .ok (.iload 5, 2) := by decide +kernel
theorem dX7_putCopy_23 : decode cX7_putCopy 23 = .ok (.iconst 1, 1) := by decide +kernel
theorem dX7_putCopy_24 : decode cX7_putCopy 24 = .ok (.iadd, 1) := by decide +kernel
theorem dX7_putCopy_25 : decode cX7_putCopy 25 = .ok (.iconst 0, 1) := by decide +kernel
theorem dX7_putCopy_26 : decode cX7_putCopy 26 = .ok (.iastore, 1) := by decide +kernel
theorem dX7_putCopy_27 : decode cX7_putCopy 27 = .ok (.aload_n 0, 1) := by decide +kernel
theorem dX7_putCopy_28 : decode cX7_putCopy 28 = .ok (.getfield 7, 3) := by decide +kernel
theorem dX7_putCopy_31 : decode cX7_putCopy 31 = .ok (.iload 5, 2) := by decide +kernel
theorem dX7_putCopy_33 : decode cX7_putCopy 33 = .ok (.iconst 2, 1) := by decide +kernel
theorem dX7_putCopy_34 : decode cX7_putCopy 34 = .ok (.iadd, 1) := by decide +kernel
theorem dX7_putCopy_35 : decode cX7_putCopy 35 = .ok (.iload 4, 2) := by decide +kernel
theorem dX7_putCopy_37 : decode cX7_putCopy 37 = .ok (.iastore, 1) := by decide +kernel
theorem dX7_putCopy_38 : decode cX7_putCopy 38 = .ok (.aload_n 0, 1) := by decide +kernel
theorem dX7_putCopy_39 : decode cX7_putCopy 39 = .ok (.getfield 7, 3) := by decide +kernel
theorem dX7_putCopy_42 : decode cX7_putCopy 42 = .ok (.iload 5, 2) := by decide +kernel
theorem dX7_putCopy_44 : decode cX7_putCopy 44 = .ok (.iconst 3, 1) := by decide +kernel
theorem dX7_putCopy_45 : decode cX7_putCopy 45 = .ok (.iadd, 1) := by decide +kernel
theorem dX7_putCopy_46 : decode cX7_putCopy 46 = .ok (.iconst 0, 1) := by decide +kernel
theorem dX7_putCopy_47 : decode cX7_putCopy 47 = .ok (.iastore, 1) := by decide +kernel
theorem dX7_putCopy_48 : decode cX7_putCopy 48 = .ok (.return_, 1) := by decide +kernel
theorem dX7_extendPath_0 : decode cX7_extendPath 0 = .ok (.iload_n 1, 1) := by decide +kernel
theorem dX7_extendPath_1 : decode cX7_extendPath 1 = .ok (.iload_n 2, 1) := by decide +kernel
theorem dX7_extendPath_2 : decode cX7_extendPath 2 = .ok (.invokestatic 61, 3) := by decide +kernel
theorem dX7_extendPath_5 : decode cX7_extendPath 5 = .ok (.istore 4, 2) := by decide +kernel
theorem dX7_extendPath_7 : decode cX7_extendPath 7 = .ok (.aload_n 0, 1) := by decide +kernel
theorem dX7_extendPath_8 : decode cX7_extendPath 8 = .ok (.getfield 7, 3) := by decide +kernel
theorem dX7_extendPath_11 : decode cX7_extendPath 11 = .ok (.iload 4, 2) := by decide +kernel
theorem dX7_extendPath_13 : decode cX7_extendPath 13 = .ok (.iconst 4, 1) := by decide +kernel
theorem dX7_extendPath_14 : decode cX7_extendPath 14 = .ok (.iadd, 1) := by decide +kernel
theorem dX7_extendPath_15 : decode cX7_extendPath 15 = .ok (.aload_n 0, 1) := by decide +kernel
theorem dX7_extendPath_16 : decode cX7_extendPath 16 = .ok (.getfield 7, 3) := by decide +kernel
theorem dX7_extendPath_19 : decode cX7_extendPath 19 = .ok (.iload 4, 2) := by decide +kernel
theorem dX7_extendPath_21 : decode cX7_extendPath 21 = .ok (.iconst 3, 1) := by decide +kernel
theorem dX7_extendPath_22 : decode cX7_extendPath 22 = .ok (.iadd, 1) := by decide +kernel
theorem dX7_extendPath_23 : decode cX7_extendPath 23 = .ok (.iaload, 1) := by decide +kernel
theorem dX7_extendPath_24 : decode cX7_extendPath 24 = .ok (.iadd, 1) := by decide +kernel
theorem dX7_extendPath_25 : decode cX7_extendPath 25 = .ok (.iload_n 3, 1) := by decide +kernel
theorem dX7_extendPath_26 : decode cX7_extendPath 26 = .ok (.iastore, 1) := by decide +kernel
theorem dX7_extendPath_27 : decode cX7_extendPath 27 = .ok (.aload_n 0, 1) := by decide +kernel
theorem dX7_extendPath_28 : decode cX7_extendPath 28 = .ok (.getfield 7, 3) := by decide +kernel
theorem dX7_extendPath_31 : decode cX7_extendPath 31 = .ok (.iload 4, 2) := by decide +kernel
theorem dX7_extendPath_33 : decode cX7_extendPath 33 = .ok (.iconst 3, 1) := by decide +kernel
theorem dX7_extendPath_34 : decode cX7_extendPath 34 = .ok (.iadd, 1) := by decide +kernel
theorem dX7_extendPath_35 : decode cX7_extendPath 35 = .ok (.dup2, 1) := by decide +kernel
theorem dX7_extendPath_36 : decode cX7_extendPath 36 = .ok (.iaload, 1) := by decide +kernel
theorem dX7_extendPath_37 : decode cX7_extendPath 37 = .ok (.iconst 1, 1) := by decide +kernel
theorem dX7_extendPath_38 : decode cX7_extendPath 38 = .ok (.iadd, 1) := by decide +kernel
theorem dX7_extendPath_39 : decode cX7_extendPath 39 = .ok (.iastore, 1) := by decide +kernel
theorem dX7_extendPath_40 : decode cX7_extendPath 40 = .ok (.return_, 1) := by decide +kernel
theorem dX7_appendMessage_0 : decode cX7_appendMessage 0 = .ok (.aload_n 0, 1) := by decide +kernel
theorem dX7_appendMessage_1 : decode cX7_appendMessage 1 = .ok (.getfield 7, 3) := by decide +kernel
theorem dX7_appendMessage_4 : decode cX7_appendMessage 4 = .ok (.iconst 2, 1) := by decide +kernel
theorem dX7_appendMessage_5 : decode cX7_appendMessage 5 = .ok (.iaload, 1) := by decide +kernel
theorem dX7_appendMessage_6 : decode cX7_appendMessage 6 = .ok (.istore 4, 2) := by decide +kernel
theorem dX7_appendMessage_8 : decode cX7_appendMessage 8 = .ok (.sipush 192, 3) := by decide +kernel
theorem dX7_appendMessage_11 : decode cX7_appendMessage 11 = .ok (.bipush 8, 2) := by decide +kernel
theorem dX7_appendMessage_13 : decode cX7_appendMessage 13 = .ok (.iload 4, 2) := by decide +kernel
theorem dX7_appendMessage_15 : decode cX7_appendMessage 15 = .ok (.imul, 1) := by decide +kernel
theorem dX7_appendMessage_16 : decode cX7_appendMessage 16 = .ok (.iadd, 1) := by decide +kernel
theorem dX7_appendMessage_17 : decode cX7_appendMessage 17 = .ok (.istore 5, 2) := by decide +kernel
theorem dX7_appendMessage_19 : decode cX7_appendMessage 19 = .ok (.aload_n 0, 1) := by decide +kernel
theorem dX7_appendMessage_20 : decode cX7_appendMessage 20 = .ok (.getfield 7, 3) := by decide +kernel
theorem dX7_appendMessage_23 : decode cX7_appendMessage 23 = .ok (.iload 5, 2) := by decide +kernel
theorem dX7_appendMessage_25 : decode cX7_appendMessage 25 = .ok (.iconst 0, 1) := by decide +kernel
theorem dX7_appendMessage_26 : decode cX7_appendMessage 26 = .ok (.iadd, 1) := by decide +kernel
theorem dX7_appendMessage_27 : decode cX7_appendMessage 27 = .ok (.iload_n 1, 1) := by decide +kernel
theorem dX7_appendMessage_28 : decode cX7_appendMessage 28 = .ok (.iastore, 1) := by decide +kernel
theorem dX7_appendMessage_29 : decode cX7_appendMessage 29 = .ok (.aload_n 0, 1) := by decide +kernel
theorem dX7_appendMessage_30 : decode cX7_appendMessage 30 = .ok (.getfield 7, 3) := by decide +kernel
theorem dX7_appendMessage_33 : decode cX7_appendMessage 33 = .ok (.iload 5, 2) := by decide +kernel
theorem dX7_appendMessage_35 : decode cX7_appendMessage 35 = .ok (.iconst 1, 1) := by decide +kernel
theorem dX7_appendMessage_36 : decode cX7_appendMessage 36 = .ok (.iadd, 1) := by decide +kernel
theorem dX7_appendMessage_37 : decode cX7_appendMessage 37 = .ok (.iload_n 2, 1) := by decide +kernel
theorem dX7_appendMessage_38 : decode cX7_appendMessage 38 = .ok (.iastore, 1) := by decide +kernel
theorem dX7_appendMessage_39 : decode cX7_appendMessage 39 = .ok (.aload_n 0, 1) := by decide +kernel
theorem dX7_appendMessage_40 : decode cX7_appendMessage 40 = .ok (.getfield 7, 3) := by decide +kernel
theorem dX7_appendMessage_43 : decode cX7_appendMessage 43 = .ok (.iload 5, 2) := by decide +kernel
theorem dX7_appendMessage_45 : decode cX7_appendMessage 45 = .ok (.iconst 2, 1) := by decide +kernel
theorem dX7_appendMessage_46 : decode cX7_appendMessage 46 = .ok (.iadd, 1) := by decide +kernel
theorem dX7_appendMessage_47 : decode cX7_appendMessage 47 = .ok (.iload_n 3, 1) := by decide +kernel
theorem dX7_appendMessage_48 : decode cX7_appendMessage 48 = .ok (.iastore, 1) := by decide +kernel
theorem dX7_appendMessage_49 : decode cX7_appendMessage 49 = .ok (.aload_n 0, 1) := by decide +kernel
theorem dX7_appendMessage_50 : decode cX7_appendMessage 50 = .ok (.getfield 7, 3) := by decide +kernel
theorem dX7_appendMessage_53 : decode cX7_appendMessage 53 = .ok (.iload 5, 2) := by decide +kernel
theorem dX7_appendMessage_55 : decode cX7_appendMessage 55 = .ok (.iconst 3, 1) := by decide +kernel
theorem dX7_appendMessage_56 : decode cX7_appendMessage 56 = .ok (.iadd, 1) := by decide +kernel
theorem dX7_appendMessage_57 : decode cX7_appendMessage 57 = .ok (.aload_n 0, 1) := by decide +kernel
theorem dX7_appendMessage_58 : decode cX7_appendMessage 58 = .ok (.getfield 7, 3) := by decide +kernel
theorem dX7_appendMessage_61 : decode cX7_appendMessage 61 = .ok (.iconst 3, 1) := by decide +kernel
theorem dX7_appendMessage_62 : decode cX7_appendMessage 62 = .ok (.iaload, 1) := by decide +kernel
theorem dX7_appendMessage_63 : decode cX7_appendMessage 63 = .ok (.iastore, 1) := by decide +kernel
theorem dX7_appendMessage_64 : decode cX7_appendMessage 64 = .ok (.aload_n 0, 1) := by decide +kernel
theorem dX7_appendMessage_65 : decode cX7_appendMessage 65 = .ok (.getfield 7, 3) := by decide +kernel
theorem dX7_appendMessage_68 : decode cX7_appendMessage 68 = .ok (.iload 5, 2) := by decide +kernel
theorem dX7_appendMessage_70 : decode cX7_appendMessage 70 = .ok (.bipush 6, 2) := by decide +kernel
theorem dX7_appendMessage_72 : decode cX7_appendMessage 72 = .ok (.iadd, 1) := by decide +kernel
theorem dX7_appendMessage_73 : decode cX7_appendMessage 73 = .ok (.iconst (-1), 1) := by decide +kernel
theorem dX7_appendMessage_74 : decode cX7_appendMessage 74 = .ok (.iastore, 1) := by decide +kernel
theorem dX7_appendMessage_75 : decode cX7_appendMessage 75 = .ok (.aload_n 0, 1) := by decide +kernel
theorem dX7_appendMessage_76 : decode cX7_appendMessage 76 = .ok (.getfield 7, 3) := by decide +kernel
theorem dX7_appendMessage_79 : decode cX7_appendMessage 79 = .ok (.iload 5, 2) := by decide +kernel
theorem dX7_appendMessage_81 : decode cX7_appendMessage 81 = .ok (.bipush 7, 2) := by decide +kernel
theorem dX7_appendMessage_83 : decode cX7_appendMessage 83 = .ok (.iadd, 1) := by decide +kernel
theorem dX7_appendMessage_84 : decode cX7_appendMessage 84 = .ok (.iconst (-1), 1) := by decide +kernel
theorem dX7_appendMessage_85 : decode cX7_appendMessage 85 = .ok (.iastore, 1) := by decide +kernel
theorem dX7_appendMessage_86 : decode cX7_appendMessage 86 = .ok (.aload_n 0, 1) := by decide +kernel
theorem dX7_appendMessage_87 : decode cX7_appendMessage 87 = .ok (.getfield 7, 3) := by decide +kernel
theorem dX7_appendMessage_90 : decode cX7_appendMessage 90 = .ok (.iconst 2, 1) := by decide +kernel
theorem dX7_appendMessage_91 : decode cX7_appendMessage 91 = .ok (.dup2, 1) := by decide +kernel
theorem dX7_appendMessage_92 : decode cX7_appendMessage 92 = .ok (.iaload, 1) := by decide +kernel
theorem dX7_appendMessage_93 : decode cX7_appendMessage 93 = .ok (.iconst 1, 1) := by decide +kernel
theorem dX7_appendMessage_94 : decode cX7_appendMessage 94 = .ok (.iadd, 1) := by decide +kernel
theorem dX7_appendMessage_95 : decode cX7_appendMessage 95 = .ok (.iastore, 1) := by decide +kernel
theorem dX7_appendMessage_96 : decode cX7_appendMessage 96 = .ok (.aload_n 0, 1) := by decide +kernel
theorem dX7_appendMessage_97 : decode cX7_appendMessage 97 = .ok (.iload 4, 2) := by decide +kernel
theorem dX7_appendMessage_99 : decode cX7_appendMessage 99 = .ok (.iload_n 1, 1) := by decide +kernel
theorem dX7_appendMessage_100 : decode cX7_appendMessage 100 = .ok (.iconst 1, 1) := by decide +kernel
theorem dX7_appendMessage_101 : decode cX7_appendMessage 101 = .ok (.aload_n 0, 1) := by decide +kernel
theorem dX7_appendMessage_102 : decode cX7_appendMessage 102 = .ok (.getfield 7, 3) := by decide +kernel
theorem dX7_appendMessage_105 : decode cX7_appendMessage 105 = .ok (.iconst 3, 1) := by decide +kernel
theorem dX7_appendMessage_106 : decode cX7_appendMessage 106 = .ok (.iaload, 1) := by decide +kernel
theorem dX7_appendMessage_107 : decode cX7_appendMessage 107 = .ok (.invokevirtual 307, 3) := by decide +kernel
theorem dX7_appendMessage_110 : decode cX7_appendMessage 110 = .ok (.aload_n 0, 1) := by decide +kernel
theorem dX7_appendMessage_111 : decode cX7_appendMessage 111 = .ok (.iload 4, 2) := by decide +kernel
theorem dX7_appendMessage_113 : decode cX7_appendMessage 113 = .ok (.iload_n 1, 1) := by decide +kernel
theorem dX7_appendMessage_114 : decode cX7_appendMessage 114 = .ok (.iload_n 1, 1) := by decide +kernel
theorem dX7_appendMessage_115 : decode cX7_appendMessage 115 = .ok (.invokevirtual 311, 3) := by decide +kernel
theorem dX7_appendMessage_118 : decode cX7_appendMessage 118 = .ok (.aload_n 0, 1) := by decide +kernel
theorem dX7_appendMessage_119 : decode cX7_appendMessage 119 = .ok (.iconst 0, 1) := by decide +kernel
theorem dX7_appendMessage_120 : decode cX7_appendMessage 120 = .ok (.iload 4, 2) := by decide +kernel
theorem dX7_appendMessage_122 : decode cX7_appendMessage 122 = .ok (.iload_n 1, 1) := by decide +kernel
theorem dX7_appendMessage_123 : decode cX7_appendMessage 123 = .ok (.iconst (-1), 1) := by decide +kernel
theorem dX7_appendMessage_124 : decode cX7_appendMessage 124 = .ok (.invokevirtual 314, 3) := by decide +kernel
theorem dX7_appendMessage_127 : decode cX7_appendMessage 127 = .ok (.iload 4, 2) := by decide +kernel
theorem dX7_appendMessage_129 : decode cX7_appendMessage 129 = .ok (.ireturn, 1) := by decide +kernel
theorem dX7_send_0 : decode cX7_send 0 = .ok (.aload_n 0, 1) := by decide +kernel
theorem dX7_send_1 : decode cX7_send 1 = .ok (.iconst 0, 1) := by decide +kernel
theorem dX7_send_2 : decode cX7_send 2 = .ok (.putfield 54, 3) := by decide +kernel
theorem dX7_send_5 : decode cX7_send 5 = .ok (.aload_n 0, 1) := by decide +kernel
theorem dX7_send_6 : decode cX7_send 6 = .ok (.iload_n 1, 1) := by decide +kernel
theorem dX7_send_7 : decode cX7_send 7 = .ok (.invokevirtual 199, 3) := by decide +kernel
theorem dX7_send_10 : decode cX7_send 10 = .ok (.ifCond .eq 11, 3) := by decide +kernel
theorem dX7_send_13 : decode cX7_send 13 = .ok (.aload_n 0, 1) := by decide +kernel
theorem dX7_send_14 : decode cX7_send 14 = .ok (.iload_n 2, 1) := by decide +kernel
theorem dX7_send_15 : decode cX7_send 15 = .ok (.invokevirtual 199, 3) := by decide +kernel
theorem dX7_send_18 : decode cX7_send 18 = .ok (.ifCond .ne 9, 3) := by decide +kernel
theorem dX7_send_21 : decode cX7_send 21 = .ok (.aload_n 0, 1) := by decide +kernel
theorem dX7_send_22 : decode cX7_send 22 = .ok (.iconst 1, 1) := by decide +kernel
theorem dX7_send_23 : decode cX7_send 23 = .ok (.invokevirtual 68, 3) := by decide +kernel
theorem dX7_send_26 : decode cX7_send 26 = .ok (.ireturn, 1) := by decide +kernel
theorem dX7_send_27 : decode cX7_send 27 = .ok (.iload_n 1, 1) := by decide +kernel
theorem dX7_send_28 : decode cX7_send 28 = .ok (.iload_n 2, 1) := by decide +kernel
theorem dX7_send_29 : decode cX7_send 29 = .ok (.if_icmp .eq 12, 3) := by decide +kernel
theorem dX7_send_32 : decode cX7_send 32 = .ok (.iload_n 3, 1) := by decide +kernel
theorem dX7_send_33 : decode cX7_send 33 = .ok (.iconst 0, 1) := by decide +kernel
theorem dX7_send_34 : decode cX7_send 34 = .ok (.iconst 3, 1) := by decide +kernel
theorem dX7_send_35 : decode cX7_send 35 = .ok (.invokestatic 57, 3) := by decide +kernel
theorem dX7_send_38 : decode cX7_send 38 = .ok (.ifCond .ne 9, 3) := by decide +kernel
theorem dX7_send_41 : decode cX7_send 41 = .ok (.aload_n 0, 1) := by decide +kernel
theorem dX7_send_42 : decode cX7_send 42 = .ok (.iconst 2, 1) := by decide +kernel
theorem dX7_send_43 : decode cX7_send 43 = .ok (.invokevirtual 68, 3) := by decide +kernel
theorem dX7_send_46 : decode cX7_send 46 = .ok (.ireturn, 1) := by decide +kernel
theorem dX7_send_47 : decode cX7_send 47 = .ok (.aload_n 0, 1) := by decide +kernel
theorem dX7_send_48 : decode cX7_send 48 = .ok (.getfield 7, 3) := by decide +kernel
theorem dX7_send_51 : decode cX7_send 51 = .ok (.iconst 2, 1) := by decide +kernel
theorem dX7_send_52 : decode cX7_send 52 = .ok (.iaload, 1) := by decide +kernel
theorem dX7_send_53 : decode cX7_send 53 = .ok (.bipush 24, 2) := by decide +kernel
theorem dX7_send_55 : decode cX7_send 55 = .ok (.if_icmp .ne 11, 3) := by decide +kernel
theorem dX7_send_58 : decode cX7_send 58 = .ok (.aload_n 0, 1) := by decide +kernel
theorem dX7_send_59 : decode cX7_send 59 = .ok (.iconst 3, 1) := by decide +kernel
theorem dX7_send_60 : decode cX7_send 60 = .ok (.invokevirtual 68, 3) := by decide +kernel
theorem dX7_send_63 : decode cX7_send 63 = .ok (.goto 10, 3) := by decide +kernel
theorem dX7_send_66 : decode cX7_send 66 = .ok (.aload_n 0, 1) := by decide +kernel
theorem dX7_send_67 : decode cX7_send 67 = .ok (.iload_n 1, 1) := by decide +kernel
theorem dX7_send_68 : decode cX7_send 68 = .ok (.iload_n 2, 1) := by decide +kernel
theorem dX7_send_69 : decode cX7_send 69 = .ok (.iload_n 3, 1) := by decide +kernel
theorem dX7_send_70 : decode cX7_send 70 = .ok (.invokevirtual 157, 3) := by decide +kernel
theorem dX7_send_73 : decode cX7_send 73 = .ok (.ireturn, 1) := by decide +kernel
theorem dX7_setPriority_0 : decode cX7_setPriority 0 = .ok (.aload_n 0, 1) := by decide +kernel
theorem dX7_setPriority_1 : decode cX7_setPriority 1 = .ok (.iconst 0, 1) := by decide +kernel
theorem dX7_setPriority_2 : decode cX7_setPriority 2 = .ok (.putfield 54, 3) := by decide +kernel
theorem dX7_setPriority_5 : decode cX7_setPriority 5 = .ok (.aload_n 0, 1) := by decide +kernel
theorem dX7_setPriority_6 : decode cX7_setPriority 6 = .ok (.iload_n 1, 1) := by decide +kernel
theorem dX7_setPriority_7 : decode cX7_setPriority 7 = .ok (.invokevirtual 317, 3) := by decide +kernel
theorem dX7_setPriority_10 : decode cX7_setPriority 10 = .ok (.ifCond .ne 9, 3) := by decide +kernel
theorem dX7_setPriority_13 : decode cX7_setPriority 13 = .ok (.aload_n 0, 1) := by decide +kernel
theorem dX7_setPriority_14 : decode cX7_setPriority 14 = .ok (.iconst 1, 1) := by decide +kernel
theorem dX7_setPriority_15 : decode cX7_setPriority 15 = .ok (.invokevirtual 68, 3) := by decide +kernel
theorem dX7_setPriority_18 : decode cX7_setPriority 18 = .ok (.ireturn, 1) := by decide +kernel
theorem dX7_setPriority_19 : decode cX7_setPriority 19 = .ok (.iload_n 2, 1) := by decide +kernel
theorem dX7_setPriority_20 : decode cX7_setPriority 20 = .ok (.iconst 0, 1) := by decide +kernel
theorem dX7_setPriority_21 : decode cX7_setPriority 21 = .ok (.iconst 3, 1) := by decide +kernel
theorem dX7_setPriority_22 : decode cX7_setPriority 22 = .ok (.invokestatic 57, 3) := by decide +kernel
theorem dX7_setPriority_25 : decode cX7_setPriority 25 = .ok (.ifCond .eq 21, 3) := by decide +kernel
theorem dX7_setPriority_28 : decode cX7_setPriority 28 = .ok (.aload_n 0, 1) := by decide +kernel
theorem dX7_setPriority_29 : decode cX7_setPriority 29 = .ok (.sipush 192, 3) := by decide +kernel
theorem dX7_setPriority_32 : decode cX7_setPriority 32 = .ok (.bipush 8, 2) := by decide +kernel
theorem dX7_setPriority_34 : decode cX7_setPriority 34 = .ok (.iload_n 1, 1) := by decide +kernel
theorem dX7_setPriority_35 : decode cX7_setPriority 35 = .ok (.imul, 1) := by decide +kernel
theorem dX7_setPriority_36 : decode cX7_setPriority 36 = .ok (.iadd, 1) := by decide +kernel
theorem dX7_setPriority_37 : decode cX7_setPriority 37 = .ok (.iconst 2, 1) := by decide +kernel
theorem dX7_setPriority_38 : decode cX7_setPriority 38 = .ok (.iadd, 1) := by decide +kernel
theorem dX7_setPriority_39 : decode cX7_setPriority 39 = .ok (.iload_n 2, 1) := by decide +kernel
theorem dX7_setPriority_40 : decode cX7_setPriority 40 = .ok (.invokevirtual 202, 3) := by decide +kernel
theorem dX7_setPriority_43 : decode cX7_setPriority 43 = .ok (.goto 8, 3) := by decide +kernel
theorem dX7_setPriority_46 : decode cX7_setPriority 46 = .ok (.aload_n 0, 1) := by decide +kernel
theorem dX7_setPriority_47 : decode cX7_setPriority 47 = .ok (.iconst 2, 1) := by decide +kernel
theorem dX7_setPriority_48 : decode cX7_setPriority 48 = .ok (.invokevirtual 68, 3) := by decide +kernel
theorem dX7_setPriority_51 : decode cX7_setPriority 51 = .ok (.ireturn, 1) := by decide +kernel
theorem dX7_endCopy_0 : decode cX7_endCopy 0 = .ok (.aload_n 0, 1) := by decide +kernel
theorem dX7_endCopy_1 : decode cX7_endCopy 1 = .ok (.getfield 7, 3) := by decide +kernel
theorem dX7_endCopy_4 : decode cX7_endCopy 4 = .ok (.iload_n 1, 1) := by decide +kernel
theorem dX7_endCopy_5 : decode cX7_endCopy 5 = .ok (.iload_n 2, 1) := by decide +kernel
theorem dX7_endCopy_6 : decode cX7_endCopy 6 = .ok (.invokestatic 61, 3) := by decide +kernel
theorem dX7_endCopy_9 : decode cX7_endCopy 9 = .ok (.iconst 0, 1) := by decide +kernel
theorem dX7_endCopy_10 : decode cX7_endCopy 10 = .ok (.iadd, 1) := by decide +kernel
theorem dX7_endCopy_11 : decode cX7_endCopy 11 = .ok (.iload_n 3, 1) := by decide +kernel
theorem dX7_endCopy_12 : decode cX7_endCopy 12 = .ok (.iastore, 1) := by decide +kernel
theorem dX7_endCopy_13 : decode cX7_endCopy 13 = .ok (.aload_n 0, 1) := by decide +kernel
theorem dX7_endCopy_14 : decode cX7_endCopy 14 = .ok (.getfield 7, 3) := by decide +kernel
theorem dX7_endCopy_17 : decode cX7_endCopy 17 = .ok (.sipush 192, 3) := by decide +kernel
theorem dX7_endCopy_20 : decode cX7_endCopy 20 = .ok (.bipush 8, 2) := by decide +kernel
theorem dX7_endCopy_22 : decode cX7_endCopy 22 = .ok (.iload_n 1, 1) := by decide +kernel
theorem dX7_endCopy_23 : decode cX7_endCopy 23 = .ok (.imul, 1) := by decide +kernel
theorem dX7_endCopy_24 : decode cX7_endCopy 24 = .ok (.iadd, 1) := by decide +kernel
theorem dX7_endCopy_25 : decode cX7_endCopy 25 = .ok (.bipush 6, 2) := by decide +kernel
theorem dX7_endCopy_27 : decode cX7_endCopy 27 = .ok (.iadd, 1) := by decide +kernel
theorem dX7_endCopy_28 : decode cX7_endCopy 28 = .ok (.iload_n 2, 1) := by decide +kernel
theorem dX7_endCopy_29 : decode cX7_endCopy 29 = .ok (.iastore, 1) := by decide +kernel
theorem dX7_endCopy_30 : decode cX7_endCopy 30 = .ok (.aload_n 0, 1) := by decide +kernel
theorem dX7_endCopy_31 : decode cX7_endCopy 31 = .ok (.getfield 7, 3) := by decide +kernel
theorem dX7_endCopy_34 : decode cX7_endCopy 34 = .ok (.sipush 192, 3) := by decide +kernel
theorem dX7_endCopy_37 : decode cX7_endCopy 37 = .ok (.bipush 8, 2) := by decide +kernel
theorem dX7_endCopy_39 : decode cX7_endCopy 39 = .ok (.iload_n 1, 1) := by decide +kernel
theorem dX7_endCopy_40 : decode cX7_endCopy 40 = .ok (.imul, 1) := by decide +kernel
theorem dX7_endCopy_41 : decode cX7_endCopy 41 = .ok (.iadd, 1) := by decide +kernel
theorem dX7_endCopy_42 : decode cX7_endCopy 42 = .ok (.bipush 7, 2) := by decide +kernel
theorem dX7_endCopy_44 : decode cX7_endCopy 44 = .ok (.iadd, 1) := by decide +kernel
theorem dX7_endCopy_45 : decode cX7_endCopy 45 = .ok (.iload 5, 2) := by decide +kernel
theorem dX7_endCopy_47 : decode cX7_endCopy 47 = .ok (.iastore, 1) := by decide +kernel
theorem dX7_endCopy_48 : decode cX7_endCopy 48 = .ok (.aload_n 0, 1) := by decide +kernel
theorem dX7_endCopy_49 : decode cX7_endCopy 49 = .ok (.iload 4, 2) := by decide +kernel
theorem dX7_endCopy_51 : decode cX7_endCopy 51 = .ok (.iload_n 1, 1) := by decide +kernel
theorem dX7_endCopy_52 : decode cX7_endCopy 52 = .ok (.iload_n 2, 1) := by decide +kernel
theorem dX7_endCopy_53 : decode cX7_endCopy 53 = .ok (.iload 5, 2) := by decide +kernel
theorem dX7_endCopy_55 : decode cX7_endCopy 55 = .ok (.invokevirtual 314, 3) := by decide +kernel
theorem dX7_endCopy_58 : decode cX7_endCopy 58 = .ok (.return_, 1) := by decide +kernel
theorem dX7_takeBack_0 : decode cX7_takeBack 0 = .ok (.aload_n 0, 1) := by decide +kernel
theorem dX7_takeBack_1 : decode cX7_takeBack 1 = .ok (.iconst 0, 1) := by decide +kernel
theorem dX7_takeBack_2 : decode cX7_takeBack 2 = .ok (.putfield 54, 3) := by decide +kernel
theorem dX7_takeBack_5 : decode cX7_takeBack 5 = .ok (.aload_n 0, 1) := by decide +kernel
theorem dX7_takeBack_6 : decode cX7_takeBack 6 = .ok (.iload_n 1, 1) := by decide +kernel
theorem dX7_takeBack_7 : decode cX7_takeBack 7 = .ok (.invokevirtual 317, 3) := by decide +kernel
theorem dX7_takeBack_10 : decode cX7_takeBack 10 = .ok (.ifCond .ne 9, 3) := by decide +kernel
theorem dX7_takeBack_13 : decode cX7_takeBack 13 = .ok (.aload_n 0, 1) := by decide +kernel
theorem dX7_takeBack_14 : decode cX7_takeBack 14 = .ok (.iconst 1, 1) := by decide +kernel
theorem dX7_takeBack_15 : decode cX7_takeBack 15 = .ok (.invokevirtual 68, 3) := by decide +kernel
theorem dX7_takeBack_18 : decode cX7_takeBack 18 = .ok (.ireturn, 1) := by decide +kernel
theorem dX7_takeBack_19 : decode cX7_takeBack 19 = .ok (.iconst 0, 1) := by decide +kernel
theorem dX7_takeBack_20 : decode cX7_takeBack 20 = .ok (.istore_n 2, 1) := by decide +kernel
theorem dX7_takeBack_21 : decode cX7_takeBack 21 = .ok (.iconst 0, 1) := by decide +kernel
theorem dX7_takeBack_22 : decode cX7_takeBack 22 = .ok (.istore_n 3, 1) := by decide +kernel
theorem dX7_takeBack_23 : decode cX7_takeBack 23 = .ok (.iload_n 3, 1) := by decide +kernel
theorem dX7_takeBack_24 : decode cX7_takeBack 24 = .ok (.aload_n 0, 1) := by decide +kernel
theorem dX7_takeBack_25 : decode cX7_takeBack 25 = .ok (.getfield 7, 3) := by decide +kernel
theorem dX7_takeBack_28 : decode cX7_takeBack 28 = .ok (.iconst 0, 1) := by decide +kernel
theorem dX7_takeBack_29 : decode cX7_takeBack 29 = .ok (.iaload, 1) := by decide +kernel
theorem dX7_takeBack_30 : decode cX7_takeBack 30 = .ok (.if_icmp .ge 33, 3) := by decide +kernel
theorem dX7_takeBack_33 : decode cX7_takeBack 33 = .ok (.aload_n 0, 1) := by decide +kernel
theorem dX7_takeBack_34 : decode cX7_takeBack 34 = .ok (.iload_n 1, 1) := by decide +kernel
theorem dX7_takeBack_35 : decode cX7_takeBack 35 = .ok (.iload_n 3, 1) := by decide +kernel
theorem dX7_takeBack_36 : decode cX7_takeBack 36 = .ok (.iconst 0, 1) := by decide +kernel
theorem dX7_takeBack_37 : decode cX7_takeBack 37 = .ok (.invokevirtual 215, 3) := by decide +kernel
theorem dX7_takeBack_40 : decode cX7_takeBack 40 = .ok (.iconst 1, 1) := by decide +kernel
theorem dX7_takeBack_41 : decode cX7_takeBack 41 = .ok (.if_icmp .ne 16, 3) := by decide +kernel
theorem dX7_takeBack_44 : decode cX7_takeBack 44 = .ok (.aload_n 0, 1) := by decide +kernel
theorem dX7_takeBack_45 : decode cX7_takeBack 45 = .ok (.iload_n 1, 1) := by decide +kernel
theorem dX7_takeBack_46 : decode cX7_takeBack 46 = .ok (.iload_n 3, 1) := by decide +kernel
theorem dX7_takeBack_47 : decode cX7_takeBack 47 = .ok (.iconst 3, 1) := by decide +kernel
theorem dX7_takeBack_48 : decode cX7_takeBack 48 = .ok (.bipush 8, 2) := by decide +kernel
theorem dX7_takeBack_50 : decode cX7_takeBack 50 = .ok (.iconst (-1), 1) := by decide +kernel
theorem dX7_takeBack_51 : decode cX7_takeBack 51 = .ok (.invokevirtual 320, 3) := by decide +kernel
theorem dX7_takeBack_54 : decode cX7_takeBack 54 = .ok (.iinc 2 1, 3) := by decide +kernel
theorem dX7_takeBack_57 : decode cX7_takeBack 57 = .ok (.iinc 3 1, 3) := by decide +kernel
theorem dX7_takeBack_60 : decode cX7_takeBack 60 = .ok (.goto (-37), 3) := by decide +kernel
theorem dX7_takeBack_63 : decode cX7_takeBack 63 = .ok (.iload_n 2, 1) := by decide +kernel
theorem dX7_takeBack_64 : decode cX7_takeBack 64 = .ok (.ireturn, 1) := by decide +kernel
theorem dX7_deliveredField_0 : decode cX7_deliveredField 0 = .ok (.aload_n 0, 1) := by decide +kernel
theorem dX7_deliveredField_1 : decode cX7_deliveredField 1 = .ok (.iload_n 1, 1) := by decide +kernel
theorem dX7_deliveredField_2 : decode cX7_deliveredField 2 = .ok (.iconst 1, 1) := by decide +kernel
theorem dX7_deliveredField_3 : decode cX7_deliveredField 3 = .ok (.invokevirtual 267, 3) := by decide +kernel
theorem dX7_deliveredField_6 : decode cX7_deliveredField 6 = .ok (.istore_n 3, 1) := by decide +kernel
theorem dX7_deliveredField_7 : decode cX7_deliveredField 7 = .ok (.aload_n 0, 1) := by decide +kernel
theorem dX7_deliveredField_8 : decode cX7_deliveredField 8 = .ok (.iload_n 1, 1) := by decide +kernel
theorem dX7_deliveredField_9 : decode cX7_deliveredField 9 = .ok (.iload_n 3, 1) := by decide +kernel
theorem dX7_deliveredField_10 : decode cX7_deliveredField 10 = .ok (.iconst 0, 1) := by decide +kernel
theorem dX7_deliveredField_11 : decode cX7_deliveredField 11 = .ok (.invokevirtual 215, 3) := by decide +kernel
theorem dX7_deliveredField_14 : decode cX7_deliveredField 14 = .ok (.iconst 5, 1) := by decide +kernel
theorem dX7_deliveredField_15 : decode cX7_deliveredField 15 = .ok (.if_icmp .ne 13, 3) := by decide +kernel
theorem dX7_deliveredField_18 : decode cX7_deliveredField 18 = .ok (.aload_n 0, 1) := by decide +kernel
theorem dX7_deliveredField_19 : decode cX7_deliveredField 19 = .ok (.iload_n 1, 1) := by decide +kernel
theorem dX7_deliveredField_20 : decode cX7_deliveredField 20 = .ok (.iload_n 3, 1) := by decide +kernel
theorem dX7_deliveredField_21 : decode cX7_deliveredField 21 = .ok (.iload_n 2, 1) := by decide +kernel
theorem dX7_deliveredField_22 : decode cX7_deliveredField 22 = .ok (.invokevirtual 215, 3) := by decide +kernel
theorem dX7_deliveredField_25 : decode cX7_deliveredField 25 = .ok (.goto 4, 3) := by decide +kernel
theorem dX7_deliveredField_28 : decode cX7_deliveredField 28 = .ok (.iconst (-1), 1) := by decide +kernel
theorem dX7_deliveredField_29 : decode cX7_deliveredField 29 = .ok (.ireturn, 1) := by decide +kernel
theorem dX7_message_0 : decode cX7_message 0 = .ok (.aload_n 0, 1) := by decide +kernel
theorem dX7_message_1 : decode cX7_message 1 = .ok (.iconst 0, 1) := by decide +kernel
theorem dX7_message_2 : decode cX7_message 2 = .ok (.putfield 54, 3) := by decide +kernel
theorem dX7_message_5 : decode cX7_message 5 = .ok (.aload_n 0, 1) := by decide +kernel
theorem dX7_message_6 : decode cX7_message 6 = .ok (.iload_n 1, 1) := by decide +kernel
theorem dX7_message_7 : decode cX7_message 7 = .ok (.invokevirtual 317, 3) := by decide +kernel
theorem dX7_message_10 : decode cX7_message 10 = .ok (.ifCond .ne 9, 3) := by decide +kernel
theorem dX7_message_13 : decode cX7_message 13 = .ok (.aload_n 0, 1) := by decide +kernel
theorem dX7_message_14 : decode cX7_message 14 = .ok (.iconst 1, 1) := by decide +kernel
theorem dX7_message_15 : decode cX7_message 15 = .ok (.invokevirtual 68, 3) := by decide +kernel
theorem dX7_message_18 : decode cX7_message 18 = .ok (.ireturn, 1) := by decide +kernel
theorem dX7_message_19 : decode cX7_message 19 = .ok (.iload_n 2, 1) := by decide +kernel
theorem dX7_message_20 : decode cX7_message 20 = .ok (.tableswitch 139 0 11 #[64, 64, 64, 64, 71, 77, 84, 107, 107, 119, 126, 126], 64) := by decide +kernel
theorem dX7_message_84 : decode cX7_message 84 = .ok (.aload_n 0, 1) := by decide +kernel
theorem dX7_message_85 : decode cX7_message 85 = .ok (.iload_n 1, 1) := by decide +kernel
theorem dX7_message_86 : decode cX7_message 86 = .ok (.iload_n 2, 1) := by decide +kernel
theorem dX7_message_87 : decode cX7_message 87 = .ok (.invokevirtual 267, 3) := by decide +kernel
theorem dX7_message_90 : decode cX7_message 90 = .ok (.ireturn, 1) := by decide +kernel
theorem dX7_message_91 : decode cX7_message 91 = .ok (.aload_n 0, 1) := by decide +kernel
theorem dX7_message_92 : decode cX7_message 92 = .ok (.iload_n 1, 1) := by decide +kernel
theorem dX7_message_93 : decode cX7_message 93 = .ok (.invokevirtual 230, 3) := by decide +kernel
theorem dX7_message_96 : decode cX7_message 96 = .ok (.ireturn, 1) := by decide +kernel
theorem dX7_message_97 : decode cX7_message 97 = .ok (.aload_n 0, 1) := by decide +kernel
theorem dX7_message_98 : decode cX7_message 98 = .ok (.iload_n 1, 1) := by decide +kernel
theorem dX7_message_99 : decode cX7_message 99 = .ok (.iconst 2, 1) := by decide +kernel
theorem dX7_message_100 : decode cX7_message 100 = .ok (.invokevirtual 324, 3) := by decide +kernel
theorem dX7_message_103 : decode cX7_message 103 = .ok (.ireturn, 1) := by decide +kernel
theorem dX7_message_104 : decode cX7_message 104 = .ok (.aload_n 0, 1) := by decide +kernel
theorem dX7_message_105 : decode cX7_message 105 = .ok (.iload_n 1, 1) := by decide +kernel
theorem dX7_message_106 : decode cX7_message 106 = .ok (.iconst 3, 1) := by decide +kernel
theorem dX7_message_107 : decode cX7_message 107 = .ok (.invokevirtual 324, 3) := by decide +kernel
theorem dX7_message_110 : decode cX7_message 110 = .ok (.iconst (-1), 1) := by decide +kernel
theorem dX7_message_111 : decode cX7_message 111 = .ok (.if_icmp .ne 7, 3) := by decide +kernel
theorem dX7_message_114 : decode cX7_message 114 = .ok (.iconst (-1), 1) := by decide +kernel
theorem dX7_message_115 : decode cX7_message 115 = .ok (.goto 11, 3) := by decide +kernel
theorem dX7_message_118 : decode cX7_message 118 = .ok (.aload_n 0, 1) := by decide +kernel
theorem dX7_message_119 : decode cX7_message 119 = .ok (.iload_n 1, 1) := by decide +kernel
theorem dX7_message_120 : decode cX7_message 120 = .ok (.iconst 3, 1) := by decide +kernel
theorem dX7_message_121 : decode cX7_message 121 = .ok (.invokevirtual 324, 3) := by decide +kernel
theorem dX7_message_124 : decode cX7_message 124 = .ok (.iconst 1, 1) := by decide +kernel
theorem dX7_message_125 : decode cX7_message 125 = .ok (.isub, 1) := by decide +kernel
theorem dX7_message_126 : decode cX7_message 126 = .ok (.ireturn, 1) := by decide +kernel
theorem dX7_message_127 : decode cX7_message 127 = .ok (.aload_n 0, 1) := by decide +kernel
theorem dX7_message_128 : decode cX7_message 128 = .ok (.iload_n 1, 1) := by decide +kernel
theorem dX7_message_129 : decode cX7_message 129 = .ok (.iconst 4, 1) := by decide +kernel
theorem dX7_message_130 : decode cX7_message 130 = .ok (.iload_n 2, 1) := by decide +kernel
theorem dX7_message_131 : decode cX7_message 131 = .ok (.iadd, 1) := by decide +kernel
theorem dX7_message_132 : decode cX7_message 132 = .ok (.bipush 7, 2) := by decide +kernel
theorem dX7_message_134 : decode cX7_message 134 = .ok (.isub, 1) := by decide +kernel
theorem dX7_message_135 : decode cX7_message 135 = .ok (.invokevirtual 267, 3) := by decide +kernel
theorem dX7_message_138 : decode cX7_message 138 = .ok (.ireturn, 1) := by decide +kernel
theorem dX7_message_139 : decode cX7_message 139 = .ok (.aload_n 0, 1) := by decide +kernel
theorem dX7_message_140 : decode cX7_message 140 = .ok (.iload_n 1, 1) := by decide +kernel
theorem dX7_message_141 : decode cX7_message 141 = .ok (.iconst 1, 1) := by decide +kernel
theorem dX7_message_142 : decode cX7_message 142 = .ok (.invokevirtual 227, 3) := by decide +kernel
theorem dX7_message_145 : decode cX7_message 145 = .ok (.ireturn, 1) := by decide +kernel
theorem dX7_message_146 : decode cX7_message 146 = .ok (.aload_n 0, 1) := by decide +kernel
theorem dX7_message_147 : decode cX7_message 147 = .ok (.iload_n 1, 1) := by decide +kernel
theorem dX7_message_148 : decode cX7_message 148 = .ok (.bipush 6, 2) := by decide +kernel
theorem dX7_message_150 : decode cX7_message 150 = .ok (.iload_n 2, 1) := by decide +kernel
theorem dX7_message_151 : decode cX7_message 151 = .ok (.iadd, 1) := by decide +kernel
theorem dX7_message_152 : decode cX7_message 152 = .ok (.bipush 10, 2) := by decide +kernel
theorem dX7_message_154 : decode cX7_message 154 = .ok (.isub, 1) := by decide +kernel
theorem dX7_message_155 : decode cX7_message 155 = .ok (.invokevirtual 267, 3) := by decide +kernel
theorem dX7_message_158 : decode cX7_message 158 = .ok (.ireturn, 1) := by decide +kernel
theorem dX7_message_159 : decode cX7_message 159 = .ok (.aload_n 0, 1) := by decide +kernel
theorem dX7_message_160 : decode cX7_message 160 = .ok (.iconst 2, 1) := by decide +kernel
theorem dX7_message_161 : decode cX7_message 161 = .ok (.invokevirtual 68, 3) := by decide +kernel
theorem dX7_message_164 : decode cX7_message 164 = .ok (.ireturn, 1) := by decide +kernel
theorem dX7_copy_0 : decode cX7_copy 0 = .ok (.aload_n 0, 1) := by decide +kernel
theorem dX7_copy_1 : decode cX7_copy 1 = .ok (.iconst 0, 1) := by decide +kernel
theorem dX7_copy_2 : decode cX7_copy 2 = .ok (.putfield 54, 3) := by decide +kernel
theorem dX7_copy_5 : decode cX7_copy 5 = .ok (.aload_n 0, 1) := by decide +kernel
theorem dX7_copy_6 : decode cX7_copy 6 = .ok (.iload_n 1, 1) := by decide +kernel
theorem dX7_copy_7 : decode cX7_copy 7 = .ok (.invokevirtual 317, 3) := by decide +kernel
theorem dX7_copy_10 : decode cX7_copy 10 = .ok (.ifCond .eq 11, 3) := by decide +kernel
theorem dX7_copy_13 : decode cX7_copy 13 = .ok (.aload_n 0, 1) := by decide +kernel
theorem dX7_copy_14 : decode cX7_copy 14 = .ok (.iload_n 2, 1) := by decide +kernel
theorem dX7_copy_15 : decode cX7_copy 15 = .ok (.invokevirtual 199, 3) := by decide +kernel
theorem dX7_copy_18 : decode cX7_copy 18 = .ok (.ifCond .ne 9, 3) := by decide +kernel
theorem dX7_copy_21 : decode cX7_copy 21 = .ok (.aload_n 0, 1) := by decide +kernel
theorem dX7_copy_22 : decode cX7_copy 22 = .ok (.iconst 1, 1) := by decide +kernel
theorem dX7_copy_23 : decode cX7_copy 23 = .ok (.invokevirtual 68, 3) := by decide +kernel
theorem dX7_copy_26 : decode cX7_copy 26 = .ok (.ireturn, 1) := by decide +kernel
theorem dX7_copy_27 : decode cX7_copy 27 = .ok (.iload_n 3, 1) := by decide +kernel
theorem dX7_copy_28 : decode cX7_copy 28 = .ok (.iconst 0, 1) := by decide +kernel
theorem dX7_copy_29 : decode cX7_copy 29 = .ok (.iconst 4, 1) := by decide +kernel
theorem dX7_copy_30 : decode cX7_copy 30 = .ok (.invokestatic 57, 3) := by decide +kernel
theorem dX7_copy_33 : decode cX7_copy 33 = .ok (.ifCond .ne 9, 3) := by decide +kernel
theorem dX7_copy_36 : decode cX7_copy 36 = .ok (.aload_n 0, 1) := by decide +kernel
theorem dX7_copy_37 : decode cX7_copy 37 = .ok (.iconst 2, 1) := by decide +kernel
theorem dX7_copy_38 : decode cX7_copy 38 = .ok (.invokevirtual 68, 3) := by decide +kernel
theorem dX7_copy_41 : decode cX7_copy 41 = .ok (.ireturn, 1) := by decide +kernel
theorem dX7_copy_42 : decode cX7_copy 42 = .ok (.aload_n 0, 1) := by decide +kernel
theorem dX7_copy_43 : decode cX7_copy 43 = .ok (.iload_n 1, 1) := by decide +kernel
theorem dX7_copy_44 : decode cX7_copy 44 = .ok (.iload_n 2, 1) := by decide +kernel
theorem dX7_copy_45 : decode cX7_copy 45 = .ok (.iconst 0, 1) := by decide +kernel
theorem dX7_copy_46 : decode cX7_copy 46 = .ok (.invokevirtual 215, 3) := by decide +kernel
theorem dX7_copy_49 : decode cX7_copy 49 = .ok (.istore 4, 2) := by decide +kernel
theorem dX7_copy_51 : decode cX7_copy 51 = .ok (.iload_n 3, 1) := by decide +kernel
theorem dX7_copy_52 : decode cX7_copy 52 = .ok (.ifCond .ne 6, 3) := by decide +kernel
theorem dX7_copy_55 : decode cX7_copy 55 = .ok (.iload 4, 2) := by decide +kernel
theorem dX7_copy_57 : decode cX7_copy 57 = .ok (.ireturn, 1) := by decide +kernel
theorem dX7_copy_58 : decode cX7_copy 58 = .ok (.iload 4, 2) := by decide +kernel
theorem dX7_copy_60 : decode cX7_copy 60 = .ok (.ifCond .ne 5, 3) := by decide +kernel
theorem dX7_copy_63 : decode cX7_copy 63 = .ok (.iconst (-1), 1) := by decide +kernel
theorem dX7_copy_64 : decode cX7_copy 64 = .ok (.ireturn, 1) := by decide +kernel
theorem dX7_copy_65 : decode cX7_copy 65 = .ok (.iload_n 3, 1) := by decide +kernel
theorem dX7_copy_66 : decode cX7_copy 66 = .ok (.iconst 4, 1) := by decide +kernel
theorem dX7_copy_67 : decode cX7_copy 67 = .ok (.if_icmp .ne 20, 3) := by decide +kernel
theorem dX7_copy_70 : decode cX7_copy 70 = .ok (.iload 4, 2) := by decide +kernel
theorem dX7_copy_72 : decode cX7_copy 72 = .ok (.iconst 1, 1) := by decide +kernel
theorem dX7_copy_73 : decode cX7_copy 73 = .ok (.if_icmp .ne 12, 3) := by decide +kernel
theorem dX7_copy_76 : decode cX7_copy 76 = .ok (.aload_n 0, 1) := by decide +kernel
theorem dX7_copy_77 : decode cX7_copy 77 = .ok (.iload_n 1, 1) := by decide +kernel
theorem dX7_copy_78 : decode cX7_copy 78 = .ok (.iload_n 2, 1) := by decide +kernel
theorem dX7_copy_79 : decode cX7_copy 79 = .ok (.invokevirtual 327, 3) := by decide +kernel
theorem dX7_copy_82 : decode cX7_copy 82 = .ok (.goto 4, 3) := by decide +kernel
theorem dX7_copy_85 : decode cX7_copy 85 = .ok (.iconst (-1), 1) := by decide +kernel
theorem dX7_copy_86 : decode cX7_copy 86 = .ok (.ireturn, 1) := by decide +kernel
theorem dX7_copy_87 : decode cX7_copy 87 = .ok (.aload_n 0, 1) := by decide +kernel
theorem dX7_copy_88 : decode cX7_copy 88 = .ok (.iload_n 1, 1) := by decide +kernel
theorem dX7_copy_89 : decode cX7_copy 89 = .ok (.iload_n 2, 1) := by decide +kernel
theorem dX7_copy_90 : decode cX7_copy 90 = .ok (.iload_n 3, 1) := by decide +kernel
theorem dX7_copy_91 : decode cX7_copy 91 = .ok (.invokevirtual 215, 3) := by decide +kernel
theorem dX7_copy_94 : decode cX7_copy 94 = .ok (.ireturn, 1) := by decide +kernel
theorem dX7_path_0 : decode cX7_path 0 = .ok (.aload_n 0, 1) := by decide +kernel
theorem dX7_path_1 : decode cX7_path 1 = .ok (.iconst 0, 1) := by decide +kernel
theorem dX7_path_2 : decode cX7_path 2 = .ok (.putfield 54, 3) := by decide +kernel
theorem dX7_path_5 : decode cX7_path 5 = .ok (.aload_n 0, 1) := by decide +kernel
theorem dX7_path_6 : decode cX7_path 6 = .ok (.iload_n 1, 1) := by decide +kernel
theorem dX7_path_7 : decode cX7_path 7 = .ok (.invokevirtual 317, 3) := by decide +kernel
theorem dX7_path_10 : decode cX7_path 10 = .ok (.ifCond .eq 25, 3) := by decide +kernel
theorem dX7_path_13 : decode cX7_path 13 = .ok (.aload_n 0, 1) := by decide +kernel
theorem dX7_path_14 : decode cX7_path 14 = .ok (.iload_n 2, 1) := by decide +kernel
theorem dX7_path_15 : decode cX7_path 15 = .ok (.invokevirtual 199, 3) := by decide +kernel
theorem dX7_path_18 : decode cX7_path 18 = .ok (.ifCond .eq 17, 3) := by decide +kernel
theorem dX7_path_21 : decode cX7_path 21 = .ok (.aload_n 0, 1) := by decide +kernel
theorem dX7_path_22 : decode cX7_path 22 = .ok (.iload_n 1, 1) := by decide +kernel
theorem dX7_path_23 : decode cX7_path 23 = .ok (.iload_n 2, 1) := by decide +kernel
theorem dX7_path_24 : decode cX7_path 24 = .ok (.iconst 0, 1) := by decide +kernel
theorem dX7_path_25 : decode cX7_path 25 = .ok (.invokevirtual 215, 3) := by decide +kernel
theorem dX7_path_28 : decode cX7_path 28 = .ok (.ifCond .eq 7, 3) := by decide +kernel
theorem dX7_path_31 : decode cX7_path 31 = .ok (.iconst 1, 1) := by decide +kernel
theorem dX7_path_32 : decode cX7_path 32 = .ok (.goto 4, 3) := by decide +kernel
theorem dX7_path_35 : decode cX7_path 35 = .ok (.iconst 0, 1) := by decide +kernel
theorem dX7_path_36 : decode cX7_path 36 = .ok (.istore 4, 2) := by decide +kernel
theorem dX7_path_38 : decode cX7_path 38 = .ok (.iload 4, 2) := by decide +kernel
theorem dX7_path_40 : decode cX7_path 40 = .ok (.ifCond .eq 32, 3) := by decide +kernel
theorem dX7_path_43 : decode cX7_path 43 = .ok (.iload_n 3, 1) := by decide +kernel
theorem dX7_path_44 : decode cX7_path 44 = .ok (.iconst 0, 1) := by decide +kernel
theorem dX7_path_45 : decode cX7_path 45 = .ok (.aload_n 0, 1) := by decide +kernel
theorem dX7_path_46 : decode cX7_path 46 = .ok (.iload_n 1, 1) := by decide +kernel
theorem dX7_path_47 : decode cX7_path 47 = .ok (.iload_n 2, 1) := by decide +kernel
theorem dX7_path_48 : decode cX7_path 48 = .ok (.iconst 3, 1) := by decide +kernel
theorem dX7_path_49 : decode cX7_path 49 = .ok (.invokevirtual 215, 3) := by decide +kernel
theorem dX7_path_52 : decode cX7_path 52 = .ok (.iconst 1, 1) := by decide +kernel
theorem dX7_path_53 : decode cX7_path 53 = .ok (.isub, 1) := by decide +kernel
theorem dX7_path_54 : decode cX7_path 54 = .ok (.invokestatic 57, 3) := by decide +kernel
theorem dX7_path_57 : decode cX7_path 57 = .ok (.ifCond .eq 15, 3) := by decide +kernel
theorem dX7_path_60 : decode cX7_path 60 = .ok (.aload_n 0, 1) := by decide +kernel
theorem dX7_path_61 : decode cX7_path 61 = .ok (.iload_n 1, 1) := by decide +kernel
theorem dX7_path_62 : decode cX7_path 62 = .ok (.iload_n 2, 1) := by decide +kernel
theorem dX7_path_63 : decode cX7_path 63 = .ok (.iconst 4, 1) := by decide +kernel
theorem dX7_path_64 : decode cX7_path 64 = .ok (.iload_n 3, 1) := by decide +kernel
theorem dX7_path_65 : decode cX7_path 65 = .ok (.iadd, 1) := by decide +kernel
theorem dX7_path_66 : decode cX7_path 66 = .ok (.invokevirtual 215, 3) := by decide +kernel
theorem dX7_path_69 : decode cX7_path 69 = .ok (.goto 8, 3) := by decide +kernel
theorem dX7_path_72 : decode cX7_path 72 = .ok (.aload_n 0, 1) := by decide +kernel
theorem dX7_path_73 : decode cX7_path 73 = .ok (.iconst 1, 1) := by decide +kernel
theorem dX7_path_74 : decode cX7_path 74 = .ok (.invokevirtual 68, 3) := by decide +kernel
theorem dX7_path_77 : decode cX7_path 77 = .ok (.ireturn, 1) := by decide +kernel
theorem dX7_layFrames_0 : decode cX7_layFrames 0 = .ok (.aload_n 0, 1) := by decide +kernel
theorem dX7_layFrames_1 : decode cX7_layFrames 1 = .ok (.iconst 0, 1) := by decide +kernel
theorem dX7_layFrames_2 : decode cX7_layFrames 2 = .ok (.putfield 330, 3) := by decide +kernel
theorem dX7_layFrames_5 : decode cX7_layFrames 5 = .ok (.aload_n 0, 1) := by decide +kernel
theorem dX7_layFrames_6 : decode cX7_layFrames 6 = .ok (.iload_n 1, 1) := by decide +kernel
theorem dX7_layFrames_7 : decode cX7_layFrames 7 = .ok (.aload_n 0, 1) := by decide +kernel
theorem dX7_layFrames_8 : decode cX7_layFrames 8 = .ok (.getfield 7, 3) := by decide +kernel
theorem dX7_layFrames_11 : decode cX7_layFrames 11 = .ok (.iconst 3, 1) := by decide +kernel
theorem dX7_layFrames_12 : decode cX7_layFrames 12 = .ok (.iaload, 1) := by decide +kernel
theorem dX7_layFrames_13 : decode cX7_layFrames 13 = .ok (.invokevirtual 211, 3) := by decide +kernel
theorem dX7_layFrames_16 : decode cX7_layFrames 16 = .ok (.ifCond .ne 4, 3) := by decide +kernel
theorem dX7_layFrames_19 : decode cX7_layFrames 19 = .ok (.return_, 1) := by decide +kernel
theorem dX7_layFrames_20 : decode cX7_layFrames 20 = .ok (.iconst 0, 1) := by decide +kernel
theorem dX7_layFrames_21 : decode cX7_layFrames 21 = .ok (.istore_n 2, 1) := by decide +kernel
theorem dX7_layFrames_22 : decode cX7_layFrames 22 = .ok (.iload_n 2, 1) := by decide +kernel
theorem dX7_layFrames_23 : decode cX7_layFrames 23 = .ok (.aload_n 0, 1) := by decide +kernel
theorem dX7_layFrames_24 : decode cX7_layFrames 24 = .ok (.getfield 7, 3) := by decide +kernel
theorem dX7_layFrames_27 : decode cX7_layFrames 27 = .ok (.iconst 2, 1) := by decide +kernel
theorem dX7_layFrames_28 : decode cX7_layFrames 28 = .ok (.iaload, 1) := by decide +kernel
theorem dX7_layFrames_29 : decode cX7_layFrames 29 = .ok (.if_icmp .ge 166, 3) := by decide +kernel
theorem dX7_layFrames_32 : decode cX7_layFrames 32 = .ok (.aload_n 0, 1) := by decide +kernel
theorem dX7_layFrames_33 : decode cX7_layFrames 33 = .ok (.iload_n 2, 1) := by decide +kernel
theorem dX7_layFrames_34 : decode cX7_layFrames 34 = .ok (.iload_n 1, 1) := by decide +kernel
theorem dX7_layFrames_35 : decode cX7_layFrames 35 = .ok (.iconst 0, 1) := by decide +kernel
theorem dX7_layFrames_36 : decode cX7_layFrames 36 = .ok (.invokevirtual 215, 3) := by decide +kernel
theorem dX7_layFrames_39 : decode cX7_layFrames 39 = .ok (.iconst 1, 1) := by decide +kernel
theorem dX7_layFrames_40 : decode cX7_layFrames 40 = .ok (.if_icmp .ne 23, 3) := by decide +kernel
theorem dX7_layFrames_43 : decode cX7_layFrames 43 = .ok (.aload_n 0, 1) := by decide +kernel
theorem dX7_layFrames_44 : decode cX7_layFrames 44 = .ok (.iload_n 2, 1) := by decide +kernel
theorem dX7_layFrames_45 : decode cX7_layFrames 45 = .ok (.iload_n 1, 1) := by decide +kernel
theorem dX7_layFrames_46 : decode cX7_layFrames 46 = .ok (.iconst 2, 1) := by decide +kernel
theorem dX7_layFrames_47 : decode cX7_layFrames 47 = .ok (.invokevirtual 215, 3) := by decide +kernel
theorem dX7_layFrames_50 : decode cX7_layFrames 50 = .ok (.aload_n 0, 1) := by decide +kernel
theorem dX7_layFrames_51 : decode cX7_layFrames 51 = .ok (.getfield 7, 3) := by decide +kernel
theorem dX7_layFrames_54 : decode cX7_layFrames 54 = .ok (.iconst 3, 1) := by decide +kernel
theorem dX7_layFrames_55 : decode cX7_layFrames 55 = .ok (.iaload, 1) := by decide +kernel
theorem dX7_layFrames_56 : decode cX7_layFrames 56 = .ok (.if_icmp .gt 7, 3) := by decide +kernel
theorem dX7_layFrames_59 : decode cX7_layFrames 59 = .ok (.iconst 1, 1) := by decide +kernel
theorem dX7_layFrames_60 : decode cX7_layFrames 60 = .ok (.goto 4, 3) := by decide +kernel
theorem dX7_layFrames_63 : decode cX7_layFrames 63 = .ok (.iconst 0, 1) := by decide +kernel
theorem dX7_layFrames_64 : decode cX7_layFrames 64 = .ok (.istore_n 3, 1) := by decide +kernel
theorem dX7_layFrames_65 : decode cX7_layFrames 65 = .ok (.iload_n 3, 1) := by decide +kernel
theorem dX7_layFrames_66 : decode cX7_layFrames 66 = .ok (.ifCond .eq 12, 3) := by decide +kernel
theorem dX7_layFrames_69 : decode cX7_layFrames 69 = .ok (.aload_n 0, 1) := by decide +kernel
theorem dX7_layFrames_70 : decode cX7_layFrames 70 = .ok (.iload_n 2, 1) := by decide +kernel
theorem dX7_layFrames_71 : decode cX7_layFrames 71 = .ok (.iload_n 1, 1) := by decide +kernel
theorem dX7_layFrames_72 : decode cX7_layFrames 72 = .ok (.invokevirtual 327, 3) := by decide +kernel
theorem dX7_layFrames_75 : decode cX7_layFrames 75 = .ok (.goto 4, 3) := by decide +kernel
theorem dX7_layFrames_78 : decode cX7_layFrames 78 = .ok (.iconst (-1), 1) := by decide +kernel
theorem dX7_layFrames_79 : decode cX7_layFrames 79 = .ok (.istore 4, 2) := by decide +kernel
theorem dX7_layFrames_81 : decode cX7_layFrames 81 = .ok (.iload 4, 2) := by decide +kernel
theorem dX7_layFrames_83 : decode cX7_layFrames 83 = .ok (.iconst (-1), 1) := by decide +kernel
theorem dX7_layFrames_84 : decode cX7_layFrames 84 = .ok (.if_icmp .ne 6, 3) := by decide +kernel
theorem dX7_layFrames_87 : decode cX7_layFrames 87 = .ok (.goto 102, 3) := by decide +kernel
theorem dX7_layFrames_90 : decode cX7_layFrames 90 = .ok (.aload_n 0, 1) := by decide +kernel
theorem dX7_layFrames_91 : decode cX7_layFrames 91 = .ok (.getfield 330, 3) := by decide +kernel
theorem dX7_layFrames_94 : decode cX7_layFrames 94 = .ok (.istore 5, 2) := by decide +kernel
theorem dX7_layFrames_96 : decode cX7_layFrames 96 = .ok (.iload 5, 2) := by decide +kernel
theorem dX7_layFrames_98 : decode cX7_layFrames 98 = .ok (.ifCond .le 64, 3) := by decide +kernel
theorem dX7_layFrames_101 : decode cX7_layFrames 101 = .ok (.aload_n 0, 1) := by decide +kernel
theorem dX7_layFrames_102 : decode cX7_layFrames 102 = .ok (.aload_n 0, 1) := by decide +kernel
theorem dX7_layFrames_103 : decode cX7_layFrames 103 = .ok (.getfield 45, 3) := by decide +kernel
theorem dX7_layFrames_106 : decode cX7_layFrames 106 = .ok (.iload 5, 2) := by decide +kernel
theorem dX7_layFrames_108 : decode cX7_layFrames 108 = .ok (.iconst 1, 1) := by decide +kernel
theorem dX7_layFrames_109 : decode cX7_layFrames 109 = .ok (.isub, 1) := by decide +kernel
theorem dX7_layFrames_110 : decode cX7_layFrames 110 = .ok (.iaload, 1) := by decide +kernel
theorem dX7_layFrames_111 : decode cX7_layFrames 111 = .ok (.iconst 2, 1) := by decide +kernel
theorem dX7_layFrames_112 : decode cX7_layFrames 112 = .ok (.invokevirtual 267, 3) := by decide +kernel
theorem dX7_layFrames_115 : decode cX7_layFrames 115 = .ok (.aload_n 0, 1) := by decide +kernel
theorem dX7_layFrames_116 : decode cX7_layFrames 116 = .ok (.iload_n 2, 1) := by decide +kernel
theorem dX7_layFrames_117 : decode cX7_layFrames 117 = .ok (.iconst 2, 1) := by decide +kernel
theorem dX7_layFrames_118 : decode cX7_layFrames 118 = .ok (.invokevirtual 267, 3) := by decide +kernel
theorem dX7_layFrames_121 : decode cX7_layFrames 121 = .ok (.if_icmp .ge 41, 3) := by decide +kernel
theorem dX7_layFrames_124 : decode cX7_layFrames 124 = .ok (.aload_n 0, 1) := by decide +kernel
theorem dX7_layFrames_125 : decode cX7_layFrames 125 = .ok (.getfield 45, 3) := by decide +kernel
theorem dX7_layFrames_128 : decode cX7_layFrames 128 = .ok (.iload 5, 2) := by decide +kernel
theorem dX7_layFrames_130 : decode cX7_layFrames 130 = .ok (.aload_n 0, 1) := by decide +kernel
theorem dX7_layFrames_131 : decode cX7_layFrames 131 = .ok (.getfield 45, 3) := by decide +kernel
theorem dX7_layFrames_134 : decode cX7_layFrames 134 = .ok (.iload 5, 2) := by decide +kernel
theorem dX7_layFrames_136 : decode cX7_layFrames 136 = .ok (.iconst 1, 1) := by decide +kernel
theorem dX7_layFrames_137 : decode cX7_layFrames 137 = .ok (.isub, 1) := by decide +kernel
theorem dX7_layFrames_138 : decode cX7_layFrames 138 = .ok (.iaload, 1) := by decide +kernel
theorem dX7_layFrames_139 : decode cX7_layFrames 139 = .ok (.iastore, 1) := by decide +kernel
theorem dX7_layFrames_140 : decode cX7_layFrames 140 = .ok (.aload_n 0, 1) := by decide +kernel
theorem dX7_layFrames_141 : decode cX7_layFrames 141 = .ok (.getfield 48, 3) := by decide +kernel
theorem dX7_layFrames_144 : decode cX7_layFrames 144 = .ok (.iload 5, 2) := by decide +kernel
theorem dX7_layFrames_146 : decode cX7_layFrames 146 = .ok (.aload_n 0, 1) := by decide +kernel
theorem dX7_layFrames_147 : decode cX7_layFrames 147 = .ok (.getfield 48, 3) := by decide +kernel
theorem dX7_layFrames_150 : decode cX7_layFrames 150 = .ok (.iload 5, 2) := by decide +kernel
theorem dX7_layFrames_152 : decode cX7_layFrames 152 = .ok (.iconst 1, 1) := by decide +kernel
theorem dX7_layFrames_153 : decode cX7_layFrames 153 = .ok (.isub, 1) := by decide +kernel
theorem dX7_layFrames_154 : decode cX7_layFrames 154 = .ok (.iaload, 1) := by decide +kernel
theorem dX7_layFrames_155 : decode cX7_layFrames 155 = .ok (.iastore, 1) := by decide +kernel
theorem dX7_layFrames_156 : decode cX7_layFrames 156 = .ok (.iinc 5 (-1), 3) := by decide +kernel
theorem dX7_layFrames_159 : decode cX7_layFrames 159 = .ok (.goto (-63), 3) := by decide +kernel
theorem dX7_layFrames_162 : decode cX7_layFrames 162 = .ok (.aload_n 0, 1) := by decide +kernel
theorem dX7_layFrames_163 : decode cX7_layFrames 163 = .ok (.getfield 45, 3) := by decide +kernel
theorem dX7_layFrames_166 : decode cX7_layFrames 166 = .ok (.iload 5, 2) := by decide +kernel
theorem dX7_layFrames_168 : decode cX7_layFrames 168 = .ok (.iload_n 2, 1) := by decide +kernel
theorem dX7_layFrames_169 : decode cX7_layFrames 169 = .ok (.iastore, 1) := by decide +kernel
theorem dX7_layFrames_170 : decode cX7_layFrames 170 = .ok (.aload_n 0, 1) := by decide +kernel
theorem dX7_layFrames_171 : decode cX7_layFrames 171 = .ok (.getfield 48, 3) := by decide +kernel
theorem dX7_layFrames_174 : decode cX7_layFrames 174 = .ok (.iload 5, 2) := by decide +kernel
theorem dX7_layFrames_176 : decode cX7_layFrames 176 = .ok (.iload 4, 2) := by decide +kernel
theorem dX7_layFrames_178 : decode cX7_layFrames 178 = .ok (.iastore, 1) := by decide +kernel
theorem dX7_layFrames_179 : decode cX7_layFrames 179 = .ok (.aload_n 0, 1) := by decide +kernel
theorem dX7_layFrames_180 : decode cX7_layFrames 180 = .ok (.dup, 1) := by decide +kernel
theorem dX7_layFrames_181 : decode cX7_layFrames 181 = .ok (.getfield 330, 3) := by decide +kernel
theorem dX7_layFrames_184 : decode cX7_layFrames 184 = .ok (.iconst 1, 1) := by decide +kernel
theorem dX7_layFrames_185 : decode cX7_layFrames 185 = .ok (.iadd, 1) := by decide +kernel
theorem dX7_layFrames_186 : decode cX7_layFrames 186 = .ok (.putfield 330, 3) := by decide +kernel
theorem dX7_layFrames_189 : decode cX7_layFrames 189 = .ok (.iinc 2 1, 3) := by decide +kernel
theorem dX7_layFrames_192 : decode cX7_layFrames 192 = .ok (.goto (-170), 3) := by decide +kernel
theorem dX7_layFrames_195 : decode cX7_layFrames 195 = .ok (.aload_n 0, 1) := by decide +kernel
theorem dX7_layFrames_196 : decode cX7_layFrames 196 = .ok (.aload_n 0, 1) := by decide +kernel
theorem dX7_layFrames_197 : decode cX7_layFrames 197 = .ok (.getfield 330, 3) := by decide +kernel
theorem dX7_layFrames_200 : decode cX7_layFrames 200 = .ok (.aload_n 0, 1) := by decide +kernel
theorem dX7_layFrames_201 : decode cX7_layFrames 201 = .ok (.iload_n 1, 1) := by decide +kernel
theorem dX7_layFrames_202 : decode cX7_layFrames 202 = .ok (.iconst 2, 1) := by decide +kernel
theorem dX7_layFrames_203 : decode cX7_layFrames 203 = .ok (.invokevirtual 205, 3) := by decide +kernel
theorem dX7_layFrames_206 : decode cX7_layFrames 206 = .ok (.invokestatic 333, 3) := by decide +kernel
theorem dX7_layFrames_209 : decode cX7_layFrames 209 = .ok (.putfield 330, 3) := by decide +kernel
theorem dX7_layFrames_212 : decode cX7_layFrames 212 = .ok (.return_, 1) := by decide +kernel
theorem dX7_sends_0 : decode cX7_sends 0 = .ok (.aload_n 0, 1) := by decide +kernel
theorem dX7_sends_1 : decode cX7_sends 1 = .ok (.iconst 0, 1) := by decide +kernel
theorem dX7_sends_2 : decode cX7_sends 2 = .ok (.putfield 54, 3) := by decide +kernel
theorem dX7_sends_5 : decode cX7_sends 5 = .ok (.aload_n 0, 1) := by decide +kernel
theorem dX7_sends_6 : decode cX7_sends 6 = .ok (.iload_n 1, 1) := by decide +kernel
theorem dX7_sends_7 : decode cX7_sends 7 = .ok (.invokevirtual 199, 3) := by decide +kernel
theorem dX7_sends_10 : decode cX7_sends 10 = .ok (.ifCond .eq 7, 3) := by decide +kernel
theorem dX7_sends_13 : decode cX7_sends 13 = .ok (.iload_n 2, 1) := by decide +kernel
theorem dX7_sends_14 : decode cX7_sends 14 = .ok (.ifCond .ge 9, 3) := by decide +kernel
theorem dX7_sends_17 : decode cX7_sends 17 = .ok (.aload_n 0, 1) := by decide +kernel
theorem dX7_sends_18 : decode cX7_sends 18 = .ok (.iconst 1, 1) := by decide +kernel
theorem dX7_sends_19 : decode cX7_sends 19 = .ok (.invokevirtual 68, 3) := by decide +kernel
theorem dX7_sends_22 : decode cX7_sends 22 = .ok (.ireturn, 1) := by decide +kernel
theorem dX7_sends_23 : decode cX7_sends 23 = .ok (.aload_n 0, 1) := by decide +kernel
theorem dX7_sends_24 : decode cX7_sends 24 = .ok (.iload_n 1, 1) := by decide +kernel
theorem dX7_sends_25 : decode cX7_sends 25 = .ok (.invokevirtual 338, 3) := by decide +kernel
theorem dX7_sends_28 : decode cX7_sends 28 = .ok (.iload_n 2, 1) := by decide +kernel
theorem dX7_sends_29 : decode cX7_sends 29 = .ok (.aload_n 0, 1) := by decide +kernel
theorem dX7_sends_30 : decode cX7_sends 30 = .ok (.getfield 330, 3) := by decide +kernel
theorem dX7_sends_33 : decode cX7_sends 33 = .ok (.if_icmp .ge 12, 3) := by decide +kernel
theorem dX7_sends_36 : decode cX7_sends 36 = .ok (.aload_n 0, 1) := by decide +kernel
theorem dX7_sends_37 : decode cX7_sends 37 = .ok (.getfield 45, 3) := by decide +kernel
theorem dX7_sends_40 : decode cX7_sends 40 = .ok (.iload_n 2, 1) := by decide +kernel
theorem dX7_sends_41 : decode cX7_sends 41 = .ok (.iaload, 1) := by decide +kernel
theorem dX7_sends_42 : decode cX7_sends 42 = .ok (.goto 4, 3) := by decide +kernel
theorem dX7_sends_45 : decode cX7_sends 45 = .ok (.iconst (-1), 1) := by decide +kernel
theorem dX7_sends_46 : decode cX7_sends 46 = .ok (.ireturn, 1) := by decide +kernel
theorem dX7_draw_0 : decode cX7_draw 0 = .ok (.aload_n 0, 1) := by decide +kernel
theorem dX7_draw_1 : decode cX7_draw 1 = .ok (.getfield 7, 3) := by decide +kernel
theorem dX7_draw_4 : decode cX7_draw 4 = .ok (.bipush 6, 2) := by decide +kernel
theorem dX7_draw_6 : decode cX7_draw 6 = .ok (.ldc2_w 341, 3) := by decide +kernel
theorem dX7_draw_9 : decode cX7_draw 9 = .ok (.aload_n 0, 1) := by decide +kernel
theorem dX7_draw_10 : decode cX7_draw 10 = .ok (.getfield 7, 3) := by decide +kernel
theorem dX7_draw_13 : decode cX7_draw 13 = .ok (.bipush 6, 2) := by decide +kernel
theorem dX7_draw_15 : decode cX7_draw 15 = .ok (.iaload, 1) := by decide +kernel
theorem dX7_draw_16 : decode cX7_draw 16 = .ok (.i2l, 1) := by decide +kernel
theorem dX7_draw_17 : decode cX7_draw 17 = .ok (.lmul, 1) := by decide +kernel
theorem dX7_draw_18 : decode cX7_draw 18 = .ok (.ldc2_w 343, 3) := by decide +kernel
theorem dX7_draw_21 : decode cX7_draw 21 = .ok (.ladd, 1) := by decide +kernel
theorem dX7_draw_22 : decode cX7_draw 22 = .ok (.ldc2_w 345, 3) := by decide +kernel
theorem dX7_draw_25 : decode cX7_draw 25 = .ok (.lrem, 1) := by decide +kernel
theorem dX7_draw_26 : decode cX7_draw 26 = .ok (.l2i, 1) := by decide +kernel
theorem dX7_draw_27 : decode cX7_draw 27 = .ok (.iastore, 1) := by decide +kernel
theorem dX7_draw_28 : decode cX7_draw 28 = .ok (.aload_n 0, 1) := by decide +kernel
theorem dX7_draw_29 : decode cX7_draw 29 = .ok (.getfield 7, 3) := by decide +kernel
theorem dX7_draw_32 : decode cX7_draw 32 = .ok (.bipush 6, 2) := by decide +kernel
theorem dX7_draw_34 : decode cX7_draw 34 = .ok (.iaload, 1) := by decide +kernel
theorem dX7_draw_35 : decode cX7_draw 35 = .ok (.bipush 100, 2) := by decide +kernel
theorem dX7_draw_37 : decode cX7_draw 37 = .ok (.irem, 1) := by decide +kernel
theorem dX7_draw_38 : decode cX7_draw 38 = .ok (.ireturn, 1) := by decide +kernel
theorem dX7_add_0 : decode cX7_add 0 = .ok (.aload_n 0, 1) := by decide +kernel
theorem dX7_add_1 : decode cX7_add 1 = .ok (.getfield 7, 3) := by decide +kernel
theorem dX7_add_4 : decode cX7_add 4 = .ok (.iload_n 1, 1) := by decide +kernel
theorem dX7_add_5 : decode cX7_add 5 = .ok (.dup2, 1) := by decide +kernel
theorem dX7_add_6 : decode cX7_add 6 = .ok (.iaload, 1) := by decide +kernel
theorem dX7_add_7 : decode cX7_add 7 = .ok (.iconst 1, 1) := by decide +kernel
theorem dX7_add_8 : decode cX7_add 8 = .ok (.iadd, 1) := by decide +kernel
theorem dX7_add_9 : decode cX7_add 9 = .ok (.iastore, 1) := by decide +kernel
theorem dX7_add_10 : decode cX7_add 10 = .ok (.return_, 1) := by decide +kernel
theorem dX7_tryAgain_0 : decode cX7_tryAgain 0 = .ok (.iload_n 1, 1) := by decide +kernel
theorem dX7_tryAgain_1 : decode cX7_tryAgain 1 = .ok (.iload_n 2, 1) := by decide +kernel
theorem dX7_tryAgain_2 : decode cX7_tryAgain 2 = .ok (.invokestatic 61, 3) := by decide +kernel
theorem dX7_tryAgain_5 : decode cX7_tryAgain 5 = .ok (.istore 4, 2) := by decide +kernel
theorem dX7_tryAgain_7 : decode cX7_tryAgain 7 = .ok (.aload_n 0, 1) := by decide +kernel
theorem dX7_tryAgain_8 : decode cX7_tryAgain 8 = .ok (.getfield 7, 3) := by decide +kernel
theorem dX7_tryAgain_11 : decode cX7_tryAgain 11 = .ok (.iload 4, 2) := by decide +kernel
theorem dX7_tryAgain_13 : decode cX7_tryAgain 13 = .ok (.iconst 1, 1) := by decide +kernel
theorem dX7_tryAgain_14 : decode cX7_tryAgain 14 = .ok (.iadd, 1) := by decide +kernel
theorem dX7_tryAgain_15 : decode cX7_tryAgain 15 = .ok (.dup2, 1) := by decide +kernel
theorem dX7_tryAgain_16 : decode cX7_tryAgain 16 = .ok (.iaload, 1) := by decide +kernel
theorem dX7_tryAgain_17 : decode cX7_tryAgain 17 = .ok (.iconst 1, 1) := by decide +kernel
theorem dX7_tryAgain_18 : decode cX7_tryAgain 18 = .ok (.iadd, 1) := by decide +kernel
theorem dX7_tryAgain_19 : decode cX7_tryAgain 19 = .ok (.iastore, 1) := by decide +kernel
theorem dX7_tryAgain_20 : decode cX7_tryAgain 20 = .ok (.aload_n 0, 1) := by decide +kernel
theorem dX7_tryAgain_21 : decode cX7_tryAgain 21 = .ok (.getfield 7, 3) := by decide +kernel
theorem dX7_tryAgain_24 : decode cX7_tryAgain 24 = .ok (.iload 4, 2) := by decide +kernel
theorem dX7_tryAgain_26 : decode cX7_tryAgain 26 = .ok (.iconst 1, 1) := by decide +kernel
theorem dX7_tryAgain_27 : decode cX7_tryAgain 27 = .ok (.iadd, 1) := by decide +kernel
theorem dX7_tryAgain_28 : decode cX7_tryAgain 28 = .ok (.iaload, 1) := by decide +kernel
theorem dX7_tryAgain_29 : decode cX7_tryAgain 29 = .ok (.aload_n 0, 1) := by decide +kernel
theorem dX7_tryAgain_30 : decode cX7_tryAgain 30 = .ok (.getfield 7, 3) := by decide +kernel
theorem dX7_tryAgain_33 : decode cX7_tryAgain 33 = .ok (.iconst 5, 1) := by decide +kernel
theorem dX7_tryAgain_34 : decode cX7_tryAgain 34 = .ok (.iaload, 1) := by decide +kernel
theorem dX7_tryAgain_35 : decode cX7_tryAgain 35 = .ok (.if_icmp .lt 13, 3) := by decide +kernel
theorem dX7_tryAgain_38 : decode cX7_tryAgain 38 = .ok (.aload_n 0, 1) := by decide +kernel
theorem dX7_tryAgain_39 : decode cX7_tryAgain 39 = .ok (.iload_n 1, 1) := by decide +kernel
theorem dX7_tryAgain_40 : decode cX7_tryAgain 40 = .ok (.iload_n 2, 1) := by decide +kernel
theorem dX7_tryAgain_41 : decode cX7_tryAgain 41 = .ok (.iconst 3, 1) := by decide +kernel
theorem dX7_tryAgain_42 : decode cX7_tryAgain 42 = .ok (.bipush 6, 2) := by decide +kernel
theorem dX7_tryAgain_44 : decode cX7_tryAgain 44 = .ok (.iload_n 3, 1) := by decide +kernel
theorem dX7_tryAgain_45 : decode cX7_tryAgain 45 = .ok (.invokevirtual 320, 3) := by decide +kernel
theorem dX7_tryAgain_48 : decode cX7_tryAgain 48 = .ok (.return_, 1) := by decide +kernel
theorem dX7_get_0 : decode cX7_get 0 = .ok (.aload_n 0, 1) := by decide +kernel
theorem dX7_get_1 : decode cX7_get 1 = .ok (.bipush 8, 2) := by decide +kernel
theorem dX7_get_3 : decode cX7_get 3 = .ok (.bipush 7, 2) := by decide +kernel
theorem dX7_get_5 : decode cX7_get 5 = .ok (.iload_n 3, 1) := by decide +kernel
theorem dX7_get_6 : decode cX7_get 6 = .ok (.imul, 1) := by decide +kernel
theorem dX7_get_7 : decode cX7_get 7 = .ok (.iadd, 1) := by decide +kernel
theorem dX7_get_8 : decode cX7_get 8 = .ok (.iconst 4, 1) := by decide +kernel
theorem dX7_get_9 : decode cX7_get 9 = .ok (.iadd, 1) := by decide +kernel
theorem dX7_get_10 : decode cX7_get 10 = .ok (.invokevirtual 347, 3) := by decide +kernel
theorem dX7_get_13 : decode cX7_get 13 = .ok (.aload_n 0, 1) := by decide +kernel
theorem dX7_get_14 : decode cX7_get 14 = .ok (.iload_n 1, 1) := by decide +kernel
theorem dX7_get_15 : decode cX7_get 15 = .ok (.iload_n 3, 1) := by decide +kernel
theorem dX7_get_16 : decode cX7_get 16 = .ok (.iconst 0, 1) := by decide +kernel
theorem dX7_get_17 : decode cX7_get 17 = .ok (.invokevirtual 215, 3) := by decide +kernel
theorem dX7_get_20 : decode cX7_get 20 = .ok (.ifCond .eq 39, 3) := by decide +kernel
theorem dX7_get_23 : decode cX7_get 23 = .ok (.aload_n 0, 1) := by decide +kernel
theorem dX7_get_24 : decode cX7_get 24 = .ok (.bipush 8, 2) := by decide +kernel
theorem dX7_get_26 : decode cX7_get 26 = .ok (.bipush 7, 2) := by decide +kernel
theorem dX7_get_28 : decode cX7_get 28 = .ok (.iload_n 3, 1) := by decide +kernel
theorem dX7_get_29 : decode cX7_get 29 = .ok (.imul, 1) := by decide +kernel
theorem dX7_get_30 : decode cX7_get 30 = .ok (.iadd, 1) := by decide +kernel
theorem dX7_get_31 : decode cX7_get 31 = .ok (.iconst 5, 1) := by decide +kernel
theorem dX7_get_32 : decode cX7_get 32 = .ok (.iadd, 1) := by decide +kernel
theorem dX7_get_33 : decode cX7_get 33 = .ok (.invokevirtual 347, 3) := by decide +kernel
theorem dX7_get_36 : decode cX7_get 36 = .ok (.aload_n 0, 1) := by decide +kernel
theorem dX7_get_37 : decode cX7_get 37 = .ok (.sipush 192, 3) := by decide +kernel
theorem dX7_get_40 : decode cX7_get 40 = .ok (.bipush 8, 2) := by decide +kernel
theorem dX7_get_42 : decode cX7_get 42 = .ok (.iload_n 1, 1) := by decide +kernel
theorem dX7_get_43 : decode cX7_get 43 = .ok (.imul, 1) := by decide +kernel
theorem dX7_get_44 : decode cX7_get 44 = .ok (.iadd, 1) := by decide +kernel
theorem dX7_get_45 : decode cX7_get 45 = .ok (.iconst 5, 1) := by decide +kernel
theorem dX7_get_46 : decode cX7_get 46 = .ok (.iadd, 1) := by decide +kernel
theorem dX7_get_47 : decode cX7_get 47 = .ok (.invokevirtual 347, 3) := by decide +kernel
theorem dX7_get_50 : decode cX7_get 50 = .ok (.aload_n 0, 1) := by decide +kernel
theorem dX7_get_51 : decode cX7_get 51 = .ok (.iconst 4, 1) := by decide +kernel
theorem dX7_get_52 : decode cX7_get 52 = .ok (.iload_n 1, 1) := by decide +kernel
theorem dX7_get_53 : decode cX7_get 53 = .ok (.iload_n 3, 1) := by decide +kernel
theorem dX7_get_54 : decode cX7_get 54 = .ok (.iload_n 2, 1) := by decide +kernel
theorem dX7_get_55 : decode cX7_get 55 = .ok (.invokevirtual 314, 3) := by decide +kernel
theorem dX7_get_58 : decode cX7_get 58 = .ok (.return_, 1) := by decide +kernel
theorem dX7_get_59 : decode cX7_get 59 = .ok (.aload_n 0, 1) := by decide +kernel
theorem dX7_get_60 : decode cX7_get 60 = .ok (.iload_n 1, 1) := by decide +kernel
theorem dX7_get_61 : decode cX7_get 61 = .ok (.iconst 1, 1) := by decide +kernel
theorem dX7_get_62 : decode cX7_get 62 = .ok (.invokevirtual 267, 3) := by decide +kernel
theorem dX7_get_65 : decode cX7_get 65 = .ok (.iload_n 3, 1) := by decide +kernel
theorem dX7_get_66 : decode cX7_get 66 = .ok (.if_icmp .ne 7, 3) := by decide +kernel
theorem dX7_get_69 : decode cX7_get 69 = .ok (.iconst 1, 1) := by decide +kernel
theorem dX7_get_70 : decode cX7_get 70 = .ok (.goto 4, 3) := by decide +kernel
theorem dX7_get_73 : decode cX7_get 73 = .ok (.iconst 0, 1) := by decide +kernel
theorem dX7_get_74 : decode cX7_get 74 = .ok (.istore 4, 2) := by decide +kernel
theorem dX7_get_76 : decode cX7_get 76 = .ok (.aload_n 0, 1) := by decide +kernel
theorem dX7_get_77 : decode cX7_get 77 = .ok (.iload_n 1, 1) := by decide +kernel
theorem dX7_get_78 : decode cX7_get 78 = .ok (.iload_n 3, 1) := by decide +kernel
theorem dX7_get_79 : decode cX7_get 79 = .ok (.iload 4, 2) := by decide +kernel
theorem dX7_get_81 : decode cX7_get 81 = .ok (.ifCond .eq 7, 3) := by decide +kernel
theorem dX7_get_84 : decode cX7_get 84 = .ok (.iconst 5, 1) := by decide +kernel
theorem dX7_get_85 : decode cX7_get 85 = .ok (.goto 4, 3) := by decide +kernel
theorem dX7_get_88 : decode cX7_get 88 = .ok (.iconst 1, 1) := by decide +kernel
theorem dX7_get_89 : decode cX7_get 89 = .ok (.aload_n 0, 1) := by decide +kernel
theorem dX7_get_90 : decode cX7_get 90 = .ok (.getfield 7, 3) := by decide +kernel
theorem dX7_get_93 : decode cX7_get 93 = .ok (.iconst 3, 1) := by decide +kernel
theorem dX7_get_94 : decode cX7_get 94 = .ok (.iaload, 1) := by decide +kernel
theorem dX7_get_95 : decode cX7_get 95 = .ok (.iconst 1, 1) := by decide +kernel
theorem dX7_get_96 : decode cX7_get 96 = .ok (.iadd, 1) := by decide +kernel
theorem dX7_get_97 : decode cX7_get 97 = .ok (.invokevirtual 307, 3) := by decide +kernel
theorem dX7_get_100 : decode cX7_get 100 = .ok (.iconst 0, 1) := by decide +kernel
theorem dX7_get_101 : decode cX7_get 101 = .ok (.istore 5, 2) := by decide +kernel
theorem dX7_get_103 : decode cX7_get 103 = .ok (.iload 5, 2) := by decide +kernel
theorem dX7_get_105 : decode cX7_get 105 = .ok (.aload_n 0, 1) := by decide +kernel
theorem dX7_get_106 : decode cX7_get 106 = .ok (.iload_n 1, 1) := by decide +kernel
theorem dX7_get_107 : decode cX7_get 107 = .ok (.iload_n 2, 1) := by decide +kernel
theorem dX7_get_108 : decode cX7_get 108 = .ok (.iconst 3, 1) := by decide +kernel
theorem dX7_get_109 : decode cX7_get 109 = .ok (.invokevirtual 215, 3) := by decide +kernel
theorem dX7_get_112 : decode cX7_get 112 = .ok (.if_icmp .ge 25, 3) := by decide +kernel
theorem dX7_get_115 : decode cX7_get 115 = .ok (.aload_n 0, 1) := by decide +kernel
theorem dX7_get_116 : decode cX7_get 116 = .ok (.iload_n 1, 1) := by decide +kernel
theorem dX7_get_117 : decode cX7_get 117 = .ok (.iload_n 3, 1) := by decide +kernel
theorem dX7_get_118 : decode cX7_get 118 = .ok (.aload_n 0, 1) := by decide +kernel
theorem dX7_get_119 : decode cX7_get 119 = .ok (.iload_n 1, 1) := by decide +kernel
theorem dX7_get_120 : decode cX7_get 120 = .ok (.iload_n 2, 1) := by decide +kernel
theorem dX7_get_121 : decode cX7_get 121 = .ok (.iconst 4, 1) := by decide +kernel
theorem dX7_get_122 : decode cX7_get 122 = .ok (.iload 5, 2) := by decide +kernel
theorem dX7_get_124 : decode cX7_get 124 = .ok (.iadd, 1) := by decide +kernel
theorem dX7_get_125 : decode cX7_get 125 = .ok (.invokevirtual 215, 3) := by decide +kernel
theorem dX7_get_128 : decode cX7_get 128 = .ok (.invokevirtual 311, 3) := by decide +kernel
theorem dX7_get_131 : decode cX7_get 131 = .ok (.iinc 5 1, 3) := by decide +kernel
theorem dX7_get_134 : decode cX7_get 134 = .ok (.goto (-31), 3) := by decide +kernel
theorem dX7_get_137 : decode cX7_get 137 = .ok (.aload_n 0, 1) := by decide +kernel
theorem dX7_get_138 : decode cX7_get 138 = .ok (.iload_n 1, 1) := by decide +kernel
theorem dX7_get_139 : decode cX7_get 139 = .ok (.iload_n 3, 1) := by decide +kernel
theorem dX7_get_140 : decode cX7_get 140 = .ok (.iload_n 3, 1) := by decide +kernel
theorem dX7_get_141 : decode cX7_get 141 = .ok (.invokevirtual 311, 3) := by decide +kernel
theorem dX7_get_144 : decode cX7_get 144 = .ok (.iload 4, 2) := by decide +kernel
theorem dX7_get_146 : decode cX7_get 146 = .ok (.ifCond .eq 25, 3) := by decide +kernel
theorem dX7_get_149 : decode cX7_get 149 = .ok (.aload_n 0, 1) := by decide +kernel
theorem dX7_get_150 : decode cX7_get 150 = .ok (.bipush 8, 2) := by decide +kernel
theorem dX7_get_152 : decode cX7_get 152 = .ok (.bipush 7, 2) := by decide +kernel
theorem dX7_get_154 : decode cX7_get 154 = .ok (.iload_n 3, 1) := by decide +kernel
theorem dX7_get_155 : decode cX7_get 155 = .ok (.imul, 1) := by decide +kernel
theorem dX7_get_156 : decode cX7_get 156 = .ok (.iadd, 1) := by decide +kernel
theorem dX7_get_157 : decode cX7_get 157 = .ok (.bipush 6, 2) := by decide +kernel
theorem dX7_get_159 : decode cX7_get 159 = .ok (.iadd, 1) := by decide +kernel
theorem dX7_get_160 : decode cX7_get 160 = .ok (.invokevirtual 347, 3) := by decide +kernel
theorem dX7_get_163 : decode cX7_get 163 = .ok (.aload_n 0, 1) := by decide +kernel
theorem dX7_get_164 : decode cX7_get 164 = .ok (.iconst 5, 1) := by decide +kernel
theorem dX7_get_165 : decode cX7_get 165 = .ok (.iload_n 1, 1) := by decide +kernel
theorem dX7_get_166 : decode cX7_get 166 = .ok (.iload_n 3, 1) := by decide +kernel
theorem dX7_get_167 : decode cX7_get 167 = .ok (.iload_n 2, 1) := by decide +kernel
theorem dX7_get_168 : decode cX7_get 168 = .ok (.invokevirtual 314, 3) := by decide +kernel
theorem dX7_get_171 : decode cX7_get 171 = .ok (.return_, 1) := by decide +kernel
theorem dX7_sendFrame_0 : decode cX7_sendFrame 0 = .ok (.aload_n 0, 1) := by decide +kernel
theorem dX7_sendFrame_1 : decode cX7_sendFrame 1 = .ok (.iload_n 2, 1) := by decide +kernel
theorem dX7_sendFrame_2 : decode cX7_sendFrame 2 = .ok (.iload_n 3, 1) := by decide +kernel
theorem dX7_sendFrame_3 : decode cX7_sendFrame 3 = .ok (.invokevirtual 148, 3) := by decide +kernel
theorem dX7_sendFrame_6 : decode cX7_sendFrame 6 = .ok (.istore 4, 2) := by decide +kernel
theorem dX7_sendFrame_8 : decode cX7_sendFrame 8 = .ok (.bipush 64, 2) := by decide +kernel
theorem dX7_sendFrame_10 : decode cX7_sendFrame 10 = .ok (.bipush 8, 2) := by decide +kernel
theorem dX7_sendFrame_12 : decode cX7_sendFrame 12 = .ok (.iload 4, 2) := by decide +kernel
theorem dX7_sendFrame_14 : decode cX7_sendFrame 14 = .ok (.imul, 1) := by decide +kernel
theorem dX7_sendFrame_15 : decode cX7_sendFrame 15 = .ok (.iadd, 1) := by decide +kernel
theorem dX7_sendFrame_16 : decode cX7_sendFrame 16 = .ok (.istore 5, 2) := by decide +kernel
theorem dX7_sendFrame_18 : decode cX7_sendFrame 18 = .ok (.aload_n 0, 1) := by decide +kernel
theorem dX7_sendFrame_19 : decode cX7_sendFrame 19 = .ok (.bipush 8, 2) := by decide +kernel
theorem dX7_sendFrame_21 : decode cX7_sendFrame 21 = .ok (.bipush 7, 2) := by decide +kernel
theorem dX7_sendFrame_23 : decode cX7_sendFrame 23 = .ok (.iload_n 2, 1) := by decide +kernel
theorem dX7_sendFrame_24 : decode cX7_sendFrame 24 = .ok (.imul, 1) := by decide +kernel
theorem dX7_sendFrame_25 : decode cX7_sendFrame 25 = .ok (.iadd, 1) := by decide +kernel
theorem dX7_sendFrame_26 : decode cX7_sendFrame 26 = .ok (.iconst 3, 1) := by decide +kernel
theorem dX7_sendFrame_27 : decode cX7_sendFrame 27 = .ok (.iadd, 1) := by decide +kernel
theorem dX7_sendFrame_28 : decode cX7_sendFrame 28 = .ok (.invokevirtual 347, 3) := by decide +kernel
theorem dX7_sendFrame_31 : decode cX7_sendFrame 31 = .ok (.aload_n 0, 1) := by decide +kernel
theorem dX7_sendFrame_32 : decode cX7_sendFrame 32 = .ok (.sipush 192, 3) := by decide +kernel
theorem dX7_sendFrame_35 : decode cX7_sendFrame 35 = .ok (.bipush 8, 2) := by decide +kernel
theorem dX7_sendFrame_37 : decode cX7_sendFrame 37 = .ok (.iload_n 1, 1) := by decide +kernel
theorem dX7_sendFrame_38 : decode cX7_sendFrame 38 = .ok (.imul, 1) := by decide +kernel
theorem dX7_sendFrame_39 : decode cX7_sendFrame 39 = .ok (.iadd, 1) := by decide +kernel
theorem dX7_sendFrame_40 : decode cX7_sendFrame 40 = .ok (.iconst 4, 1) := by decide +kernel
theorem dX7_sendFrame_41 : decode cX7_sendFrame 41 = .ok (.iadd, 1) := by decide +kernel
theorem dX7_sendFrame_42 : decode cX7_sendFrame 42 = .ok (.invokevirtual 347, 3) := by decide +kernel
theorem dX7_sendFrame_45 : decode cX7_sendFrame 45 = .ok (.aload_n 0, 1) := by decide +kernel
theorem dX7_sendFrame_46 : decode cX7_sendFrame 46 = .ok (.iload 5, 2) := by decide +kernel
theorem dX7_sendFrame_48 : decode cX7_sendFrame 48 = .ok (.iconst 5, 1) := by decide +kernel
theorem dX7_sendFrame_49 : decode cX7_sendFrame 49 = .ok (.iadd, 1) := by decide +kernel
theorem dX7_sendFrame_50 : decode cX7_sendFrame 50 = .ok (.invokevirtual 347, 3) := by decide +kernel
theorem dX7_sendFrame_53 : decode cX7_sendFrame 53 = .ok (.aload_n 0, 1) := by decide +kernel
theorem dX7_sendFrame_54 : decode cX7_sendFrame 54 = .ok (.invokevirtual 350, 3) := by decide +kernel
theorem dX7_sendFrame_57 : decode cX7_sendFrame 57 = .ok (.aload_n 0, 1) := by decide +kernel
theorem dX7_sendFrame_58 : decode cX7_sendFrame 58 = .ok (.iload 4, 2) := by decide +kernel
theorem dX7_sendFrame_60 : decode cX7_sendFrame 60 = .ok (.iconst 4, 1) := by decide +kernel
theorem dX7_sendFrame_61 : decode cX7_sendFrame 61 = .ok (.invokevirtual 193, 3) := by decide +kernel
theorem dX7_sendFrame_64 : decode cX7_sendFrame 64 = .ok (.if_icmp .lt 28, 3) := by decide +kernel
theorem dX7_sendFrame_67 : decode cX7_sendFrame 67 = .ok (.aload_n 0, 1) := by decide +kernel
theorem dX7_sendFrame_68 : decode cX7_sendFrame 68 = .ok (.iload 5, 2) := by decide +kernel
theorem dX7_sendFrame_70 : decode cX7_sendFrame 70 = .ok (.bipush 6, 2) := by decide +kernel
theorem dX7_sendFrame_72 : decode cX7_sendFrame 72 = .ok (.iadd, 1) := by decide +kernel
theorem dX7_sendFrame_73 : decode cX7_sendFrame 73 = .ok (.invokevirtual 347, 3) := by decide +kernel
theorem dX7_sendFrame_76 : decode cX7_sendFrame 76 = .ok (.aload_n 0, 1) := by decide +kernel
theorem dX7_sendFrame_77 : decode cX7_sendFrame 77 = .ok (.iconst 2, 1) := by decide +kernel
theorem dX7_sendFrame_78 : decode cX7_sendFrame 78 = .ok (.iload_n 1, 1) := by decide +kernel
theorem dX7_sendFrame_79 : decode cX7_sendFrame 79 = .ok (.iload_n 2, 1) := by decide +kernel
theorem dX7_sendFrame_80 : decode cX7_sendFrame 80 = .ok (.iload_n 3, 1) := by decide +kernel
theorem dX7_sendFrame_81 : decode cX7_sendFrame 81 = .ok (.invokevirtual 314, 3) := by decide +kernel
theorem dX7_sendFrame_84 : decode cX7_sendFrame 84 = .ok (.aload_n 0, 1) := by decide +kernel
theorem dX7_sendFrame_85 : decode cX7_sendFrame 85 = .ok (.iload_n 1, 1) := by decide +kernel
theorem dX7_sendFrame_86 : decode cX7_sendFrame 86 = .ok (.iload_n 2, 1) := by decide +kernel
theorem dX7_sendFrame_87 : decode cX7_sendFrame 87 = .ok (.iload_n 3, 1) := by decide +kernel
theorem dX7_sendFrame_88 : decode cX7_sendFrame 88 = .ok (.invokevirtual 353, 3) := by decide +kernel
theorem dX7_sendFrame_91 : decode cX7_sendFrame 91 = .ok (.return_, 1) := by decide +kernel
theorem dX7_sendFrame_92 : decode cX7_sendFrame 92 = .ok (.aload_n 0, 1) := by decide +kernel
theorem dX7_sendFrame_93 : decode cX7_sendFrame 93 = .ok (.iload_n 1, 1) := by decide +kernel
theorem dX7_sendFrame_94 : decode cX7_sendFrame 94 = .ok (.iload_n 2, 1) := by decide +kernel
theorem dX7_sendFrame_95 : decode cX7_sendFrame 95 = .ok (.iload_n 3, 1) := by decide +kernel
theorem dX7_sendFrame_96 : decode cX7_sendFrame 96 = .ok (.invokevirtual 356, 3) := by decide +kernel
theorem dX7_sendFrame_99 : decode cX7_sendFrame 99 = .ok (.aload_n 0, 1) := by decide +kernel
theorem dX7_sendFrame_100 : decode cX7_sendFrame 100 = .ok (.invokevirtual 350, 3) := by decide +kernel
theorem dX7_sendFrame_103 : decode cX7_sendFrame 103 = .ok (.aload_n 0, 1) := by decide +kernel
theorem dX7_sendFrame_104 : decode cX7_sendFrame 104 = .ok (.iload 4, 2) := by decide +kernel
theorem dX7_sendFrame_106 : decode cX7_sendFrame 106 = .ok (.iconst 4, 1) := by decide +kernel
theorem dX7_sendFrame_107 : decode cX7_sendFrame 107 = .ok (.invokevirtual 193, 3) := by decide +kernel
theorem dX7_sendFrame_110 : decode cX7_sendFrame 110 = .ok (.if_icmp .ge 25, 3) := by decide +kernel
theorem dX7_sendFrame_113 : decode cX7_sendFrame 113 = .ok (.aload_n 0, 1) := by decide +kernel
theorem dX7_sendFrame_114 : decode cX7_sendFrame 114 = .ok (.getfield 7, 3) := by decide +kernel
theorem dX7_sendFrame_117 : decode cX7_sendFrame 117 = .ok (.iload_n 1, 1) := by decide +kernel
theorem dX7_sendFrame_118 : decode cX7_sendFrame 118 = .ok (.iload_n 2, 1) := by decide +kernel
theorem dX7_sendFrame_119 : decode cX7_sendFrame 119 = .ok (.invokestatic 61, 3) := by decide +kernel
theorem dX7_sendFrame_122 : decode cX7_sendFrame 122 = .ok (.iconst 0, 1) := by decide +kernel
theorem dX7_sendFrame_123 : decode cX7_sendFrame 123 = .ok (.iadd, 1) := by decide +kernel
theorem dX7_sendFrame_124 : decode cX7_sendFrame 124 = .ok (.iconst 2, 1) := by decide +kernel
theorem dX7_sendFrame_125 : decode cX7_sendFrame 125 = .ok (.iastore, 1) := by decide +kernel
theorem dX7_sendFrame_126 : decode cX7_sendFrame 126 = .ok (.aload_n 0, 1) := by decide +kernel
theorem dX7_sendFrame_127 : decode cX7_sendFrame 127 = .ok (.iconst 1, 1) := by decide +kernel
theorem dX7_sendFrame_128 : decode cX7_sendFrame 128 = .ok (.iload_n 1, 1) := by decide +kernel
theorem dX7_sendFrame_129 : decode cX7_sendFrame 129 = .ok (.iload_n 2, 1) := by decide +kernel
theorem dX7_sendFrame_130 : decode cX7_sendFrame 130 = .ok (.iload_n 3, 1) := by decide +kernel
theorem dX7_sendFrame_131 : decode cX7_sendFrame 131 = .ok (.invokevirtual 314, 3) := by decide +kernel
theorem dX7_sendFrame_134 : decode cX7_sendFrame 134 = .ok (.return_, 1) := by decide +kernel
theorem dX7_sendFrame_135 : decode cX7_sendFrame 135 = .ok (.aload_n 0, 1) := by decide +kernel
theorem dX7_sendFrame_136 : decode cX7_sendFrame 136 = .ok (.iload 5, 2) := by decide +kernel
theorem dX7_sendFrame_138 : decode cX7_sendFrame 138 = .ok (.bipush 7, 2) := by decide +kernel
theorem dX7_sendFrame_140 : decode cX7_sendFrame 140 = .ok (.iadd, 1) := by decide +kernel
theorem dX7_sendFrame_141 : decode cX7_sendFrame 141 = .ok (.invokevirtual 347, 3) := by decide +kernel
theorem dX7_sendFrame_144 : decode cX7_sendFrame 144 = .ok (.aload_n 0, 1) := by decide +kernel
theorem dX7_sendFrame_145 : decode cX7_sendFrame 145 = .ok (.iconst 3, 1) := by decide +kernel
theorem dX7_sendFrame_146 : decode cX7_sendFrame 146 = .ok (.iload_n 1, 1) := by decide +kernel
theorem dX7_sendFrame_147 : decode cX7_sendFrame 147 = .ok (.iload_n 2, 1) := by decide +kernel
theorem dX7_sendFrame_148 : decode cX7_sendFrame 148 = .ok (.iload_n 3, 1) := by decide +kernel
theorem dX7_sendFrame_149 : decode cX7_sendFrame 149 = .ok (.invokevirtual 314, 3) := by decide +kernel
theorem dX7_sendFrame_152 : decode cX7_sendFrame 152 = .ok (.aload_n 0, 1) := by decide +kernel
theorem dX7_sendFrame_153 : decode cX7_sendFrame 153 = .ok (.iload_n 1, 1) := by decide +kernel
theorem dX7_sendFrame_154 : decode cX7_sendFrame 154 = .ok (.iload_n 2, 1) := by decide +kernel
theorem dX7_sendFrame_155 : decode cX7_sendFrame 155 = .ok (.iload_n 3, 1) := by decide +kernel
theorem dX7_sendFrame_156 : decode cX7_sendFrame 156 = .ok (.invokevirtual 353, 3) := by decide +kernel
theorem dX7_sendFrame_159 : decode cX7_sendFrame 159 = .ok (.return_, 1) := by decide +kernel
theorem dX7_expire_0 : decode cX7_expire 0 = .ok (.iconst 0, 1) := by decide +kernel
theorem dX7_expire_1 : decode cX7_expire 1 = .ok (.istore_n 1, 1) := by decide +kernel
theorem dX7_expire_2 : decode cX7_expire 2 = .ok (.iload_n 1, 1) := by decide +kernel
theorem dX7_expire_3 : decode cX7_expire 3 = .ok (.aload_n 0, 1) := by decide +kernel
theorem dX7_expire_4 : decode cX7_expire 4 = .ok (.getfield 7, 3) := by decide +kernel
theorem dX7_expire_7 : decode cX7_expire 7 = .ok (.iconst 2, 1) := by decide +kernel
theorem dX7_expire_8 : decode cX7_expire 8 = .ok (.iaload, 1) := by decide +kernel
theorem dX7_expire_9 : decode cX7_expire 9 = .ok (.if_icmp .ge 80, 3) := by decide +kernel
theorem dX7_expire_12 : decode cX7_expire 12 = .ok (.aload_n 0, 1) := by decide +kernel
theorem dX7_expire_13 : decode cX7_expire 13 = .ok (.getfield 7, 3) := by decide +kernel
theorem dX7_expire_16 : decode cX7_expire 16 = .ok (.iconst 3, 1) := by decide +kernel
theorem dX7_expire_17 : decode cX7_expire 17 = .ok (.iaload, 1) := by decide +kernel
theorem dX7_expire_18 : decode cX7_expire 18 = .ok (.aload_n 0, 1) := by decide +kernel
theorem dX7_expire_19 : decode cX7_expire 19 = .ok (.iload_n 1, 1) := by decide +kernel
theorem dX7_expire_20 : decode cX7_expire 20 = .ok (.iconst 3, 1) := by decide +kernel
theorem dX7_expire_21 : decode cX7_expire 21 = .ok (.invokevirtual 267, 3) := by decide +kernel
theorem dX7_expire_24 : decode cX7_expire 24 = .ok (.isub, 1) := by decide +kernel
theorem dX7_expire_25 : decode cX7_expire 25 = .ok (.aload_n 0, 1) := by decide +kernel
theorem dX7_expire_26 : decode cX7_expire 26 = .ok (.getfield 7, 3) := by decide +kernel
theorem dX7_expire_29 : decode cX7_expire 29 = .ok (.iconst 4, 1) := by decide +kernel
theorem dX7_expire_30 : decode cX7_expire 30 = .ok (.iaload, 1) := by decide +kernel
theorem dX7_expire_31 : decode cX7_expire 31 = .ok (.if_icmp .lt 7, 3) := by decide +kernel
theorem dX7_expire_34 : decode cX7_expire 34 = .ok (.iconst 1, 1) := by decide +kernel
theorem dX7_expire_35 : decode cX7_expire 35 = .ok (.goto 4, 3) := by decide +kernel
theorem dX7_expire_38 : decode cX7_expire 38 = .ok (.iconst 0, 1) := by decide +kernel
theorem dX7_expire_39 : decode cX7_expire 39 = .ok (.istore_n 2, 1) := by decide +kernel
theorem dX7_expire_40 : decode cX7_expire 40 = .ok (.iconst 0, 1) := by decide +kernel
theorem dX7_expire_41 : decode cX7_expire 41 = .ok (.istore_n 3, 1) := by decide +kernel
theorem dX7_expire_42 : decode cX7_expire 42 = .ok (.iload_n 3, 1) := by decide +kernel
theorem dX7_expire_43 : decode cX7_expire 43 = .ok (.aload_n 0, 1) := by decide +kernel
theorem dX7_expire_44 : decode cX7_expire 44 = .ok (.getfield 7, 3) := by decide +kernel
theorem dX7_expire_47 : decode cX7_expire 47 = .ok (.iconst 0, 1) := by decide +kernel
theorem dX7_expire_48 : decode cX7_expire 48 = .ok (.iaload, 1) := by decide +kernel
theorem dX7_expire_49 : decode cX7_expire 49 = .ok (.if_icmp .ge 34, 3) := by decide +kernel
theorem dX7_expire_52 : decode cX7_expire 52 = .ok (.iload_n 2, 1) := by decide +kernel
theorem dX7_expire_53 : decode cX7_expire 53 = .ok (.ifCond .eq 30, 3) := by decide +kernel
theorem dX7_expire_56 : decode cX7_expire 56 = .ok (.aload_n 0, 1) := by decide +kernel
theorem dX7_expire_57 : decode cX7_expire 57 = .ok (.iload_n 1, 1) := by decide +kernel
theorem dX7_expire_58 : decode cX7_expire 58 = .ok (.iload_n 3, 1) := by decide +kernel
theorem dX7_expire_59 : decode cX7_expire 59 = .ok (.iconst 0, 1) := by decide +kernel
theorem dX7_expire_60 : decode cX7_expire 60 = .ok (.invokevirtual 215, 3) := by decide +kernel
theorem dX7_expire_63 : decode cX7_expire 63 = .ok (.iconst 1, 1) := by decide +kernel
theorem dX7_expire_64 : decode cX7_expire 64 = .ok (.if_icmp .ne 13, 3) := by decide +kernel
theorem dX7_expire_67 : decode cX7_expire 67 = .ok (.aload_n 0, 1) := by decide +kernel
theorem dX7_expire_68 : decode cX7_expire 68 = .ok (.iload_n 1, 1) := by decide +kernel
theorem dX7_expire_69 : decode cX7_expire 69 = .ok (.iload_n 3, 1) := by decide +kernel
theorem dX7_expire_70 : decode cX7_expire 70 = .ok (.iconst 4, 1) := by decide +kernel
theorem dX7_expire_71 : decode cX7_expire 71 = .ok (.bipush 7, 2) := by decide +kernel
theorem dX7_expire_73 : decode cX7_expire 73 = .ok (.iconst (-1), 1) := by decide +kernel
theorem dX7_expire_74 : decode cX7_expire 74 = .ok (.invokevirtual 320, 3) := by decide +kernel
theorem dX7_expire_77 : decode cX7_expire 77 = .ok (.iinc 3 1, 3) := by decide +kernel
theorem dX7_expire_80 : decode cX7_expire 80 = .ok (.goto (-38), 3) := by decide +kernel
theorem dX7_expire_83 : decode cX7_expire 83 = .ok (.iinc 1 1, 3) := by decide +kernel
theorem dX7_expire_86 : decode cX7_expire 86 = .ok (.goto (-84), 3) := by decide +kernel
theorem dX7_expire_89 : decode cX7_expire 89 = .ok (.return_, 1) := by decide +kernel
theorem dX7_passHour_0 : decode cX7_passHour 0 = .ok (.aload_n 0, 1) := by decide +kernel
theorem dX7_passHour_1 : decode cX7_passHour 1 = .ok (.invokevirtual 359, 3) := by decide +kernel
theorem dX7_passHour_4 : decode cX7_passHour 4 = .ok (.iconst 0, 1) := by decide +kernel
theorem dX7_passHour_5 : decode cX7_passHour 5 = .ok (.istore_n 1, 1) := by decide +kernel
theorem dX7_passHour_6 : decode cX7_passHour 6 = .ok (.iload_n 1, 1) := by decide +kernel
theorem dX7_passHour_7 : decode cX7_passHour 7 = .ok (.aload_n 0, 1) := by decide +kernel
theorem dX7_passHour_8 : decode cX7_passHour 8 = .ok (.getfield 7, 3) := by decide +kernel
theorem dX7_passHour_11 : decode cX7_passHour 11 = .ok (.iconst 0, 1) := by decide +kernel
theorem dX7_passHour_12 : decode cX7_passHour 12 = .ok (.iaload, 1) := by decide +kernel
theorem dX7_passHour_13 : decode cX7_passHour 13 = .ok (.if_icmp .ge 47, 3) := by decide +kernel
theorem dX7_passHour_16 : decode cX7_passHour 16 = .ok (.aload_n 0, 1) := by decide +kernel
theorem dX7_passHour_17 : decode cX7_passHour 17 = .ok (.iload_n 1, 1) := by decide +kernel
theorem dX7_passHour_18 : decode cX7_passHour 18 = .ok (.invokevirtual 338, 3) := by decide +kernel
theorem dX7_passHour_21 : decode cX7_passHour 21 = .ok (.iconst 0, 1) := by decide +kernel
theorem dX7_passHour_22 : decode cX7_passHour 22 = .ok (.istore_n 2, 1) := by decide +kernel
theorem dX7_passHour_23 : decode cX7_passHour 23 = .ok (.iload_n 2, 1) := by decide +kernel
theorem dX7_passHour_24 : decode cX7_passHour 24 = .ok (.aload_n 0, 1) := by decide +kernel
theorem dX7_passHour_25 : decode cX7_passHour 25 = .ok (.getfield 330, 3) := by decide +kernel
theorem dX7_passHour_28 : decode cX7_passHour 28 = .ok (.if_icmp .ge 26, 3) := by decide +kernel
theorem dX7_passHour_31 : decode cX7_passHour 31 = .ok (.aload_n 0, 1) := by decide +kernel
theorem dX7_passHour_32 : decode cX7_passHour 32 = .ok (.aload_n 0, 1) := by decide +kernel
theorem dX7_passHour_33 : decode cX7_passHour 33 = .ok (.getfield 45, 3) := by decide +kernel
theorem dX7_passHour_36 : decode cX7_passHour 36 = .ok (.iload_n 2, 1) := by decide +kernel
theorem dX7_passHour_37 : decode cX7_passHour 37 = .ok (.iaload, 1) := by decide +kernel
theorem dX7_passHour_38 : decode cX7_passHour 38 = .ok (.iload_n 1, 1) := by decide +kernel
theorem dX7_passHour_39 : decode cX7_passHour 39 = .ok (.aload_n 0, 1) := by decide +kernel
theorem dX7_passHour_40 : decode cX7_passHour 40 = .ok (.getfield 48, 3) := by decide +kernel
theorem dX7_passHour_43 : decode cX7_passHour 43 = .ok (.iload_n 2, 1) := by decide +kernel
theorem dX7_passHour_44 : decode cX7_passHour 44 = .ok (.iaload, 1) := by decide +kernel
theorem dX7_passHour_45 : decode cX7_passHour 45 = .ok (.invokevirtual 362, 3) := by decide +kernel
theorem dX7_passHour_48 : decode cX7_passHour 48 = .ok (.iinc 2 1, 3) := by decide +kernel
theorem dX7_passHour_51 : decode cX7_passHour 51 = .ok (.goto (-28), 3) := by decide +kernel
theorem dX7_passHour_54 : decode cX7_passHour 54 = .ok (.iinc 1 1, 3) := by decide +kernel
theorem dX7_passHour_57 : decode cX7_passHour 57 = .ok (.goto (-51), 3) := by decide +kernel
theorem dX7_passHour_60 : decode cX7_passHour 60 = .ok (.aload_n 0, 1) := by decide +kernel
theorem dX7_passHour_61 : decode cX7_passHour 61 = .ok (.getfield 7, 3) := by decide +kernel
theorem dX7_passHour_64 : decode cX7_passHour 64 = .ok (.iconst 3, 1) := by decide +kernel
theorem dX7_passHour_65 : decode cX7_passHour 65 = .ok (.dup2, 1) := by decide +kernel
theorem dX7_passHour_66 : decode cX7_passHour 66 = .ok (.iaload, 1) := by decide +kernel
theorem dX7_passHour_67 : decode cX7_passHour 67 = .ok (.iconst 1, 1) := by decide +kernel
theorem dX7_passHour_68 : decode cX7_passHour 68 = .ok (.iadd, 1) := by decide +kernel
theorem dX7_passHour_69 : decode cX7_passHour 69 = .ok (.iastore, 1) := by decide +kernel
theorem dX7_passHour_70 : decode cX7_passHour 70 = .ok (.return_, 1) := by decide +kernel
theorem dX7_run_0 : decode cX7_run 0 = .ok (.aload_n 0, 1) := by decide +kernel
theorem dX7_run_1 : decode cX7_run 1 = .ok (.iconst 0, 1) := by decide +kernel
theorem dX7_run_2 : decode cX7_run 2 = .ok (.putfield 54, 3) := by decide +kernel
theorem dX7_run_5 : decode cX7_run 5 = .ok (.iload_n 1, 1) := by decide +kernel
theorem dX7_run_6 : decode cX7_run 6 = .ok (.iconst 1, 1) := by decide +kernel
theorem dX7_run_7 : decode cX7_run 7 = .ok (.bipush 72, 2) := by decide +kernel
theorem dX7_run_9 : decode cX7_run 9 = .ok (.invokestatic 57, 3) := by decide +kernel
theorem dX7_run_12 : decode cX7_run 12 = .ok (.ifCond .ne 9, 3) := by decide +kernel
theorem dX7_run_15 : decode cX7_run 15 = .ok (.aload_n 0, 1) := by decide +kernel
theorem dX7_run_16 : decode cX7_run 16 = .ok (.iconst 1, 1) := by decide +kernel
theorem dX7_run_17 : decode cX7_run 17 = .ok (.invokevirtual 68, 3) := by decide +kernel
theorem dX7_run_20 : decode cX7_run 20 = .ok (.ireturn, 1) := by decide +kernel
theorem dX7_run_21 : decode cX7_run 21 = .ok (.aload_n 0, 1) := by decide +kernel
theorem dX7_run_22 : decode cX7_run 22 = .ok (.bipush 6, 2) := by decide +kernel
theorem dX7_run_24 : decode cX7_run 24 = .ok (.invokevirtual 239, 3) := by decide +kernel
theorem dX7_run_27 : decode cX7_run 27 = .ok (.istore_n 2, 1) := by decide +kernel
theorem dX7_run_28 : decode cX7_run 28 = .ok (.iconst 0, 1) := by decide +kernel
theorem dX7_run_29 : decode cX7_run 29 = .ok (.istore_n 3, 1) := by decide +kernel
theorem dX7_run_30 : decode cX7_run 30 = .ok (.iload_n 3, 1) := by decide +kernel
theorem dX7_run_31 : decode cX7_run 31 = .ok (.iload_n 1, 1) := by decide +kernel
theorem dX7_run_32 : decode cX7_run 32 = .ok (.if_icmp .ge 13, 3) := by decide +kernel
theorem dX7_run_35 : decode cX7_run 35 = .ok (.aload_n 0, 1) := by decide +kernel
theorem dX7_run_36 : decode cX7_run 36 = .ok (.invokevirtual 365, 3) := by decide +kernel
theorem dX7_run_39 : decode cX7_run 39 = .ok (.iinc 3 1, 3) := by decide +kernel
theorem dX7_run_42 : decode cX7_run 42 = .ok (.goto (-12), 3) := by decide +kernel
theorem dX7_run_45 : decode cX7_run 45 = .ok (.aload_n 0, 1) := by decide +kernel
theorem dX7_run_46 : decode cX7_run 46 = .ok (.bipush 6, 2) := by decide +kernel
theorem dX7_run_48 : decode cX7_run 48 = .ok (.invokevirtual 239, 3) := by decide +kernel
theorem dX7_run_51 : decode cX7_run 51 = .ok (.iload_n 2, 1) := by decide +kernel
theorem dX7_run_52 : decode cX7_run 52 = .ok (.isub, 1) := by decide +kernel
theorem dX7_run_53 : decode cX7_run 53 = .ok (.ireturn, 1) := by decide +kernel
theorem dX7_stateAfter_0 : decode cX7_stateAfter 0 = .ok (.aload_n 0, 1) := by decide +kernel
theorem dX7_stateAfter_1 : decode cX7_stateAfter 1 = .ok (.iconst 0, 1) := by decide +kernel
theorem dX7_stateAfter_2 : decode cX7_stateAfter 2 = .ok (.putfield 54, 3) := by decide +kernel
theorem dX7_stateAfter_5 : decode cX7_stateAfter 5 = .ok (.aload_n 0, 1) := by decide +kernel
theorem dX7_stateAfter_6 : decode cX7_stateAfter 6 = .ok (.iload_n 1, 1) := by decide +kernel
theorem dX7_stateAfter_7 : decode cX7_stateAfter 7 = .ok (.invokevirtual 317, 3) := by decide +kernel
theorem dX7_stateAfter_10 : decode cX7_stateAfter 10 = .ok (.ifCond .ne 9, 3) := by decide +kernel
theorem dX7_stateAfter_13 : decode cX7_stateAfter 13 = .ok (.aload_n 0, 1) := by decide +kernel
theorem dX7_stateAfter_14 : decode cX7_stateAfter 14 = .ok (.iconst 1, 1) := by decide +kernel
theorem dX7_stateAfter_15 : decode cX7_stateAfter 15 = .ok (.invokevirtual 68, 3) := by decide +kernel
theorem dX7_stateAfter_18 : decode cX7_stateAfter 18 = .ok (.ireturn, 1) := by decide +kernel
theorem dX7_stateAfter_19 : decode cX7_stateAfter 19 = .ok (.iload_n 2, 1) := by decide +kernel
theorem dX7_stateAfter_20 : decode cX7_stateAfter 20 = .ok (.iconst 1, 1) := by decide +kernel
theorem dX7_stateAfter_21 : decode cX7_stateAfter 21 = .ok (.bipush 72, 2) := by decide +kernel
theorem dX7_stateAfter_23 : decode cX7_stateAfter 23 = .ok (.invokestatic 57, 3) := by decide +kernel
theorem dX7_stateAfter_26 : decode cX7_stateAfter 26 = .ok (.ifCond .ne 9, 3) := by decide +kernel
theorem dX7_stateAfter_29 : decode cX7_stateAfter 29 = .ok (.aload_n 0, 1) := by decide +kernel
theorem dX7_stateAfter_30 : decode cX7_stateAfter 30 = .ok (.iconst 2, 1) := by decide +kernel
theorem dX7_stateAfter_31 : decode cX7_stateAfter 31 = .ok (.invokevirtual 68, 3) := by decide +kernel
theorem dX7_stateAfter_34 : decode cX7_stateAfter 34 = .ok (.ireturn, 1) := by decide +kernel
theorem dX7_stateAfter_35 : decode cX7_stateAfter 35 = .ok (.aload_n 0, 1) := by decide +kernel
theorem dX7_stateAfter_36 : decode cX7_stateAfter 36 = .ok (.getfield 7, 3) := by decide +kernel
theorem dX7_stateAfter_39 : decode cX7_stateAfter 39 = .ok (.iconst 0, 1) := by decide +kernel
theorem dX7_stateAfter_40 : decode cX7_stateAfter 40 = .ok (.aload_n 0, 1) := by decide +kernel
theorem dX7_stateAfter_41 : decode cX7_stateAfter 41 = .ok (.getfield 16, 3) := by decide +kernel
theorem dX7_stateAfter_44 : decode cX7_stateAfter 44 = .ok (.iconst 0, 1) := by decide +kernel
theorem dX7_stateAfter_45 : decode cX7_stateAfter 45 = .ok (.invokestatic 183, 3) := by decide +kernel
theorem dX7_stateAfter_48 : decode cX7_stateAfter 48 = .ok (.iconst 0, 1) := by decide +kernel
theorem dX7_stateAfter_49 : decode cX7_stateAfter 49 = .ok (.istore_n 3, 1) := by decide +kernel
theorem dX7_stateAfter_50 : decode cX7_stateAfter 50 = .ok (.iload_n 3, 1) := by decide +kernel
theorem dX7_stateAfter_51 : decode cX7_stateAfter 51 = .ok (.iload_n 2, 1) := by decide +kernel
theorem dX7_stateAfter_52 : decode cX7_stateAfter 52 = .ok (.if_icmp .ge 13, 3) := by decide +kernel
theorem dX7_stateAfter_55 : decode cX7_stateAfter 55 = .ok (.aload_n 0, 1) := by decide +kernel
theorem dX7_stateAfter_56 : decode cX7_stateAfter 56 = .ok (.invokevirtual 365, 3) := by decide +kernel
theorem dX7_stateAfter_59 : decode cX7_stateAfter 59 = .ok (.iinc 3 1, 3) := by decide +kernel
theorem dX7_stateAfter_62 : decode cX7_stateAfter 62 = .ok (.goto (-12), 3) := by decide +kernel
theorem dX7_stateAfter_65 : decode cX7_stateAfter 65 = .ok (.aload_n 0, 1) := by decide +kernel
theorem dX7_stateAfter_66 : decode cX7_stateAfter 66 = .ok (.iload_n 1, 1) := by decide +kernel
theorem dX7_stateAfter_67 : decode cX7_stateAfter 67 = .ok (.invokevirtual 230, 3) := by decide +kernel
theorem dX7_stateAfter_70 : decode cX7_stateAfter 70 = .ok (.istore_n 3, 1) := by decide +kernel
theorem dX7_stateAfter_71 : decode cX7_stateAfter 71 = .ok (.aload_n 0, 1) := by decide +kernel
theorem dX7_stateAfter_72 : decode cX7_stateAfter 72 = .ok (.getfield 16, 3) := by decide +kernel
theorem dX7_stateAfter_75 : decode cX7_stateAfter 75 = .ok (.iconst 0, 1) := by decide +kernel
theorem dX7_stateAfter_76 : decode cX7_stateAfter 76 = .ok (.aload_n 0, 1) := by decide +kernel
theorem dX7_stateAfter_77 : decode cX7_stateAfter 77 = .ok (.getfield 7, 3) := by decide +kernel
theorem dX7_stateAfter_80 : decode cX7_stateAfter 80 = .ok (.iconst 0, 1) := by decide +kernel
theorem dX7_stateAfter_81 : decode cX7_stateAfter 81 = .ok (.invokestatic 183, 3) := by decide +kernel
theorem dX7_stateAfter_84 : decode cX7_stateAfter 84 = .ok (.iload_n 3, 1) := by decide +kernel
theorem dX7_stateAfter_85 : decode cX7_stateAfter 85 = .ok (.ireturn, 1) := by decide +kernel
theorem dX7_hoursTo_0 : decode cX7_hoursTo 0 = .ok (.aload_n 0, 1) := by decide +kernel
theorem dX7_hoursTo_1 : decode cX7_hoursTo 1 = .ok (.iconst 0, 1) := by decide +kernel
theorem dX7_hoursTo_2 : decode cX7_hoursTo 2 = .ok (.putfield 54, 3) := by decide +kernel
theorem dX7_hoursTo_5 : decode cX7_hoursTo 5 = .ok (.iload_n 1, 1) := by decide +kernel
theorem dX7_hoursTo_6 : decode cX7_hoursTo 6 = .ok (.iconst 1, 1) := by decide +kernel
theorem dX7_hoursTo_7 : decode cX7_hoursTo 7 = .ok (.bipush 24, 2) := by decide +kernel
theorem dX7_hoursTo_9 : decode cX7_hoursTo 9 = .ok (.invokestatic 57, 3) := by decide +kernel
theorem dX7_hoursTo_12 : decode cX7_hoursTo 12 = .ok (.ifCond .ne 9, 3) := by decide +kernel
theorem dX7_hoursTo_15 : decode cX7_hoursTo 15 = .ok (.aload_n 0, 1) := by decide +kernel
theorem dX7_hoursTo_16 : decode cX7_hoursTo 16 = .ok (.iconst 1, 1) := by decide +kernel
theorem dX7_hoursTo_17 : decode cX7_hoursTo 17 = .ok (.invokevirtual 68, 3) := by decide +kernel
theorem dX7_hoursTo_20 : decode cX7_hoursTo 20 = .ok (.ireturn, 1) := by decide +kernel
theorem dX7_hoursTo_21 : decode cX7_hoursTo 21 = .ok (.aload_n 0, 1) := by decide +kernel
theorem dX7_hoursTo_22 : decode cX7_hoursTo 22 = .ok (.getfield 7, 3) := by decide +kernel
theorem dX7_hoursTo_25 : decode cX7_hoursTo 25 = .ok (.iconst 0, 1) := by decide +kernel
theorem dX7_hoursTo_26 : decode cX7_hoursTo 26 = .ok (.aload_n 0, 1) := by decide +kernel
theorem dX7_hoursTo_27 : decode cX7_hoursTo 27 = .ok (.getfield 16, 3) := by decide +kernel
theorem dX7_hoursTo_30 : decode cX7_hoursTo 30 = .ok (.iconst 0, 1) := by decide +kernel
theorem dX7_hoursTo_31 : decode cX7_hoursTo 31 = .ok (.invokestatic 183, 3) := by decide +kernel
theorem dX7_hoursTo_34 : decode cX7_hoursTo 34 = .ok (.iconst 0, 1) := by decide +kernel
theorem dX7_hoursTo_35 : decode cX7_hoursTo 35 = .ok (.istore_n 2, 1) := by decide +kernel
theorem dX7_hoursTo_36 : decode cX7_hoursTo 36 = .ok (.iload_n 2, 1) := by decide +kernel
theorem dX7_hoursTo_37 : decode cX7_hoursTo 37 = .ok (.bipush 72, 2) := by decide +kernel
theorem dX7_hoursTo_39 : decode cX7_hoursTo 39 = .ok (.if_icmp .gt 22, 3) := by decide +kernel
theorem dX7_hoursTo_42 : decode cX7_hoursTo 42 = .ok (.aload_n 0, 1) := by decide +kernel
theorem dX7_hoursTo_43 : decode cX7_hoursTo 43 = .ok (.iconst 1, 1) := by decide +kernel
theorem dX7_hoursTo_44 : decode cX7_hoursTo 44 = .ok (.invokevirtual 233, 3) := by decide +kernel
theorem dX7_hoursTo_47 : decode cX7_hoursTo 47 = .ok (.iload_n 1, 1) := by decide +kernel
theorem dX7_hoursTo_48 : decode cX7_hoursTo 48 = .ok (.if_icmp .ge 13, 3) := by decide +kernel
theorem dX7_hoursTo_51 : decode cX7_hoursTo 51 = .ok (.aload_n 0, 1) := by decide +kernel
theorem dX7_hoursTo_52 : decode cX7_hoursTo 52 = .ok (.invokevirtual 365, 3) := by decide +kernel
theorem dX7_hoursTo_55 : decode cX7_hoursTo 55 = .ok (.iinc 2 1, 3) := by decide +kernel
theorem dX7_hoursTo_58 : decode cX7_hoursTo 58 = .ok (.goto (-22), 3) := by decide +kernel
theorem dX7_hoursTo_61 : decode cX7_hoursTo 61 = .ok (.aload_n 0, 1) := by decide +kernel
theorem dX7_hoursTo_62 : decode cX7_hoursTo 62 = .ok (.getfield 16, 3) := by decide +kernel
theorem dX7_hoursTo_65 : decode cX7_hoursTo 65 = .ok (.iconst 0, 1) := by decide +kernel
theorem dX7_hoursTo_66 : decode cX7_hoursTo 66 = .ok (.aload_n 0, 1) := by decide +kernel
theorem dX7_hoursTo_67 : decode cX7_hoursTo 67 = .ok (.getfield 7, 3) := by decide +kernel
theorem dX7_hoursTo_70 : decode cX7_hoursTo 70 = .ok (.iconst 0, 1) := by decide +kernel
theorem dX7_hoursTo_71 : decode cX7_hoursTo 71 = .ok (.invokestatic 183, 3) := by decide +kernel
theorem dX7_hoursTo_74 : decode cX7_hoursTo 74 = .ok (.iload_n 2, 1) := by decide +kernel
theorem dX7_hoursTo_75 : decode cX7_hoursTo 75 = .ok (.bipush 72, 2) := by decide +kernel
theorem dX7_hoursTo_77 : decode cX7_hoursTo 77 = .ok (.if_icmp .gt 7, 3) := by decide +kernel
theorem dX7_hoursTo_80 : decode cX7_hoursTo 80 = .ok (.iload_n 2, 1) := by decide +kernel
theorem dX7_hoursTo_81 : decode cX7_hoursTo 81 = .ok (.goto 4, 3) := by decide +kernel
theorem dX7_hoursTo_84 : decode cX7_hoursTo 84 = .ok (.iconst (-1), 1) := by decide +kernel
theorem dX7_hoursTo_85 : decode cX7_hoursTo 85 = .ok (.ireturn, 1) := by decide +kernel
theorem dX7_meanHours_0 : decode cX7_meanHours 0 = .ok (.aload_n 0, 1) := by decide +kernel
theorem dX7_meanHours_1 : decode cX7_meanHours 1 = .ok (.iconst 0, 1) := by decide +kernel
theorem dX7_meanHours_2 : decode cX7_meanHours 2 = .ok (.putfield 54, 3) := by decide +kernel
theorem dX7_meanHours_5 : decode cX7_meanHours 5 = .ok (.iconst 0, 1) := by decide +kernel
theorem dX7_meanHours_6 : decode cX7_meanHours 6 = .ok (.istore_n 1, 1) := by decide +kernel
theorem dX7_meanHours_7 : decode cX7_meanHours 7 = .ok (.iconst 0, 1) := by decide +kernel
theorem dX7_meanHours_8 : decode cX7_meanHours 8 = .ok (.istore_n 2, 1) := by decide +kernel
theorem dX7_meanHours_9 : decode cX7_meanHours 9 = .ok (.iconst 0, 1) := by decide +kernel
theorem dX7_meanHours_10 : decode cX7_meanHours 10 = .ok (.istore_n 3, 1) := by decide +kernel
theorem dX7_meanHours_11 : decode cX7_meanHours 11 = .ok (.iload_n 3, 1) := by decide +kernel
theorem dX7_meanHours_12 : decode cX7_meanHours 12 = .ok (.aload_n 0, 1) := by decide +kernel
theorem dX7_meanHours_13 : decode cX7_meanHours 13 = .ok (.getfield 7, 3) := by decide +kernel
theorem dX7_meanHours_16 : decode cX7_meanHours 16 = .ok (.iconst 2, 1) := by decide +kernel
theorem dX7_meanHours_17 : decode cX7_meanHours 17 = .ok (.iaload, 1) := by decide +kernel
theorem dX7_meanHours_18 : decode cX7_meanHours 18 = .ok (.if_icmp .ge 37, 3) := by decide +kernel
theorem dX7_meanHours_21 : decode cX7_meanHours 21 = .ok (.aload_n 0, 1) := by decide +kernel
theorem dX7_meanHours_22 : decode cX7_meanHours 22 = .ok (.iload_n 3, 1) := by decide +kernel
theorem dX7_meanHours_23 : decode cX7_meanHours 23 = .ok (.invokevirtual 230, 3) := by decide +kernel
theorem dX7_meanHours_26 : decode cX7_meanHours 26 = .ok (.iconst 1, 1) := by decide +kernel
theorem dX7_meanHours_27 : decode cX7_meanHours 27 = .ok (.if_icmp .ne 22, 3) := by decide +kernel
theorem dX7_meanHours_30 : decode cX7_meanHours 30 = .ok (.iload_n 1, 1) := by decide +kernel
theorem dX7_meanHours_31 : decode cX7_meanHours 31 = .ok (.aload_n 0, 1) := by decide +kernel
theorem dX7_meanHours_32 : decode cX7_meanHours 32 = .ok (.iload_n 3, 1) := by decide +kernel
theorem dX7_meanHours_33 : decode cX7_meanHours 33 = .ok (.iconst 2, 1) := by decide +kernel
theorem dX7_meanHours_34 : decode cX7_meanHours 34 = .ok (.invokevirtual 324, 3) := by decide +kernel
theorem dX7_meanHours_37 : decode cX7_meanHours 37 = .ok (.aload_n 0, 1) := by decide +kernel
theorem dX7_meanHours_38 : decode cX7_meanHours 38 = .ok (.iload_n 3, 1) := by decide +kernel
theorem dX7_meanHours_39 : decode cX7_meanHours 39 = .ok (.iconst 3, 1) := by decide +kernel
theorem dX7_meanHours_40 : decode cX7_meanHours 40 = .ok (.invokevirtual 267, 3) := by decide +kernel
theorem dX7_meanHours_43 : decode cX7_meanHours 43 = .ok (.isub, 1) := by decide +kernel
theorem dX7_meanHours_44 : decode cX7_meanHours 44 = .ok (.iadd, 1) := by decide +kernel
theorem dX7_meanHours_45 : decode cX7_meanHours 45 = .ok (.istore_n 1, 1) := by decide +kernel
theorem dX7_meanHours_46 : decode cX7_meanHours 46 = .ok (.iinc 2 1, 3) := by decide +kernel
theorem dX7_meanHours_49 : decode cX7_meanHours 49 = .ok (.iinc 3 1, 3) := by decide +kernel
theorem dX7_meanHours_52 : decode cX7_meanHours 52 = .ok (.goto (-41), 3) := by decide +kernel
theorem dX7_meanHours_55 : decode cX7_meanHours 55 = .ok (.iload_n 2, 1) := by decide +kernel
theorem dX7_meanHours_56 : decode cX7_meanHours 56 = .ok (.ifCond .ne 9, 3) := by decide +kernel
theorem dX7_meanHours_59 : decode cX7_meanHours 59 = .ok (.ldc2_w 368, 3) := by decide +kernel
theorem dX7_meanHours_62 : decode cX7_meanHours 62 = .ok (.goto 8, 3) := by decide +kernel
theorem dX7_meanHours_65 : decode cX7_meanHours 65 = .ok (.iload_n 1, 1) := by decide +kernel
theorem dX7_meanHours_66 : decode cX7_meanHours 66 = .ok (.i2d, 1) := by decide +kernel
theorem dX7_meanHours_67 : decode cX7_meanHours 67 = .ok (.iload_n 2, 1) := by decide +kernel
theorem dX7_meanHours_68 : decode cX7_meanHours 68 = .ok (.i2d, 1) := by decide +kernel
theorem dX7_meanHours_69 : decode cX7_meanHours 69 = .ok (.ddiv, 1) := by decide +kernel
theorem dX7_meanHours_70 : decode cX7_meanHours 70 = .ok (.dreturn, 1) := by decide +kernel
theorem dX7_lossRate_0 : decode cX7_lossRate 0 = .ok (.aload_n 0, 1) := by decide +kernel
theorem dX7_lossRate_1 : decode cX7_lossRate 1 = .ok (.iconst 0, 1) := by decide +kernel
theorem dX7_lossRate_2 : decode cX7_lossRate 2 = .ok (.putfield 54, 3) := by decide +kernel
theorem dX7_lossRate_5 : decode cX7_lossRate 5 = .ok (.iconst 0, 1) := by decide +kernel
theorem dX7_lossRate_6 : decode cX7_lossRate 6 = .ok (.istore_n 1, 1) := by decide +kernel
theorem dX7_lossRate_7 : decode cX7_lossRate 7 = .ok (.iconst 0, 1) := by decide +kernel
theorem dX7_lossRate_8 : decode cX7_lossRate 8 = .ok (.istore_n 2, 1) := by decide +kernel
theorem dX7_lossRate_9 : decode cX7_lossRate 9 = .ok (.iconst 0, 1) := by decide +kernel
theorem dX7_lossRate_10 : decode cX7_lossRate 10 = .ok (.istore_n 3, 1) := by decide +kernel
theorem dX7_lossRate_11 : decode cX7_lossRate 11 = .ok (.iload_n 3, 1) := by decide +kernel
theorem dX7_lossRate_12 : decode cX7_lossRate 12 = .ok (.aload_n 0, 1) := by decide +kernel
theorem dX7_lossRate_13 : decode cX7_lossRate 13 = .ok (.getfield 7, 3) := by decide +kernel
theorem dX7_lossRate_16 : decode cX7_lossRate 16 = .ok (.iconst 1, 1) := by decide +kernel
theorem dX7_lossRate_17 : decode cX7_lossRate 17 = .ok (.iaload, 1) := by decide +kernel
theorem dX7_lossRate_18 : decode cX7_lossRate 18 = .ok (.if_icmp .ge 36, 3) := by decide +kernel
theorem dX7_lossRate_21 : decode cX7_lossRate 21 = .ok (.iload_n 1, 1) := by decide +kernel
theorem dX7_lossRate_22 : decode cX7_lossRate 22 = .ok (.aload_n 0, 1) := by decide +kernel
theorem dX7_lossRate_23 : decode cX7_lossRate 23 = .ok (.iload_n 3, 1) := by decide +kernel
theorem dX7_lossRate_24 : decode cX7_lossRate 24 = .ok (.iconst 5, 1) := by decide +kernel
theorem dX7_lossRate_25 : decode cX7_lossRate 25 = .ok (.invokevirtual 193, 3) := by decide +kernel
theorem dX7_lossRate_28 : decode cX7_lossRate 28 = .ok (.iadd, 1) := by decide +kernel
theorem dX7_lossRate_29 : decode cX7_lossRate 29 = .ok (.istore_n 1, 1) := by decide +kernel
theorem dX7_lossRate_30 : decode cX7_lossRate 30 = .ok (.iload_n 2, 1) := by decide +kernel
theorem dX7_lossRate_31 : decode cX7_lossRate 31 = .ok (.aload_n 0, 1) := by decide +kernel
theorem dX7_lossRate_32 : decode cX7_lossRate 32 = .ok (.iload_n 3, 1) := by decide +kernel
theorem dX7_lossRate_33 : decode cX7_lossRate 33 = .ok (.bipush 6, 2) := by decide +kernel
theorem dX7_lossRate_35 : decode cX7_lossRate 35 = .ok (.invokevirtual 193, 3) := by decide +kernel
theorem dX7_lossRate_38 : decode cX7_lossRate 38 = .ok (.aload_n 0, 1) := by decide +kernel
theorem dX7_lossRate_39 : decode cX7_lossRate 39 = .ok (.iload_n 3, 1) := by decide +kernel
theorem dX7_lossRate_40 : decode cX7_lossRate 40 = .ok (.bipush 7, 2) := by decide +kernel
theorem dX7_lossRate_42 : decode cX7_lossRate 42 = .ok (.invokevirtual 193, 3) := by decide +kernel
theorem dX7_lossRate_45 : decode cX7_lossRate 45 = .ok (.iadd, 1) := by decide +kernel
theorem dX7_lossRate_46 : decode cX7_lossRate 46 = .ok (.iadd, 1) := by decide +kernel
theorem dX7_lossRate_47 : decode cX7_lossRate 47 = .ok (.istore_n 2, 1) := by decide +kernel
theorem dX7_lossRate_48 : decode cX7_lossRate 48 = .ok (.iinc 3 1, 3) := by decide +kernel
theorem dX7_lossRate_51 : decode cX7_lossRate 51 = .ok (.goto (-40), 3) := by decide +kernel
theorem dX7_lossRate_54 : decode cX7_lossRate 54 = .ok (.iload_n 1, 1) := by decide +kernel
theorem dX7_lossRate_55 : decode cX7_lossRate 55 = .ok (.ifCond .ne 7, 3) := by decide +kernel
theorem dX7_lossRate_58 : decode cX7_lossRate 58 = .ok (.fconst 0, 1) := by decide +kernel
theorem dX7_lossRate_59 : decode cX7_lossRate 59 = .ok (.goto 8, 3) := by decide +kernel
theorem dX7_lossRate_62 : decode cX7_lossRate 62 = .ok (.iload_n 2, 1) := by decide +kernel
theorem dX7_lossRate_63 : decode cX7_lossRate 63 = .ok (.i2f, 1) := by decide +kernel
theorem dX7_lossRate_64 : decode cX7_lossRate 64 = .ok (.iload_n 1, 1) := by decide +kernel
theorem dX7_lossRate_65 : decode cX7_lossRate 65 = .ok (.i2f, 1) := by decide +kernel
theorem dX7_lossRate_66 : decode cX7_lossRate 66 = .ok (.fdiv, 1) := by decide +kernel
theorem dX7_lossRate_67 : decode cX7_lossRate 67 = .ok (.freturn, 1) := by decide +kernel
theorem dX7_save_0 : decode cX7_save 0 = .ok (.aload_n 0, 1) := by decide +kernel
theorem dX7_save_1 : decode cX7_save 1 = .ok (.iload_n 1, 1) := by decide +kernel
theorem dX7_save_2 : decode cX7_save 2 = .ok (.iconst 0, 1) := by decide +kernel
theorem dX7_save_3 : decode cX7_save 3 = .ok (.iconst 1, 1) := by decide +kernel
theorem dX7_save_4 : decode cX7_save 4 = .ok (.invokestatic 57, 3) := by decide +kernel
theorem dX7_save_7 : decode cX7_save 7 = .ok (.ifCond .eq 7, 3) := by decide +kernel
theorem dX7_save_10 : decode cX7_save 10 = .ok (.iconst 0, 1) := by decide +kernel
theorem dX7_save_11 : decode cX7_save 11 = .ok (.goto 4, 3) := by decide +kernel
theorem dX7_save_14 : decode cX7_save 14 = .ok (.iconst 1, 1) := by decide +kernel
theorem dX7_save_15 : decode cX7_save 15 = .ok (.putfield 54, 3) := by decide +kernel
theorem dX7_save_18 : decode cX7_save 18 = .ok (.aload_n 0, 1) := by decide +kernel
theorem dX7_save_19 : decode cX7_save 19 = .ok (.getfield 54, 3) := by decide +kernel
theorem dX7_save_22 : decode cX7_save 22 = .ok (.ifCond .ne 27, 3) := by decide +kernel
theorem dX7_save_25 : decode cX7_save 25 = .ok (.aload_n 0, 1) := by decide +kernel
theorem dX7_save_26 : decode cX7_save 26 = .ok (.getfield 7, 3) := by decide +kernel
theorem dX7_save_29 : decode cX7_save 29 = .ok (.iconst 0, 1) := by decide +kernel
theorem dX7_save_30 : decode cX7_save 30 = .ok (.aload_n 0, 1) := by decide +kernel
theorem dX7_save_31 : decode cX7_save 31 = .ok (.getfield 19, 3) := by decide +kernel
theorem dX7_save_34 : decode cX7_save 34 = .ok (.sipush 2888, 3) := by decide +kernel
theorem dX7_save_37 : decode cX7_save 37 = .ok (.iload_n 1, 1) := by decide +kernel
theorem dX7_save_38 : decode cX7_save 38 = .ok (.imul, 1) := by decide +kernel
theorem dX7_save_39 : decode cX7_save 39 = .ok (.invokestatic 183, 3) := by decide +kernel
theorem dX7_save_42 : decode cX7_save 42 = .ok (.aload_n 0, 1) := by decide +kernel
theorem dX7_save_43 : decode cX7_save 43 = .ok (.getfield 22, 3) := by decide +kernel
theorem dX7_save_46 : decode cX7_save 46 = .ok (.iload_n 1, 1) := by decide +kernel
theorem dX7_save_47 : decode cX7_save 47 = .ok (.iconst 1, 1) := by decide +kernel
theorem dX7_save_48 : decode cX7_save 48 = .ok (.bastore, 1) := by decide +kernel
theorem dX7_save_49 : decode cX7_save 49 = .ok (.return_, 1) := by decide +kernel
theorem dX7_restore_0 : decode cX7_restore 0 = .ok (.aload_n 0, 1) := by decide +kernel
theorem dX7_restore_1 : decode cX7_restore 1 = .ok (.iload_n 1, 1) := by decide +kernel
theorem dX7_restore_2 : decode cX7_restore 2 = .ok (.iconst 0, 1) := by decide +kernel
theorem dX7_restore_3 : decode cX7_restore 3 = .ok (.iconst 1, 1) := by decide +kernel
theorem dX7_restore_4 : decode cX7_restore 4 = .ok (.invokestatic 57, 3) := by decide +kernel
theorem dX7_restore_7 : decode cX7_restore 7 = .ok (.ifCond .ne 7, 3) := by decide +kernel
theorem dX7_restore_10 : decode cX7_restore 10 = .ok (.iconst 1, 1) := by decide +kernel
theorem dX7_restore_11 : decode cX7_restore 11 = .ok (.goto 17, 3) := by decide +kernel
theorem dX7_restore_14 : decode cX7_restore 14 = .ok (.aload_n 0, 1) := by decide +kernel
theorem dX7_restore_15 : decode cX7_restore 15 = .ok (.getfield 22, 3) := by decide +kernel
theorem dX7_restore_18 : decode cX7_restore 18 = .ok (.iload_n 1, 1) := by decide +kernel
theorem dX7_restore_19 : decode cX7_restore 19 = .ok (.baload, 1) := by decide +kernel
theorem dX7_restore_20 : decode cX7_restore 20 = .ok (.ifCond .ne 7, 3) := by decide +kernel
theorem dX7_restore_23 : decode cX7_restore 23 = .ok (.iconst 2, 1) := by decide +kernel
theorem dX7_restore_24 : decode cX7_restore 24 = .ok (.goto 4, 3) := by decide +kernel
theorem dX7_restore_27 : decode cX7_restore 27 = .ok (.iconst 0, 1) := by decide +kernel
theorem dX7_restore_28 : decode cX7_restore 28 = .ok (.putfield 54, 3) := by decide +kernel
theorem dX7_restore_31 : decode cX7_restore 31 = .ok (.aload_n 0, 1) := by decide +kernel
theorem dX7_restore_32 : decode cX7_restore 32 = .ok (.getfield 54, 3) := by decide +kernel
theorem dX7_restore_35 : decode cX7_restore 35 = .ok (.ifCond .ne 20, 3) := by decide +kernel
theorem dX7_restore_38 : decode cX7_restore 38 = .ok (.aload_n 0, 1) := by decide +kernel
theorem dX7_restore_39 : decode cX7_restore 39 = .ok (.getfield 19, 3) := by decide +kernel
theorem dX7_restore_42 : decode cX7_restore 42 = .ok (.sipush 2888, 3) := by decide +kernel
theorem dX7_restore_45 : decode cX7_restore 45 = .ok (.iload_n 1, 1) := by decide +kernel
theorem dX7_restore_46 : decode cX7_restore 46 = .ok (.imul, 1) := by decide +kernel
theorem dX7_restore_47 : decode cX7_restore 47 = .ok (.aload_n 0, 1) := by decide +kernel
theorem dX7_restore_48 : decode cX7_restore 48 = .ok (.getfield 7, 3) := by decide +kernel
theorem dX7_restore_51 : decode cX7_restore 51 = .ok (.iconst 0, 1) := by decide +kernel
theorem dX7_restore_52 : decode cX7_restore 52 = .ok (.invokestatic 183, 3) := by decide +kernel
theorem dX7_restore_55 : decode cX7_restore 55 = .ok (.return_, 1) := by decide +kernel

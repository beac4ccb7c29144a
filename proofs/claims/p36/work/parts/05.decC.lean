theorem dL_hoursTo_9 : decode cL_hoursTo 9 = .ok (.ireturn, 1) := by decide +kernel
theorem dL_event_0 : decode cL_event 0 = .ok (.aload_n 0, 1) := by decide +kernel
theorem dL_event_1 : decode cL_event 1 = .ok (.iload_n 1, 1) := by decide +kernel
theorem dL_event_2 : decode cL_event 2 = .ok (.iload_n 2, 1) := by decide +kernel
theorem dL_event_3 : decode cL_event 3 = .ok (.invokevirtual 110, 3) := by decide +kernel
theorem dL_event_6 : decode cL_event 6 = .ok (.ireturn, 1) := by decide +kernel
theorem dL_event_7 : decode cL_event 7 = .ok (.astore_n 3, 1) := by decide +kernel
theorem dL_event_8 : decode cL_event 8 = .ok (.bipush (-101), 2) := by decide +kernel
theorem dL_event_10 : decode cL_event 10 = .ok (.ireturn, 1) := by decide +kernel
theorem dL_event_11 : decode cL_event 11 = .ok (.astore_n 3, 1) := by decide +kernel
theorem dL_event_12 : decode cL_event 12 = .ok (.bipush (-102), 2) := by decide +kernel
theorem dL_event_14 : decode cL_event 14 = .ok (.ireturn, 1) := by decide +kernel
theorem dL_save_0 : decode cL_save 0 = .ok (.aload_n 0, 1) := by decide +kernel
theorem dL_save_1 : decode cL_save 1 = .ok (.iload_n 1, 1) := by decide +kernel
theorem dL_save_2 : decode cL_save 2 = .ok (.invokevirtual 116, 3) := by decide +kernel
theorem dL_save_5 : decode cL_save 5 = .ok (.iconst 0, 1) := by decide +kernel
theorem dL_save_6 : decode cL_save 6 = .ok (.ireturn, 1) := by decide +kernel
theorem dL_save_7 : decode cL_save 7 = .ok (.astore_n 2, 1) := by decide +kernel
theorem dL_save_8 : decode cL_save 8 = .ok (.bipush (-102), 2) := by decide +kernel
theorem dL_save_10 : decode cL_save 10 = .ok (.ireturn, 1) := by decide +kernel
theorem dL_restore_0 : decode cL_restore 0 = .ok (.aload_n 0, 1) := by decide +kernel
theorem dL_restore_1 : decode cL_restore 1 = .ok (.iload_n 1, 1) := by decide +kernel
theorem dL_restore_2 : decode cL_restore 2 = .ok (.invokevirtual 120, 3) := by decide +kernel
theorem dL_restore_5 : decode cL_restore 5 = .ok (.iconst 0, 1) := by decide +kernel
theorem dL_restore_6 : decode cL_restore 6 = .ok (.ireturn, 1) := by decide +kernel
theorem dL_restore_7 : decode cL_restore 7 = .ok (.astore_n 2, 1) := by decide +kernel
theorem dL_restore_8 : decode cL_restore 8 = .ok (.bipush (-102), 2) := by decide +kernel
theorem dL_restore_10 : decode cL_restore 10 = .ok (.ireturn, 1) := by decide +kernel
theorem dL_restore_11 : decode cL_restore 11 = .ok (.astore_n 2, 1) := by decide +kernel
theorem dL_restore_12 : decode cL_restore 12 = .ok (.bipush (-103), 2) := by decide +kernel
theorem dL_restore_14 : decode cL_restore 14 = .ok (.ireturn, 1) := by decide +kernel
theorem dL_builds_0 : decode cL_builds 0 = .ok (.iconst 3, 1) := by decide +kernel
theorem dL_builds_1 : decode cL_builds 1 = .ok (.aload_n 0, 1) := by decide +kernel
theorem dL_builds_2 : decode cL_builds 2 = .ok (.bipush 6, 2) := by decide +kernel
theorem dL_builds_4 : decode cL_builds 4 = .ok (.invokevirtual 123, 3) := by decide +kernel
theorem dL_builds_7 : decode cL_builds 7 = .ok (.iadd, 1) := by decide +kernel
theorem dL_builds_8 : decode cL_builds 8 = .ok (.istore_n 1, 1) := by decide +kernel
theorem dL_builds_9 : decode cL_builds 9 = .ok (.iconst 0, 1) := by decide +kernel
theorem dL_builds_10 : decode cL_builds 10 = .ok (.istore_n 2, 1) := by decide +kernel
theorem dL_builds_11 : decode cL_builds 11 = .ok (.iload_n 2, 1) := by decide +kernel
theorem dL_builds_12 : decode cL_builds 12 = .ok (.iload_n 1, 1) := by decide +kernel
theorem dL_builds_13 : decode cL_builds 13 = .ok (.if_icmp .ge 66, 3) := by decide +kernel
theorem dL_builds_16 : decode cL_builds 16 = .ok (.aload_n 0, 1) := by decide +kernel
theorem dL_builds_17 : decode cL_builds 17 = .ok (.getfield 10, 3) := by decide +kernel
theorem dL_builds_20 : decode cL_builds 20 = .ok (.aload_n 0, 1) := by decide +kernel
theorem dL_builds_21 : decode cL_builds 21 = .ok (.iconst 3, 1) := by decide +kernel
theorem dL_builds_22 : decode cL_builds 22 = .ok (.invokevirtual 123, 3) := by decide +kernel
theorem dL_builds_25 : decode cL_builds 25 = .ok (.ifCond .ne 12, 3) := by decide +kernel
theorem dL_builds_28 : decode cL_builds 28 = .ok (.aload_n 0, 1) := by decide +kernel
theorem dL_builds_29 : decode cL_builds 29 = .ok (.bipush 24, 2) := by decide +kernel
theorem dL_builds_31 : decode cL_builds 31 = .ok (.invokevirtual 123, 3) := by decide +kernel
theorem dL_builds_34 : decode cL_builds 34 = .ok (.goto 4, 3) := by decide +kernel
theorem dL_builds_37 : decode cL_builds 37 = .ok (.iconst 0, 1) := by decide +kernel
theorem dL_builds_38 : decode cL_builds 38 = .ok (.aload_n 0, 1) := by decide +kernel
theorem dL_builds_39 : decode cL_builds 39 = .ok (.iconst 3, 1) := by decide +kernel
theorem dL_builds_40 : decode cL_builds 40 = .ok (.invokevirtual 123, 3) := by decide +kernel
theorem dL_builds_43 : decode cL_builds 43 = .ok (.ifCond .ne 12, 3) := by decide +kernel
theorem dL_builds_46 : decode cL_builds 46 = .ok (.aload_n 0, 1) := by decide +kernel
theorem dL_builds_47 : decode cL_builds 47 = .ok (.bipush 24, 2) := by decide +kernel
theorem dL_builds_49 : decode cL_builds 49 = .ok (.invokevirtual 123, 3) := by decide +kernel
theorem dL_builds_52 : decode cL_builds 52 = .ok (.goto 5, 3) := by decide +kernel
theorem dL_builds_55 : decode cL_builds 55 = .ok (.bipush 23, 2) := by decide +kernel
theorem dL_builds_57 : decode cL_builds 57 = .ok (.iconst 1, 1) := by decide +kernel
theorem dL_builds_58 : decode cL_builds 58 = .ok (.aload_n 0, 1) := by decide +kernel
theorem dL_builds_59 : decode cL_builds 59 = .ok (.iconst 4, 1) := by decide +kernel
theorem dL_builds_60 : decode cL_builds 60 = .ok (.invokevirtual 123, 3) := by decide +kernel
theorem dL_builds_63 : decode cL_builds 63 = .ok (.iadd, 1) := by decide +kernel
theorem dL_builds_64 : decode cL_builds 64 = .ok (.invokestatic 126, 3) := by decide +kernel
theorem dL_builds_67 : decode cL_builds 67 = .ok (.iload_n 2, 1) := by decide +kernel
theorem dL_builds_68 : decode cL_builds 68 = .ok (.if_icmp .eq 5, 3) := by decide +kernel
theorem dL_builds_71 : decode cL_builds 71 = .ok (.iconst 0, 1) := by decide +kernel
theorem dL_builds_72 : decode cL_builds 72 = .ok (.ireturn, 1) := by decide +kernel
theorem dL_builds_73 : decode cL_builds 73 = .ok (.iinc 2 1, 3) := by decide +kernel
theorem dL_builds_76 : decode cL_builds 76 = .ok (.goto (-65), 3) := by decide +kernel
theorem dL_builds_79 : decode cL_builds 79 = .ok (.iconst 0, 1) := by decide +kernel
theorem dL_builds_80 : decode cL_builds 80 = .ok (.istore_n 2, 1) := by decide +kernel
theorem dL_builds_81 : decode cL_builds 81 = .ok (.iload_n 2, 1) := by decide +kernel
theorem dL_builds_82 : decode cL_builds 82 = .ok (.bipush 20, 2) := by decide +kernel
theorem dL_builds_84 : decode cL_builds 84 = .ok (.if_icmp .ge 139, 3) := by decide +kernel
theorem dL_builds_87 : decode cL_builds 87 = .ok (.aload_n 0, 1) := by decide +kernel
theorem dL_builds_88 : decode cL_builds 88 = .ok (.iload_n 1, 1) := by decide +kernel
theorem dL_builds_89 : decode cL_builds 89 = .ok (.invokevirtual 123, 3) := by decide +kernel
theorem dL_builds_92 : decode cL_builds 92 = .ok (.istore_n 3, 1) := by decide +kernel
theorem dL_builds_93 : decode cL_builds 93 = .ok (.aload_n 0, 1) := by decide +kernel
theorem dL_builds_94 : decode cL_builds 94 = .ok (.iload_n 1, 1) := by decide +kernel
theorem dL_builds_95 : decode cL_builds 95 = .ok (.invokevirtual 123, 3) := by decide +kernel
theorem dL_builds_98 : decode cL_builds 98 = .ok (.istore 4, 2) := by decide +kernel
theorem dL_builds_100 : decode cL_builds 100 = .ok (.aload_n 0, 1) := by decide +kernel
theorem dL_builds_101 : decode cL_builds 101 = .ok (.getfield 10, 3) := by decide +kernel
theorem dL_builds_104 : decode cL_builds 104 = .ok (.iconst 1, 1) := by decide +kernel
theorem dL_builds_105 : decode cL_builds 105 = .ok (.invokestatic 129, 3) := by decide +kernel
theorem dL_builds_108 : decode cL_builds 108 = .ok (.istore 5, 2) := by decide +kernel
theorem dL_builds_110 : decode cL_builds 110 = .ok (.aload_n 0, 1) := by decide +kernel
theorem dL_builds_111 : decode cL_builds 111 = .ok (.iconst 3, 1) := by decide +kernel
theorem dL_builds_112 : decode cL_builds 112 = .ok (.invokevirtual 123, 3) := by decide +kernel
theorem dL_builds_115 : decode cL_builds 115 = .ok (.ifCond .ne 8, 3) := by decide +kernel
theorem dL_builds_118 : decode cL_builds 118 = .ok (.bipush 100, 2) := by decide +kernel
theorem dL_builds_120 : decode cL_builds 120 = .ok (.goto 12, 3) := by decide +kernel
theorem dL_builds_123 : decode cL_builds 123 = .ok (.bipush 30, 2) := by decide +kernel
theorem dL_builds_125 : decode cL_builds 125 = .ok (.aload_n 0, 1) := by decide +kernel
theorem dL_builds_126 : decode cL_builds 126 = .ok (.bipush 71, 2) := by decide +kernel
theorem dL_builds_128 : decode cL_builds 128 = .ok (.invokevirtual 123, 3) := by decide +kernel
theorem dL_builds_131 : decode cL_builds 131 = .ok (.iadd, 1) := by decide +kernel
theorem dL_builds_132 : decode cL_builds 132 = .ok (.istore 6, 2) := by decide +kernel
theorem dL_builds_134 : decode cL_builds 134 = .ok (.aload_n 0, 1) := by decide +kernel
theorem dL_builds_135 : decode cL_builds 135 = .ok (.getfield 10, 3) := by decide +kernel
theorem dL_builds_138 : decode cL_builds 138 = .ok (.iload_n 3, 1) := by decide +kernel
theorem dL_builds_139 : decode cL_builds 139 = .ok (.iload 4, 2) := by decide +kernel
theorem dL_builds_141 : decode cL_builds 141 = .ok (.aload_n 0, 1) := by decide +kernel
theorem dL_builds_142 : decode cL_builds 142 = .ok (.iconst 2, 1) := by decide +kernel
theorem dL_builds_143 : decode cL_builds 143 = .ok (.invokevirtual 123, 3) := by decide +kernel
theorem dL_builds_146 : decode cL_builds 146 = .ok (.ifCond .ne 7, 3) := by decide +kernel
theorem dL_builds_149 : decode cL_builds 149 = .ok (.iconst 0, 1) := by decide +kernel
theorem dL_builds_150 : decode cL_builds 150 = .ok (.goto 9, 3) := by decide +kernel
theorem dL_builds_153 : decode cL_builds 153 = .ok (.aload_n 0, 1) := by decide +kernel
theorem dL_builds_154 : decode cL_builds 154 = .ok (.bipush 24, 2) := by decide +kernel
theorem dL_builds_156 : decode cL_builds 156 = .ok (.invokevirtual 123, 3) := by decide +kernel
theorem dL_builds_159 : decode cL_builds 159 = .ok (.aload_n 0, 1) := by decide +kernel
theorem dL_builds_160 : decode cL_builds 160 = .ok (.iconst 2, 1) := by decide +kernel
theorem dL_builds_161 : decode cL_builds 161 = .ok (.invokevirtual 123, 3) := by decide +kernel
theorem dL_builds_164 : decode cL_builds 164 = .ok (.ifCond .ne 8, 3) := by decide +kernel
theorem dL_builds_167 : decode cL_builds 167 = .ok (.bipush 23, 2) := by decide +kernel
theorem dL_builds_169 : decode cL_builds 169 = .ok (.goto 9, 3) := by decide +kernel
theorem dL_builds_172 : decode cL_builds 172 = .ok (.aload_n 0, 1) := by decide +kernel
theorem dL_builds_173 : decode cL_builds 173 = .ok (.bipush 24, 2) := by decide +kernel
theorem dL_builds_175 : decode cL_builds 175 = .ok (.invokevirtual 123, 3) := by decide +kernel
theorem dL_builds_178 : decode cL_builds 178 = .ok (.iload 6, 2) := by decide +kernel
theorem dL_builds_180 : decode cL_builds 180 = .ok (.invokestatic 132, 3) := by decide +kernel
theorem dL_builds_183 : decode cL_builds 183 = .ok (.istore 7, 2) := by decide +kernel
theorem dL_builds_185 : decode cL_builds 185 = .ok (.iload_n 3, 1) := by decide +kernel
theorem dL_builds_186 : decode cL_builds 186 = .ok (.iload 4, 2) := by decide +kernel
theorem dL_builds_188 : decode cL_builds 188 = .ok (.if_icmp .ne 13, 3) := by decide +kernel
theorem dL_builds_191 : decode cL_builds 191 = .ok (.iload 7, 2) := by decide +kernel
theorem dL_builds_193 : decode cL_builds 193 = .ok (.bipush (-102), 2) := by decide +kernel
theorem dL_builds_195 : decode cL_builds 195 = .ok (.if_icmp .eq 22, 3) := by decide +kernel
theorem dL_builds_198 : decode cL_builds 198 = .ok (.goto 17, 3) := by decide +kernel
theorem dL_builds_201 : decode cL_builds 201 = .ok (.iload 7, 2) := by decide +kernel
theorem dL_builds_203 : decode cL_builds 203 = .ok (.iload 5, 2) := by decide +kernel
theorem dL_builds_205 : decode cL_builds 205 = .ok (.if_icmp .eq 12, 3) := by decide +kernel
theorem dL_builds_208 : decode cL_builds 208 = .ok (.iload 7, 2) := by decide +kernel
theorem dL_builds_210 : decode cL_builds 210 = .ok (.bipush (-103), 2) := by decide +kernel
theorem dL_builds_212 : decode cL_builds 212 = .ok (.if_icmp .eq 5, 3) := by decide +kernel
theorem dL_builds_215 : decode cL_builds 215 = .ok (.iconst 0, 1) := by decide +kernel
theorem dL_builds_216 : decode cL_builds 216 = .ok (.ireturn, 1) := by decide +kernel
theorem dL_builds_217 : decode cL_builds 217 = .ok (.iinc 2 1, 3) := by decide +kernel
theorem dL_builds_220 : decode cL_builds 220 = .ok (.goto (-139), 3) := by decide +kernel
theorem dL_builds_223 : decode cL_builds 223 = .ok (.aload_n 0, 1) := by decide +kernel
theorem dL_builds_224 : decode cL_builds 224 = .ok (.getfield 10, 3) := by decide +kernel
theorem dL_builds_227 : decode cL_builds 227 = .ok (.bipush 10, 2) := by decide +kernel
theorem dL_builds_229 : decode cL_builds 229 = .ok (.aload_n 0, 1) := by decide +kernel
theorem dL_builds_230 : decode cL_builds 230 = .ok (.bipush 80, 2) := by decide +kernel
theorem dL_builds_232 : decode cL_builds 232 = .ok (.invokevirtual 123, 3) := by decide +kernel
theorem dL_builds_235 : decode cL_builds 235 = .ok (.iadd, 1) := by decide +kernel
theorem dL_builds_236 : decode cL_builds 236 = .ok (.iconst 1, 1) := by decide +kernel
theorem dL_builds_237 : decode cL_builds 237 = .ok (.aload_n 0, 1) := by decide +kernel
theorem dL_builds_238 : decode cL_builds 238 = .ok (.bipush 6, 2) := by decide +kernel
theorem dL_builds_240 : decode cL_builds 240 = .ok (.invokevirtual 123, 3) := by decide +kernel
theorem dL_builds_243 : decode cL_builds 243 = .ok (.iadd, 1) := by decide +kernel
theorem dL_builds_244 : decode cL_builds 244 = .ok (.aload_n 0, 1) := by decide +kernel
theorem dL_builds_245 : decode cL_builds 245 = .ok (.ldc 135, 2) := by decide +kernel
theorem dL_builds_247 : decode cL_builds 247 = .ok (.invokevirtual 123, 3) := by decide +kernel
theorem dL_builds_250 : decode cL_builds 250 = .ok (.invokestatic 136, 3) := by decide +kernel
theorem dL_builds_253 : decode cL_builds 253 = .ok (.ifCond .ne 24, 3) := by decide +kernel
theorem dL_builds_256 : decode cL_builds 256 = .ok (.aload_n 0, 1) := by decide +kernel
theorem dL_builds_257 : decode cL_builds 257 = .ok (.getfield 10, 3) := by decide +kernel
theorem dL_builds_260 : decode cL_builds 260 = .ok (.iload_n 1, 1) := by decide +kernel
theorem dL_builds_261 : decode cL_builds 261 = .ok (.iconst 0, 1) := by decide +kernel
theorem dL_builds_262 : decode cL_builds 262 = .ok (.iconst 0, 1) := by decide +kernel
theorem dL_builds_263 : decode cL_builds 263 = .ok (.iconst 0, 1) := by decide +kernel
theorem dL_builds_264 : decode cL_builds 264 = .ok (.iconst 0, 1) := by decide +kernel
theorem dL_builds_265 : decode cL_builds 265 = .ok (.invokestatic 132, 3) := by decide +kernel
theorem dL_builds_268 : decode cL_builds 268 = .ok (.bipush (-101), 2) := by decide +kernel
theorem dL_builds_270 : decode cL_builds 270 = .ok (.if_icmp .ne 7, 3) := by decide +kernel
theorem dL_builds_273 : decode cL_builds 273 = .ok (.iconst 1, 1) := by decide +kernel
theorem dL_builds_274 : decode cL_builds 274 = .ok (.goto 4, 3) := by decide +kernel
theorem dL_builds_277 : decode cL_builds 277 = .ok (.iconst 0, 1) := by decide +kernel
theorem dL_builds_278 : decode cL_builds 278 = .ok (.ireturn, 1) := by decide +kernel
theorem dL_ways_0 : decode cL_ways 0 = .ok (.aload_n 0, 1) := by decide +kernel
theorem dL_ways_1 : decode cL_ways 1 = .ok (.getfield 10, 3) := by decide +kernel
theorem dL_ways_4 : decode cL_ways 4 = .ok (.iconst 0, 1) := by decide +kernel
theorem dL_ways_5 : decode cL_ways 5 = .ok (.invokestatic 129, 3) := by decide +kernel
theorem dL_ways_8 : decode cL_ways 8 = .ok (.istore_n 1, 1) := by decide +kernel
theorem dL_ways_9 : decode cL_ways 9 = .ok (.aload_n 0, 1) := by decide +kernel
theorem dL_ways_10 : decode cL_ways 10 = .ok (.iload_n 1, 1) := by decide +kernel
theorem dL_ways_11 : decode cL_ways 11 = .ok (.invokevirtual 123, 3) := by decide +kernel
theorem dL_ways_14 : decode cL_ways 14 = .ok (.istore_n 2, 1) := by decide +kernel
theorem dL_ways_15 : decode cL_ways 15 = .ok (.aload_n 0, 1) := by decide +kernel
theorem dL_ways_16 : decode cL_ways 16 = .ok (.iload_n 1, 1) := by decide +kernel
theorem dL_ways_17 : decode cL_ways 17 = .ok (.invokevirtual 123, 3) := by decide +kernel
theorem dL_ways_20 : decode cL_ways 20 = .ok (.istore_n 3, 1) := by decide +kernel
theorem dL_ways_21 : decode cL_ways 21 = .ok (.aload_n 0, 1) := by decide +kernel
theorem dL_ways_22 : decode cL_ways 22 = .ok (.sipush 200, 3) := by decide +kernel
theorem dL_ways_25 : decode cL_ways 25 = .ok (.invokevirtual 123, 3) := by decide +kernel
theorem dL_ways_28 : decode cL_ways 28 = .ok (.istore 4, 2) := by decide +kernel
theorem dL_ways_30 : decode cL_ways 30 = .ok (.iload_n 2, 1) := by decide +kernel
theorem dL_ways_31 : decode cL_ways 31 = .ok (.iload_n 3, 1) := by decide +kernel
theorem dL_ways_32 : decode cL_ways 32 = .ok (.if_icmp .ne 26, 3) := by decide +kernel
theorem dL_ways_35 : decode cL_ways 35 = .ok (.aload_n 0, 1) := by decide +kernel
theorem dL_ways_36 : decode cL_ways 36 = .ok (.getfield 10, 3) := by decide +kernel
theorem dL_ways_39 : decode cL_ways 39 = .ok (.iload_n 2, 1) := by decide +kernel
theorem dL_ways_40 : decode cL_ways 40 = .ok (.iload_n 3, 1) := by decide +kernel
theorem dL_ways_41 : decode cL_ways 41 = .ok (.iload 4, 2) := by decide +kernel
theorem dL_ways_43 : decode cL_ways 43 = .ok (.iconst 0, 1) := by decide +kernel
theorem dL_ways_44 : decode cL_ways 44 = .ok (.invokestatic 138, 3) := by decide +kernel
theorem dL_ways_47 : decode cL_ways 47 = .ok (.bipush (-102), 2) := by decide +kernel
theorem dL_ways_49 : decode cL_ways 49 = .ok (.if_icmp .ne 7, 3) := by decide +kernel
theorem dL_ways_52 : decode cL_ways 52 = .ok (.iconst 1, 1) := by decide +kernel
theorem dL_ways_53 : decode cL_ways 53 = .ok (.goto 4, 3) := by decide +kernel
theorem dL_ways_56 : decode cL_ways 56 = .ok (.iconst 0, 1) := by decide +kernel
theorem dL_ways_57 : decode cL_ways 57 = .ok (.ireturn, 1) := by decide +kernel
theorem dL_ways_58 : decode cL_ways 58 = .ok (.aload_n 0, 1) := by decide +kernel
theorem dL_ways_59 : decode cL_ways 59 = .ok (.getfield 10, 3) := by decide +kernel
theorem dL_ways_62 : decode cL_ways 62 = .ok (.iload_n 2, 1) := by decide +kernel
theorem dL_ways_63 : decode cL_ways 63 = .ok (.iload_n 3, 1) := by decide +kernel
theorem dL_ways_64 : decode cL_ways 64 = .ok (.iload 4, 2) := by decide +kernel
theorem dL_ways_66 : decode cL_ways 66 = .ok (.iconst 0, 1) := by decide +kernel
theorem dL_ways_67 : decode cL_ways 67 = .ok (.invokestatic 138, 3) := by decide +kernel
theorem dL_ways_70 : decode cL_ways 70 = .ok (.istore 5, 2) := by decide +kernel
theorem dL_ways_72 : decode cL_ways 72 = .ok (.aload_n 0, 1) := by decide +kernel
theorem dL_ways_73 : decode cL_ways 73 = .ok (.getfield 10, 3) := by decide +kernel
theorem dL_ways_76 : decode cL_ways 76 = .ok (.iload_n 2, 1) := by decide +kernel
theorem dL_ways_77 : decode cL_ways 77 = .ok (.iload_n 3, 1) := by decide +kernel
theorem dL_ways_78 : decode cL_ways 78 = .ok (.iload 4, 2) := by decide +kernel
theorem dL_ways_80 : decode cL_ways 80 = .ok (.iconst 1, 1) := by decide +kernel
theorem dL_ways_81 : decode cL_ways 81 = .ok (.invokestatic 138, 3) := by decide +kernel
theorem dL_ways_84 : decode cL_ways 84 = .ok (.istore 6, 2) := by decide +kernel
theorem dL_ways_86 : decode cL_ways 86 = .ok (.aload_n 0, 1) := by decide +kernel
theorem dL_ways_87 : decode cL_ways 87 = .ok (.getfield 10, 3) := by decide +kernel
theorem dL_ways_90 : decode cL_ways 90 = .ok (.iload_n 2, 1) := by decide +kernel
theorem dL_ways_91 : decode cL_ways 91 = .ok (.iload_n 3, 1) := by decide +kernel
theorem dL_ways_92 : decode cL_ways 92 = .ok (.iload 4, 2) := by decide +kernel
theorem dL_ways_94 : decode cL_ways 94 = .ok (.iconst 2, 1) := by decide +kernel
theorem dL_ways_95 : decode cL_ways 95 = .ok (.invokestatic 138, 3) := by decide +kernel
theorem dL_ways_98 : decode cL_ways 98 = .ok (.istore 7, 2) := by decide +kernel
theorem dL_ways_100 : decode cL_ways 100 = .ok (.aload_n 0, 1) := by decide +kernel
theorem dL_ways_101 : decode cL_ways 101 = .ok (.getfield 10, 3) := by decide +kernel
theorem dL_ways_104 : decode cL_ways 104 = .ok (.iload_n 2, 1) := by decide +kernel
theorem dL_ways_105 : decode cL_ways 105 = .ok (.iload_n 3, 1) := by decide +kernel
theorem dL_ways_106 : decode cL_ways 106 = .ok (.iload 4, 2) := by decide +kernel
theorem dL_ways_108 : decode cL_ways 108 = .ok (.iconst 1, 1) := by decide +kernel
theorem dL_ways_109 : decode cL_ways 109 = .ok (.iadd, 1) := by decide +kernel
theorem dL_ways_110 : decode cL_ways 110 = .ok (.iconst 0, 1) := by decide +kernel
theorem dL_ways_111 : decode cL_ways 111 = .ok (.invokestatic 138, 3) := by decide +kernel
theorem dL_ways_114 : decode cL_ways 114 = .ok (.istore 8, 2) := by decide +kernel
theorem dL_ways_116 : decode cL_ways 116 = .ok (.iload 5, 2) := by decide +kernel
theorem dL_ways_118 : decode cL_ways 118 = .ok (.ifCond .ge 42, 3) := by decide +kernel
theorem dL_ways_121 : decode cL_ways 121 = .ok (.iload 5, 2) := by decide +kernel
theorem dL_ways_123 : decode cL_ways 123 = .ok (.iconst (-1), 1) := by decide +kernel
theorem dL_ways_124 : decode cL_ways 124 = .ok (.if_icmp .ne 34, 3) := by decide +kernel
theorem dL_ways_127 : decode cL_ways 127 = .ok (.iload 6, 2) := by decide +kernel
theorem dL_ways_129 : decode cL_ways 129 = .ok (.iconst (-1), 1) := by decide +kernel
theorem dL_ways_130 : decode cL_ways 130 = .ok (.if_icmp .ne 28, 3) := by decide +kernel
theorem dL_ways_133 : decode cL_ways 133 = .ok (.iload 7, 2) := by decide +kernel
theorem dL_ways_135 : decode cL_ways 135 = .ok (.iconst (-1), 1) := by decide +kernel
theorem dL_ways_136 : decode cL_ways 136 = .ok (.if_icmp .ne 22, 3) := by decide +kernel
theorem dL_ways_139 : decode cL_ways 139 = .ok (.iload 8, 2) := by decide +kernel
theorem dL_ways_141 : decode cL_ways 141 = .ok (.ifCond .lt 13, 3) := by decide +kernel
theorem dL_ways_144 : decode cL_ways 144 = .ok (.iload 8, 2) := by decide +kernel
theorem dL_ways_146 : decode cL_ways 146 = .ok (.iload 4, 2) := by decide +kernel
theorem dL_ways_148 : decode cL_ways 148 = .ok (.bipush 25, 2) := by decide +kernel
theorem dL_ways_150 : decode cL_ways 150 = .ok (.iadd, 1) := by decide +kernel
theorem dL_ways_151 : decode cL_ways 151 = .ok (.if_icmp .ne 7, 3) := by decide +kernel
theorem dL_ways_154 : decode cL_ways 154 = .ok (.iconst 1, 1) := by decide +kernel
theorem dL_ways_155 : decode cL_ways 155 = .ok (.goto 4, 3) := by decide +kernel
theorem dL_ways_158 : decode cL_ways 158 = .ok (.iconst 0, 1) := by decide +kernel
theorem dL_ways_159 : decode cL_ways 159 = .ok (.ireturn, 1) := by decide +kernel
theorem dL_ways_160 : decode cL_ways 160 = .ok (.iload 5, 2) := by decide +kernel
theorem dL_ways_162 : decode cL_ways 162 = .ok (.iload 4, 2) := by decide +kernel
theorem dL_ways_164 : decode cL_ways 164 = .ok (.if_icmp .le 37, 3) := by decide +kernel
theorem dL_ways_167 : decode cL_ways 167 = .ok (.iload 5, 2) := by decide +kernel
theorem dL_ways_169 : decode cL_ways 169 = .ok (.iload 4, 2) := by decide +kernel
theorem dL_ways_171 : decode cL_ways 171 = .ok (.bipush 24, 2) := by decide +kernel
theorem dL_ways_173 : decode cL_ways 173 = .ok (.iadd, 1) := by decide +kernel
theorem dL_ways_174 : decode cL_ways 174 = .ok (.if_icmp .gt 27, 3) := by decide +kernel
theorem dL_ways_177 : decode cL_ways 177 = .ok (.iload 6, 2) := by decide +kernel
theorem dL_ways_179 : decode cL_ways 179 = .ok (.iconst 1, 1) := by decide +kernel
theorem dL_ways_180 : decode cL_ways 180 = .ok (.if_icmp .lt 21, 3) := by decide +kernel
theorem dL_ways_183 : decode cL_ways 183 = .ok (.iload 6, 2) := by decide +kernel
theorem dL_ways_185 : decode cL_ways 185 = .ok (.iload_n 1, 1) := by decide +kernel
theorem dL_ways_186 : decode cL_ways 186 = .ok (.iconst 1, 1) := by decide +kernel
theorem dL_ways_187 : decode cL_ways 187 = .ok (.isub, 1) := by decide +kernel
theorem dL_ways_188 : decode cL_ways 188 = .ok (.if_icmp .gt 13, 3) := by decide +kernel
theorem dL_ways_191 : decode cL_ways 191 = .ok (.iload 6, 2) := by decide +kernel
theorem dL_ways_193 : decode cL_ways 193 = .ok (.iload 5, 2) := by decide +kernel
theorem dL_ways_195 : decode cL_ways 195 = .ok (.iload 4, 2) := by decide +kernel
theorem dL_ways_197 : decode cL_ways 197 = .ok (.isub, 1) := by decide +kernel
theorem dL_ways_198 : decode cL_ways 198 = .ok (.if_icmp .le 5, 3) := by decide +kernel
theorem dL_ways_201 : decode cL_ways 201 = .ok (.iconst 0, 1) := by decide +kernel
theorem dL_ways_202 : decode cL_ways 202 = .ok (.ireturn, 1) := by decide +kernel
theorem dL_ways_203 : decode cL_ways 203 = .ok (.iload 7, 2) := by decide +kernel
theorem dL_ways_205 : decode cL_ways 205 = .ok (.ifCond .lt 96, 3) := by decide +kernel
theorem dL_ways_208 : decode cL_ways 208 = .ok (.iload 7, 2) := by decide +kernel
theorem dL_ways_210 : decode cL_ways 210 = .ok (.iload_n 2, 1) := by decide +kernel
theorem dL_ways_211 : decode cL_ways 211 = .ok (.if_icmp .eq 9, 3) := by decide +kernel
theorem dL_ways_214 : decode cL_ways 214 = .ok (.iload 7, 2) := by decide +kernel
theorem dL_ways_216 : decode cL_ways 216 = .ok (.iload_n 1, 1) := by decide +kernel
theorem dL_ways_217 : decode cL_ways 217 = .ok (.if_icmp .lt 5, 3) := by decide +kernel
theorem dL_ways_220 : decode cL_ways 220 = .ok (.iconst 0, 1) := by decide +kernel
theorem dL_ways_221 : decode cL_ways 221 = .ok (.ireturn, 1) := by decide +kernel
theorem dL_ways_222 : decode cL_ways 222 = .ok (.iload 7, 2) := by decide +kernel
theorem dL_ways_224 : decode cL_ways 224 = .ok (.iload_n 3, 1) := by decide +kernel
theorem dL_ways_225 : decode cL_ways 225 = .ok (.if_icmp .ne 10, 3) := by decide +kernel
theorem dL_ways_228 : decode cL_ways 228 = .ok (.iload 4, 2) := by decide +kernel
theorem dL_ways_230 : decode cL_ways 230 = .ok (.iconst 1, 1) := by decide +kernel
theorem dL_ways_231 : decode cL_ways 231 = .ok (.iadd, 1) := by decide +kernel
theorem dL_ways_232 : decode cL_ways 232 = .ok (.goto 18, 3) := by decide +kernel
theorem dL_ways_235 : decode cL_ways 235 = .ok (.aload_n 0, 1) := by decide +kernel
theorem dL_ways_236 : decode cL_ways 236 = .ok (.getfield 10, 3) := by decide +kernel
theorem dL_ways_239 : decode cL_ways 239 = .ok (.iload 7, 2) := by decide +kernel
theorem dL_ways_241 : decode cL_ways 241 = .ok (.iload_n 3, 1) := by decide +kernel
theorem dL_ways_242 : decode cL_ways 242 = .ok (.iload 4, 2) := by decide +kernel
theorem dL_ways_244 : decode cL_ways 244 = .ok (.iconst 1, 1) := by decide +kernel
theorem dL_ways_245 : decode cL_ways 245 = .ok (.iadd, 1) := by decide +kernel
theorem dL_ways_246 : decode cL_ways 246 = .ok (.iconst 0, 1) := by decide +kernel
theorem dL_ways_247 : decode cL_ways 247 = .ok (.invokestatic 138, 3) := by decide +kernel
theorem dL_ways_250 : decode cL_ways 250 = .ok (.istore 9, 2) := by decide +kernel
theorem dL_ways_252 : decode cL_ways 252 = .ok (.iload 7, 2) := by decide +kernel
theorem dL_ways_254 : decode cL_ways 254 = .ok (.iload_n 3, 1) := by decide +kernel
theorem dL_ways_255 : decode cL_ways 255 = .ok (.if_icmp .ne 7, 3) := by decide +kernel
theorem dL_ways_258 : decode cL_ways 258 = .ok (.iconst 0, 1) := by decide +kernel
theorem dL_ways_259 : decode cL_ways 259 = .ok (.goto 18, 3) := by decide +kernel
theorem dL_ways_262 : decode cL_ways 262 = .ok (.aload_n 0, 1) := by decide +kernel
theorem dL_ways_263 : decode cL_ways 263 = .ok (.getfield 10, 3) := by decide +kernel
theorem dL_ways_266 : decode cL_ways 266 = .ok (.iload 7, 2) := by decide +kernel
theorem dL_ways_268 : decode cL_ways 268 = .ok (.iload_n 3, 1) := by decide +kernel
theorem dL_ways_269 : decode cL_ways 269 = .ok (.iload 4, 2) := by decide +kernel
theorem dL_ways_271 : decode cL_ways 271 = .ok (.iconst 1, 1) := by decide +kernel
theorem dL_ways_272 : decode cL_ways 272 = .ok (.iadd, 1) := by decide +kernel
theorem dL_ways_273 : decode cL_ways 273 = .ok (.iconst 1, 1) := by decide +kernel
theorem dL_ways_274 : decode cL_ways 274 = .ok (.invokestatic 138, 3) := by decide +kernel
theorem dL_ways_277 : decode cL_ways 277 = .ok (.istore 10, 2) := by decide +kernel
theorem dL_ways_279 : decode cL_ways 279 = .ok (.iload 9, 2) := by decide +kernel
theorem dL_ways_281 : decode cL_ways 281 = .ok (.iload 5, 2) := by decide +kernel
theorem dL_ways_283 : decode cL_ways 283 = .ok (.if_icmp .ne 16, 3) := by decide +kernel
theorem dL_ways_286 : decode cL_ways 286 = .ok (.iload 10, 2) := by decide +kernel
theorem dL_ways_288 : decode cL_ways 288 = .ok (.iload 6, 2) := by decide +kernel
theorem dL_ways_290 : decode cL_ways 290 = .ok (.iconst 1, 1) := by decide +kernel
theorem dL_ways_291 : decode cL_ways 291 = .ok (.isub, 1) := by decide +kernel
theorem dL_ways_292 : decode cL_ways 292 = .ok (.if_icmp .ne 7, 3) := by decide +kernel
theorem dL_ways_295 : decode cL_ways 295 = .ok (.iconst 1, 1) := by decide +kernel
theorem dL_ways_296 : decode cL_ways 296 = .ok (.goto 4, 3) := by decide +kernel
theorem dL_ways_299 : decode cL_ways 299 = .ok (.iconst 0, 1) := by decide +kernel
theorem dL_ways_300 : decode cL_ways 300 = .ok (.ireturn, 1) := by decide +kernel
theorem dL_ways_301 : decode cL_ways 301 = .ok (.iload 8, 2) := by decide +kernel
theorem dL_ways_303 : decode cL_ways 303 = .ok (.iload 5, 2) := by decide +kernel
theorem dL_ways_305 : decode cL_ways 305 = .ok (.if_icmp .ne 26, 3) := by decide +kernel
theorem dL_ways_308 : decode cL_ways 308 = .ok (.aload_n 0, 1) := by decide +kernel
theorem dL_ways_309 : decode cL_ways 309 = .ok (.getfield 10, 3) := by decide +kernel
theorem dL_ways_312 : decode cL_ways 312 = .ok (.iload_n 2, 1) := by decide +kernel
theorem dL_ways_313 : decode cL_ways 313 = .ok (.iload_n 3, 1) := by decide +kernel
theorem dL_ways_314 : decode cL_ways 314 = .ok (.iload 4, 2) := by decide +kernel
theorem dL_ways_316 : decode cL_ways 316 = .ok (.iconst 1, 1) := by decide +kernel
theorem dL_ways_317 : decode cL_ways 317 = .ok (.iadd, 1) := by decide +kernel
theorem dL_ways_318 : decode cL_ways 318 = .ok (.iconst 1, 1) := by decide +kernel
theorem dL_ways_319 : decode cL_ways 319 = .ok (.invokestatic 138, 3) := by decide +kernel
theorem dL_ways_322 : decode cL_ways 322 = .ok (.iload 6, 2) := by decide +kernel
theorem dL_ways_324 : decode cL_ways 324 = .ok (.if_icmp .ne 7, 3) := by decide +kernel
theorem dL_ways_327 : decode cL_ways 327 = .ok (.iconst 1, 1) := by decide +kernel
theorem dL_ways_328 : decode cL_ways 328 = .ok (.goto 4, 3) := by decide +kernel
theorem dL_ways_331 : decode cL_ways 331 = .ok (.iconst 0, 1) := by decide +kernel
theorem dL_ways_332 : decode cL_ways 332 = .ok (.ireturn, 1) := by decide +kernel
theorem dL_sendsOff_0 : decode cL_sendsOff 0 = .ok (.aload_n 0, 1) := by decide +kernel
theorem dL_sendsOff_1 : decode cL_sendsOff 1 = .ok (.getfield 10, 3) := by decide +kernel
theorem dL_sendsOff_4 : decode cL_sendsOff 4 = .ok (.iconst 0, 1) := by decide +kernel
theorem dL_sendsOff_5 : decode cL_sendsOff 5 = .ok (.invokestatic 129, 3) := by decide +kernel
theorem dL_sendsOff_8 : decode cL_sendsOff 8 = .ok (.istore_n 1, 1) := by decide +kernel
theorem dL_sendsOff_9 : decode cL_sendsOff 9 = .ok (.aload_n 0, 1) := by decide +kernel
theorem dL_sendsOff_10 : decode cL_sendsOff 10 = .ok (.iload_n 1, 1) := by decide +kernel
theorem dL_sendsOff_11 : decode cL_sendsOff 11 = .ok (.invokevirtual 123, 3) := by decide +kernel
theorem dL_sendsOff_14 : decode cL_sendsOff 14 = .ok (.istore_n 2, 1) := by decide +kernel
theorem dL_sendsOff_15 : decode cL_sendsOff 15 = .ok (.aload_n 0, 1) := by decide +kernel
theorem dL_sendsOff_16 : decode cL_sendsOff 16 = .ok (.iload_n 1, 1) := by decide +kernel
theorem dL_sendsOff_17 : decode cL_sendsOff 17 = .ok (.invokevirtual 123, 3) := by decide +kernel
theorem dL_sendsOff_20 : decode cL_sendsOff 20 = .ok (.istore_n 3, 1) := by decide +kernel
theorem dL_sendsOff_21 : decode cL_sendsOff 21 = .ok (.aload_n 0, 1) := by decide +kernel
theorem dL_sendsOff_22 : decode cL_sendsOff 22 = .ok (.getfield 10, 3) := by decide +kernel
theorem dL_sendsOff_25 : decode cL_sendsOff 25 = .ok (.iconst 2, 1) := by decide +kernel
theorem dL_sendsOff_26 : decode cL_sendsOff 26 = .ok (.invokestatic 129, 3) := by decide +kernel
theorem dL_sendsOff_29 : decode cL_sendsOff 29 = .ok (.istore 4, 2) := by decide +kernel
theorem dL_sendsOff_31 : decode cL_sendsOff 31 = .ok (.aload_n 0, 1) := by decide +kernel
theorem dL_sendsOff_32 : decode cL_sendsOff 32 = .ok (.getfield 10, 3) := by decide +kernel
theorem dL_sendsOff_35 : decode cL_sendsOff 35 = .ok (.bipush 13, 2) := by decide +kernel
theorem dL_sendsOff_37 : decode cL_sendsOff 37 = .ok (.invokestatic 129, 3) := by decide +kernel
theorem dL_sendsOff_40 : decode cL_sendsOff 40 = .ok (.istore 5, 2) := by decide +kernel
theorem dL_sendsOff_42 : decode cL_sendsOff 42 = .ok (.iload_n 2, 1) := by decide +kernel
theorem dL_sendsOff_43 : decode cL_sendsOff 43 = .ok (.iload_n 3, 1) := by decide +kernel
theorem dL_sendsOff_44 : decode cL_sendsOff 44 = .ok (.if_icmp .eq 10, 3) := by decide +kernel
theorem dL_sendsOff_47 : decode cL_sendsOff 47 = .ok (.iload 4, 2) := by decide +kernel
theorem dL_sendsOff_49 : decode cL_sendsOff 49 = .ok (.bipush 24, 2) := by decide +kernel
theorem dL_sendsOff_51 : decode cL_sendsOff 51 = .ok (.if_icmp .ne 61, 3) := by decide +kernel
theorem dL_sendsOff_54 : decode cL_sendsOff 54 = .ok (.aload_n 0, 1) := by decide +kernel
theorem dL_sendsOff_55 : decode cL_sendsOff 55 = .ok (.getfield 10, 3) := by decide +kernel
theorem dL_sendsOff_58 : decode cL_sendsOff 58 = .ok (.iload_n 2, 1) := by decide +kernel
theorem dL_sendsOff_59 : decode cL_sendsOff 59 = .ok (.iload_n 3, 1) := by decide +kernel
theorem dL_sendsOff_60 : decode cL_sendsOff 60 = .ok (.iconst 0, 1) := by decide +kernel
theorem dL_sendsOff_61 : decode cL_sendsOff 61 = .ok (.invokestatic 141, 3) := by decide +kernel
theorem dL_sendsOff_64 : decode cL_sendsOff 64 = .ok (.iload_n 2, 1) := by decide +kernel
theorem dL_sendsOff_65 : decode cL_sendsOff 65 = .ok (.iload_n 3, 1) := by decide +kernel
theorem dL_sendsOff_66 : decode cL_sendsOff 66 = .ok (.if_icmp .ne 8, 3) := by decide +kernel
theorem dL_sendsOff_69 : decode cL_sendsOff 69 = .ok (.bipush (-102), 2) := by decide +kernel
theorem dL_sendsOff_71 : decode cL_sendsOff 71 = .ok (.goto 5, 3) := by decide +kernel
theorem dL_sendsOff_74 : decode cL_sendsOff 74 = .ok (.bipush (-103), 2) := by decide +kernel
theorem dL_sendsOff_76 : decode cL_sendsOff 76 = .ok (.if_icmp .ne 34, 3) := by decide +kernel
theorem dL_sendsOff_79 : decode cL_sendsOff 79 = .ok (.aload_n 0, 1) := by decide +kernel
theorem dL_sendsOff_80 : decode cL_sendsOff 80 = .ok (.getfield 10, 3) := by decide +kernel
theorem dL_sendsOff_83 : decode cL_sendsOff 83 = .ok (.iconst 2, 1) := by decide +kernel
theorem dL_sendsOff_84 : decode cL_sendsOff 84 = .ok (.invokestatic 129, 3) := by decide +kernel
theorem dL_sendsOff_87 : decode cL_sendsOff 87 = .ok (.iload 4, 2) := by decide +kernel
theorem dL_sendsOff_89 : decode cL_sendsOff 89 = .ok (.if_icmp .ne 21, 3) := by decide +kernel
theorem dL_sendsOff_92 : decode cL_sendsOff 92 = .ok (.aload_n 0, 1) := by decide +kernel
theorem dL_sendsOff_93 : decode cL_sendsOff 93 = .ok (.getfield 10, 3) := by decide +kernel
theorem dL_sendsOff_96 : decode cL_sendsOff 96 = .ok (.bipush 13, 2) := by decide +kernel
theorem dL_sendsOff_98 : decode cL_sendsOff 98 = .ok (.invokestatic 129, 3) := by decide +kernel
theorem dL_sendsOff_101 : decode cL_sendsOff 101 = .ok (.iload 5, 2) := by decide +kernel
theorem dL_sendsOff_103 : decode cL_sendsOff 103 = .ok (.if_icmp .ne 7, 3) := by decide +kernel
theorem dL_sendsOff_106 : decode cL_sendsOff 106 = .ok (.iconst 1, 1) := by decide +kernel
theorem dL_sendsOff_107 : decode cL_sendsOff 107 = .ok (.goto 4, 3) := by decide +kernel
theorem dL_sendsOff_110 : decode cL_sendsOff 110 = .ok (.iconst 0, 1) := by decide +kernel
theorem dL_sendsOff_111 : decode cL_sendsOff 111 = .ok (.ireturn, 1) := by decide +kernel
theorem dL_sendsOff_112 : decode cL_sendsOff 112 = .ok (.aload_n 0, 1) := by decide +kernel
theorem dL_sendsOff_113 : decode cL_sendsOff 113 = .ok (.getfield 10, 3) := by decide +kernel
theorem dL_sendsOff_116 : decode cL_sendsOff 116 = .ok (.iload_n 2, 1) := by decide +kernel
theorem dL_sendsOff_117 : decode cL_sendsOff 117 = .ok (.iload_n 3, 1) := by decide +kernel
theorem dL_sendsOff_118 : decode cL_sendsOff 118 = .ok (.aload_n 0, 1) := by decide +kernel
theorem dL_sendsOff_119 : decode cL_sendsOff 119 = .ok (.iconst 4, 1) := by decide +kernel
theorem dL_sendsOff_120 : decode cL_sendsOff 120 = .ok (.invokevirtual 123, 3) := by decide +kernel
theorem dL_sendsOff_123 : decode cL_sendsOff 123 = .ok (.invokestatic 141, 3) := by decide +kernel
theorem dL_sendsOff_126 : decode cL_sendsOff 126 = .ok (.iload 4, 2) := by decide +kernel
theorem dL_sendsOff_128 : decode cL_sendsOff 128 = .ok (.if_icmp .ne 108, 3) := by decide +kernel
theorem dL_sendsOff_131 : decode cL_sendsOff 131 = .ok (.aload_n 0, 1) := by decide +kernel
theorem dL_sendsOff_132 : decode cL_sendsOff 132 = .ok (.getfield 10, 3) := by decide +kernel
theorem dL_sendsOff_135 : decode cL_sendsOff 135 = .ok (.iload 4, 2) := by decide +kernel
theorem dL_sendsOff_137 : decode cL_sendsOff 137 = .ok (.iconst 4, 1) := by decide +kernel
theorem dL_sendsOff_138 : decode cL_sendsOff 138 = .ok (.invokestatic 143, 3) := by decide +kernel
theorem dL_sendsOff_141 : decode cL_sendsOff 141 = .ok (.ifCond .ne 95, 3) := by decide +kernel
theorem dL_sendsOff_144 : decode cL_sendsOff 144 = .ok (.aload_n 0, 1) := by decide +kernel
theorem dL_sendsOff_145 : decode cL_sendsOff 145 = .ok (.getfield 10, 3) := by decide +kernel
theorem dL_sendsOff_148 : decode cL_sendsOff 148 = .ok (.iload 4, 2) := by decide +kernel
theorem dL_sendsOff_150 : decode cL_sendsOff 150 = .ok (.iload_n 2, 1) := by decide +kernel
theorem dL_sendsOff_151 : decode cL_sendsOff 151 = .ok (.iconst 0, 1) := by decide +kernel
theorem dL_sendsOff_152 : decode cL_sendsOff 152 = .ok (.invokestatic 146, 3) := by decide +kernel
theorem dL_sendsOff_155 : decode cL_sendsOff 155 = .ok (.iconst 1, 1) := by decide +kernel
theorem dL_sendsOff_156 : decode cL_sendsOff 156 = .ok (.if_icmp .ne 80, 3) := by decide +kernel
theorem dL_sendsOff_159 : decode cL_sendsOff 159 = .ok (.aload_n 0, 1) := by decide +kernel
theorem dL_sendsOff_160 : decode cL_sendsOff 160 = .ok (.getfield 10, 3) := by decide +kernel
theorem dL_sendsOff_163 : decode cL_sendsOff 163 = .ok (.iload 4, 2) := by decide +kernel
theorem dL_sendsOff_165 : decode cL_sendsOff 165 = .ok (.iload_n 2, 1) := by decide +kernel
theorem dL_sendsOff_166 : decode cL_sendsOff 166 = .ok (.iconst 3, 1) := by decide +kernel
theorem dL_sendsOff_167 : decode cL_sendsOff 167 = .ok (.invokestatic 146, 3) := by decide +kernel
theorem dL_sendsOff_170 : decode cL_sendsOff 170 = .ok (.iconst 1, 1) := by decide +kernel
theorem dL_sendsOff_171 : decode cL_sendsOff 171 = .ok (.if_icmp .ne 65, 3) := by decide +kernel
theorem dL_sendsOff_174 : decode cL_sendsOff 174 = .ok (.aload_n 0, 1) := by decide +kernel
theorem dL_sendsOff_175 : decode cL_sendsOff 175 = .ok (.getfield 10, 3) := by decide +kernel
theorem dL_sendsOff_178 : decode cL_sendsOff 178 = .ok (.iload 4, 2) := by decide +kernel
theorem dL_sendsOff_180 : decode cL_sendsOff 180 = .ok (.iload_n 2, 1) := by decide +kernel
theorem dL_sendsOff_181 : decode cL_sendsOff 181 = .ok (.iconst 0, 1) := by decide +kernel
theorem dL_sendsOff_182 : decode cL_sendsOff 182 = .ok (.invokestatic 148, 3) := by decide +kernel
theorem dL_sendsOff_185 : decode cL_sendsOff 185 = .ok (.iload_n 2, 1) := by decide +kernel
theorem dL_sendsOff_186 : decode cL_sendsOff 186 = .ok (.if_icmp .ne 50, 3) := by decide +kernel
theorem dL_sendsOff_189 : decode cL_sendsOff 189 = .ok (.aload_n 0, 1) := by decide +kernel
theorem dL_sendsOff_190 : decode cL_sendsOff 190 = .ok (.getfield 10, 3) := by decide +kernel
theorem dL_sendsOff_193 : decode cL_sendsOff 193 = .ok (.bipush 13, 2) := by decide +kernel
theorem dL_sendsOff_195 : decode cL_sendsOff 195 = .ok (.invokestatic 129, 3) := by decide +kernel
theorem dL_sendsOff_198 : decode cL_sendsOff 198 = .ok (.bipush 40, 2) := by decide +kernel
theorem dL_sendsOff_200 : decode cL_sendsOff 200 = .ok (.iload 5, 2) := by decide +kernel
theorem dL_sendsOff_202 : decode cL_sendsOff 202 = .ok (.iconst 1, 1) := by decide +kernel
theorem dL_sendsOff_203 : decode cL_sendsOff 203 = .ok (.iadd, 1) := by decide +kernel
theorem dL_sendsOff_204 : decode cL_sendsOff 204 = .ok (.invokestatic 150, 3) := by decide +kernel
theorem dL_sendsOff_207 : decode cL_sendsOff 207 = .ok (.if_icmp .ne 29, 3) := by decide +kernel
theorem dL_sendsOff_210 : decode cL_sendsOff 210 = .ok (.aload_n 0, 1) := by decide +kernel
theorem dL_sendsOff_211 : decode cL_sendsOff 211 = .ok (.getfield 10, 3) := by decide +kernel
theorem dL_sendsOff_214 : decode cL_sendsOff 214 = .ok (.aload_n 0, 1) := by decide +kernel
theorem dL_sendsOff_215 : decode cL_sendsOff 215 = .ok (.getfield 10, 3) := by decide +kernel
theorem dL_sendsOff_218 : decode cL_sendsOff 218 = .ok (.bipush 13, 2) := by decide +kernel
theorem dL_sendsOff_220 : decode cL_sendsOff 220 = .ok (.invokestatic 129, 3) := by decide +kernel
theorem dL_sendsOff_223 : decode cL_sendsOff 223 = .ok (.iconst 1, 1) := by decide +kernel
theorem dL_sendsOff_224 : decode cL_sendsOff 224 = .ok (.isub, 1) := by decide +kernel
theorem dL_sendsOff_225 : decode cL_sendsOff 225 = .ok (.iconst 1, 1) := by decide +kernel
theorem dL_sendsOff_226 : decode cL_sendsOff 226 = .ok (.invokestatic 153, 3) := by decide +kernel
theorem dL_sendsOff_229 : decode cL_sendsOff 229 = .ok (.ifCond .ne 7, 3) := by decide +kernel
theorem dL_sendsOff_232 : decode cL_sendsOff 232 = .ok (.iconst 1, 1) := by decide +kernel
theorem dL_sendsOff_233 : decode cL_sendsOff 233 = .ok (.goto 4, 3) := by decide +kernel
theorem dL_sendsOff_236 : decode cL_sendsOff 236 = .ok (.iconst 0, 1) := by decide +kernel
theorem dL_sendsOff_237 : decode cL_sendsOff 237 = .ok (.ireturn, 1) := by decide +kernel
theorem dL_copiesAreSo_0 : decode cL_copiesAreSo 0 = .ok (.aload_n 0, 1) := by decide +kernel
theorem dL_copiesAreSo_1 : decode cL_copiesAreSo 1 = .ok (.getfield 10, 3) := by decide +kernel
theorem dL_copiesAreSo_4 : decode cL_copiesAreSo 4 = .ok (.iconst 0, 1) := by decide +kernel
theorem dL_copiesAreSo_5 : decode cL_copiesAreSo 5 = .ok (.invokestatic 129, 3) := by decide +kernel
theorem dL_copiesAreSo_8 : decode cL_copiesAreSo 8 = .ok (.istore_n 1, 1) := by decide +kernel
theorem dL_copiesAreSo_9 : decode cL_copiesAreSo 9 = .ok (.aload_n 0, 1) := by decide +kernel
theorem dL_copiesAreSo_10 : decode cL_copiesAreSo 10 = .ok (.getfield 10, 3) := by decide +kernel
theorem dL_copiesAreSo_13 : decode cL_copiesAreSo 13 = .ok (.iconst 3, 1) := by decide +kernel
theorem dL_copiesAreSo_14 : decode cL_copiesAreSo 14 = .ok (.invokestatic 129, 3) := by decide +kernel
theorem dL_copiesAreSo_17 : decode cL_copiesAreSo 17 = .ok (.istore_n 2, 1) := by decide +kernel
theorem dL_copiesAreSo_18 : decode cL_copiesAreSo 18 = .ok (.iconst 0, 1) := by decide +kernel
theorem dL_copiesAreSo_19 : decode cL_copiesAreSo 19 = .ok (.istore_n 3, 1) := by decide +kernel
theorem dL_copiesAreSo_20 : decode cL_copiesAreSo 20 = .ok (.iconst 0, 1) := by decide +kernel
theorem dL_copiesAreSo_21 : decode cL_copiesAreSo 21 = .ok (.istore 4, 2) := by decide +kernel
theorem dL_copiesAreSo_23 : decode cL_copiesAreSo 23 = .ok (.iconst 0, 1) := by decide +kernel
theorem dL_copiesAreSo_24 : decode cL_copiesAreSo 24 = .ok (.istore 5, 2) := by decide +kernel
theorem dL_copiesAreSo_26 : decode cL_copiesAreSo 26 = .ok (.iload 5, 2) := by decide +kernel
theorem dL_copiesAreSo_28 : decode cL_copiesAreSo 28 = .ok (.aload_n 0, 1) := by decide +kernel
theorem dL_copiesAreSo_29 : decode cL_copiesAreSo 29 = .ok (.getfield 10, 3) := by decide +kernel
theorem dL_copiesAreSo_32 : decode cL_copiesAreSo 32 = .ok (.iconst 2, 1) := by decide +kernel
theorem dL_copiesAreSo_33 : decode cL_copiesAreSo 33 = .ok (.invokestatic 129, 3) := by decide +kernel
theorem dL_copiesAreSo_36 : decode cL_copiesAreSo 36 = .ok (.if_icmp .ge 541, 3) := by decide +kernel
theorem dL_copiesAreSo_39 : decode cL_copiesAreSo 39 = .ok (.aload_n 0, 1) := by decide +kernel
theorem dL_copiesAreSo_40 : decode cL_copiesAreSo 40 = .ok (.getfield 10, 3) := by decide +kernel
theorem dL_copiesAreSo_43 : decode cL_copiesAreSo 43 = .ok (.iload 5, 2) := by decide +kernel
theorem dL_copiesAreSo_45 : decode cL_copiesAreSo 45 = .ok (.iconst 1, 1) := by decide +kernel
theorem dL_copiesAreSo_46 : decode cL_copiesAreSo 46 = .ok (.invokestatic 143, 3) := by decide +kernel
theorem dL_copiesAreSo_49 : decode cL_copiesAreSo 49 = .ok (.istore 6, 2) := by decide +kernel
theorem dL_copiesAreSo_51 : decode cL_copiesAreSo 51 = .ok (.iconst 0, 1) := by decide +kernel
theorem dL_copiesAreSo_52 : decode cL_copiesAreSo 52 = .ok (.istore 7, 2) := by decide +kernel
theorem dL_copiesAreSo_54 : decode cL_copiesAreSo 54 = .ok (.iconst 0, 1) := by decide +kernel
theorem dL_copiesAreSo_55 : decode cL_copiesAreSo 55 = .ok (.istore 8, 2) := by decide +kernel
theorem dL_copiesAreSo_57 : decode cL_copiesAreSo 57 = .ok (.iload_n 3, 1) := by decide +kernel
theorem dL_copiesAreSo_58 : decode cL_copiesAreSo 58 = .ok (.aload_n 0, 1) := by decide +kernel
theorem dL_copiesAreSo_59 : decode cL_copiesAreSo 59 = .ok (.getfield 10, 3) := by decide +kernel
theorem dL_copiesAreSo_62 : decode cL_copiesAreSo 62 = .ok (.iload 5, 2) := by decide +kernel
theorem dL_copiesAreSo_64 : decode cL_copiesAreSo 64 = .ok (.bipush 7, 2) := by decide +kernel
theorem dL_copiesAreSo_66 : decode cL_copiesAreSo 66 = .ok (.invokestatic 143, 3) := by decide +kernel
theorem dL_copiesAreSo_69 : decode cL_copiesAreSo 69 = .ok (.iadd, 1) := by decide +kernel
theorem dL_copiesAreSo_70 : decode cL_copiesAreSo 70 = .ok (.istore_n 3, 1) := by decide +kernel
theorem dL_copiesAreSo_71 : decode cL_copiesAreSo 71 = .ok (.iload 4, 2) := by decide +kernel
theorem dL_copiesAreSo_73 : decode cL_copiesAreSo 73 = .ok (.aload_n 0, 1) := by decide +kernel
theorem dL_copiesAreSo_74 : decode cL_copiesAreSo 74 = .ok (.getfield 10, 3) := by decide +kernel
theorem dL_copiesAreSo_77 : decode cL_copiesAreSo 77 = .ok (.iload 5, 2) := by decide +kernel
theorem dL_copiesAreSo_79 : decode cL_copiesAreSo 79 = .ok (.bipush 8, 2) := by decide +kernel
theorem dL_copiesAreSo_81 : decode cL_copiesAreSo 81 = .ok (.invokestatic 143, 3) := by decide +kernel
theorem dL_copiesAreSo_84 : decode cL_copiesAreSo 84 = .ok (.iadd, 1) := by decide +kernel
theorem dL_copiesAreSo_85 : decode cL_copiesAreSo 85 = .ok (.istore 4, 2) := by decide +kernel
theorem dL_copiesAreSo_87 : decode cL_copiesAreSo 87 = .ok (.iconst 0, 1) := by decide +kernel
theorem dL_copiesAreSo_88 : decode cL_copiesAreSo 88 = .ok (.istore 9, 2) := by decide +kernel
theorem dL_copiesAreSo_90 : decode cL_copiesAreSo 90 = .ok (.iload 9, 2) := by decide +kernel
theorem dL_copiesAreSo_92 : decode cL_copiesAreSo 92 = .ok (.iload_n 1, 1) := by decide +kernel
theorem dL_copiesAreSo_93 : decode cL_copiesAreSo 93 = .ok (.if_icmp .ge 389, 3) := by decide +kernel
theorem dL_copiesAreSo_96 : decode cL_copiesAreSo 96 = .ok (.aload_n 0, 1) := by decide +kernel
theorem dL_copiesAreSo_97 : decode cL_copiesAreSo 97 = .ok (.getfield 10, 3) := by decide +kernel
theorem dL_copiesAreSo_100 : decode cL_copiesAreSo 100 = .ok (.iload 5, 2) := by decide +kernel
theorem dL_copiesAreSo_102 : decode cL_copiesAreSo 102 = .ok (.iload 9, 2) := by decide +kernel
theorem dL_copiesAreSo_104 : decode cL_copiesAreSo 104 = .ok (.iconst 0, 1) := by decide +kernel
theorem dL_copiesAreSo_105 : decode cL_copiesAreSo 105 = .ok (.invokestatic 146, 3) := by decide +kernel
theorem dL_copiesAreSo_108 : decode cL_copiesAreSo 108 = .ok (.istore 10, 2) := by decide +kernel
theorem dL_copiesAreSo_110 : decode cL_copiesAreSo 110 = .ok (.aload_n 0, 1) := by decide +kernel
theorem dL_copiesAreSo_111 : decode cL_copiesAreSo 111 = .ok (.getfield 10, 3) := by decide +kernel
theorem dL_copiesAreSo_114 : decode cL_copiesAreSo 114 = .ok (.iload 5, 2) := by decide +kernel
theorem dL_copiesAreSo_116 : decode cL_copiesAreSo 116 = .ok (.iload 9, 2) := by decide +kernel
theorem dL_copiesAreSo_118 : decode cL_copiesAreSo 118 = .ok (.iconst 3, 1) := by decide +kernel
theorem dL_copiesAreSo_119 : decode cL_copiesAreSo 119 = .ok (.invokestatic 146, 3) := by decide +kernel
theorem dL_copiesAreSo_122 : decode cL_copiesAreSo 122 = .ok (.istore 11, 2) := by decide +kernel
theorem dL_copiesAreSo_124 : decode cL_copiesAreSo 124 = .ok (.iload 10, 2) := by decide +kernel
theorem dL_copiesAreSo_126 : decode cL_copiesAreSo 126 = .ok (.ifCond .ne 44, 3) := by decide +kernel
theorem dL_copiesAreSo_129 : decode cL_copiesAreSo 129 = .ok (.iload 11, 2) := by decide +kernel
theorem dL_copiesAreSo_131 : decode cL_copiesAreSo 131 = .ok (.iconst (-1), 1) := by decide +kernel
theorem dL_copiesAreSo_132 : decode cL_copiesAreSo 132 = .ok (.if_icmp .ne 36, 3) := by decide +kernel
theorem dL_copiesAreSo_135 : decode cL_copiesAreSo 135 = .ok (.aload_n 0, 1) := by decide +kernel
theorem dL_copiesAreSo_136 : decode cL_copiesAreSo 136 = .ok (.getfield 10, 3) := by decide +kernel
theorem dL_copiesAreSo_139 : decode cL_copiesAreSo 139 = .ok (.iload 5, 2) := by decide +kernel
theorem dL_copiesAreSo_141 : decode cL_copiesAreSo 141 = .ok (.iload 9, 2) := by decide +kernel
theorem dL_copiesAreSo_143 : decode cL_copiesAreSo 143 = .ok (.iconst 1, 1) := by decide +kernel
theorem dL_copiesAreSo_144 : decode cL_copiesAreSo 144 = .ok (.invokestatic 146, 3) := by decide +kernel
theorem dL_copiesAreSo_147 : decode cL_copiesAreSo 147 = .ok (.iconst (-1), 1) := by decide +kernel
theorem dL_copiesAreSo_148 : decode cL_copiesAreSo 148 = .ok (.if_icmp .ne 20, 3) := by decide +kernel
theorem dL_copiesAreSo_151 : decode cL_copiesAreSo 151 = .ok (.aload_n 0, 1) := by decide +kernel
theorem dL_copiesAreSo_152 : decode cL_copiesAreSo 152 = .ok (.getfield 10, 3) := by decide +kernel
theorem dL_copiesAreSo_155 : decode cL_copiesAreSo 155 = .ok (.iload 5, 2) := by decide +kernel
theorem dL_copiesAreSo_157 : decode cL_copiesAreSo 157 = .ok (.iload 9, 2) := by decide +kernel
theorem dL_copiesAreSo_159 : decode cL_copiesAreSo 159 = .ok (.iconst 0, 1) := by decide +kernel
theorem dL_copiesAreSo_160 : decode cL_copiesAreSo 160 = .ok (.invokestatic 148, 3) := by decide +kernel
theorem dL_copiesAreSo_163 : decode cL_copiesAreSo 163 = .ok (.bipush (-101), 2) := by decide +kernel
theorem dL_copiesAreSo_165 : decode cL_copiesAreSo 165 = .ok (.if_icmp .eq 311, 3) := by decide +kernel
theorem dL_copiesAreSo_168 : decode cL_copiesAreSo 168 = .ok (.iconst 0, 1) := by decide +kernel
theorem dL_copiesAreSo_169 : decode cL_copiesAreSo 169 = .ok (.ireturn, 1) := by decide +kernel
theorem dL_copiesAreSo_170 : decode cL_copiesAreSo 170 = .ok (.iload 7, 2) := by decide +kernel
theorem dL_copiesAreSo_172 : decode cL_copiesAreSo 172 = .ok (.iload 10, 2) := by decide +kernel
theorem dL_copiesAreSo_174 : decode cL_copiesAreSo 174 = .ok (.iconst 5, 1) := by decide +kernel
theorem dL_copiesAreSo_175 : decode cL_copiesAreSo 175 = .ok (.if_icmp .ne 7, 3) := by decide +kernel
theorem dL_copiesAreSo_178 : decode cL_copiesAreSo 178 = .ok (.iconst 1, 1) := by decide +kernel
theorem dL_copiesAreSo_179 : decode cL_copiesAreSo 179 = .ok (.goto 4, 3) := by decide +kernel
theorem dL_copiesAreSo_182 : decode cL_copiesAreSo 182 = .ok (.iconst 0, 1) := by decide +kernel
theorem dL_copiesAreSo_183 : decode cL_copiesAreSo 183 = .ok (.iadd, 1) := by decide +kernel
theorem dL_copiesAreSo_184 : decode cL_copiesAreSo 184 = .ok (.istore 7, 2) := by decide +kernel
theorem dL_copiesAreSo_186 : decode cL_copiesAreSo 186 = .ok (.iload 8, 2) := by decide +kernel
theorem dL_copiesAreSo_188 : decode cL_copiesAreSo 188 = .ok (.iload 10, 2) := by decide +kernel
theorem dL_copiesAreSo_190 : decode cL_copiesAreSo 190 = .ok (.iconst 1, 1) := by decide +kernel
theorem dL_copiesAreSo_191 : decode cL_copiesAreSo 191 = .ok (.if_icmp .ne 7, 3) := by decide +kernel
theorem dL_copiesAreSo_194 : decode cL_copiesAreSo 194 = .ok (.iconst 1, 1) := by decide +kernel
theorem dL_copiesAreSo_195 : decode cL_copiesAreSo 195 = .ok (.goto 4, 3) := by decide +kernel
theorem dL_copiesAreSo_198 : decode cL_copiesAreSo 198 = .ok (.iconst 0, 1) := by decide +kernel
theorem dL_copiesAreSo_199 : decode cL_copiesAreSo 199 = .ok (.iadd, 1) := by decide +kernel
theorem dL_copiesAreSo_200 : decode cL_copiesAreSo 200 = .ok (.istore 8, 2) := by decide +kernel
theorem dL_copiesAreSo_202 : decode cL_copiesAreSo 202 = .ok (.iload 10, 2) := by decide +kernel
theorem dL_copiesAreSo_204 : decode cL_copiesAreSo 204 = .ok (.iconst 5, 1) := by decide +kernel
theorem dL_copiesAreSo_205 : decode cL_copiesAreSo 205 = .ok (.if_icmp .ne 7, 3) := by decide +kernel
theorem dL_copiesAreSo_208 : decode cL_copiesAreSo 208 = .ok (.iconst 1, 1) := by decide +kernel
theorem dL_copiesAreSo_209 : decode cL_copiesAreSo 209 = .ok (.goto 4, 3) := by decide +kernel
theorem dL_copiesAreSo_212 : decode cL_copiesAreSo 212 = .ok (.iconst 0, 1) := by decide +kernel
theorem dL_copiesAreSo_213 : decode cL_copiesAreSo 213 = .ok (.iload 9, 2) := by decide +kernel
theorem dL_copiesAreSo_215 : decode cL_copiesAreSo 215 = .ok (.iload 6, 2) := by decide +kernel
theorem dL_copiesAreSo_217 : decode cL_copiesAreSo 217 = .ok (.if_icmp .ne 7, 3) := by decide +kernel
theorem dL_copiesAreSo_220 : decode cL_copiesAreSo 220 = .ok (.iconst 1, 1) := by decide +kernel
theorem dL_copiesAreSo_221 : decode cL_copiesAreSo 221 = .ok (.goto 4, 3) := by decide +kernel
theorem dL_copiesAreSo_224 : decode cL_copiesAreSo 224 = .ok (.iconst 0, 1) := by decide +kernel
theorem dL_copiesAreSo_225 : decode cL_copiesAreSo 225 = .ok (.if_icmp .ne 89, 3) := by decide +kernel
theorem dL_copiesAreSo_228 : decode cL_copiesAreSo 228 = .ok (.aload_n 0, 1) := by decide +kernel
theorem dL_copiesAreSo_229 : decode cL_copiesAreSo 229 = .ok (.getfield 10, 3) := by decide +kernel
theorem dL_copiesAreSo_232 : decode cL_copiesAreSo 232 = .ok (.iload 5, 2) := by decide +kernel
theorem dL_copiesAreSo_234 : decode cL_copiesAreSo 234 = .ok (.iload 9, 2) := by decide +kernel
theorem dL_copiesAreSo_236 : decode cL_copiesAreSo 236 = .ok (.iconst 2, 1) := by decide +kernel
theorem dL_copiesAreSo_237 : decode cL_copiesAreSo 237 = .ok (.invokestatic 146, 3) := by decide +kernel
theorem dL_copiesAreSo_240 : decode cL_copiesAreSo 240 = .ok (.iload_n 2, 1) := by decide +kernel
theorem dL_copiesAreSo_241 : decode cL_copiesAreSo 241 = .ok (.if_icmp .gt 73, 3) := by decide +kernel
theorem dL_copiesAreSo_244 : decode cL_copiesAreSo 244 = .ok (.aload_n 0, 1) := by decide +kernel
theorem dL_copiesAreSo_245 : decode cL_copiesAreSo 245 = .ok (.getfield 10, 3) := by decide +kernel
theorem dL_copiesAreSo_248 : decode cL_copiesAreSo 248 = .ok (.iload 5, 2) := by decide +kernel
theorem dL_copiesAreSo_250 : decode cL_copiesAreSo 250 = .ok (.iload 9, 2) := by decide +kernel
theorem dL_copiesAreSo_252 : decode cL_copiesAreSo 252 = .ok (.iconst 2, 1) := by decide +kernel
theorem dL_copiesAreSo_253 : decode cL_copiesAreSo 253 = .ok (.invokestatic 146, 3) := by decide +kernel
theorem dL_copiesAreSo_256 : decode cL_copiesAreSo 256 = .ok (.aload_n 0, 1) := by decide +kernel
theorem dL_copiesAreSo_257 : decode cL_copiesAreSo 257 = .ok (.getfield 10, 3) := by decide +kernel
theorem dL_copiesAreSo_260 : decode cL_copiesAreSo 260 = .ok (.iload 5, 2) := by decide +kernel
theorem dL_copiesAreSo_262 : decode cL_copiesAreSo 262 = .ok (.iconst 3, 1) := by decide +kernel
theorem dL_copiesAreSo_263 : decode cL_copiesAreSo 263 = .ok (.invokestatic 143, 3) := by decide +kernel
theorem dL_copiesAreSo_266 : decode cL_copiesAreSo 266 = .ok (.if_icmp .lt 48, 3) := by decide +kernel
theorem dL_copiesAreSo_269 : decode cL_copiesAreSo 269 = .ok (.aload_n 0, 1) := by decide +kernel
theorem dL_copiesAreSo_270 : decode cL_copiesAreSo 270 = .ok (.getfield 10, 3) := by decide +kernel
theorem dL_copiesAreSo_273 : decode cL_copiesAreSo 273 = .ok (.iload 5, 2) := by decide +kernel
theorem dL_copiesAreSo_275 : decode cL_copiesAreSo 275 = .ok (.iload 9, 2) := by decide +kernel
theorem dL_copiesAreSo_277 : decode cL_copiesAreSo 277 = .ok (.iconst 0, 1) := by decide +kernel
theorem dL_copiesAreSo_278 : decode cL_copiesAreSo 278 = .ok (.invokestatic 148, 3) := by decide +kernel
theorem dL_copiesAreSo_281 : decode cL_copiesAreSo 281 = .ok (.aload_n 0, 1) := by decide +kernel
theorem dL_copiesAreSo_282 : decode cL_copiesAreSo 282 = .ok (.getfield 10, 3) := by decide +kernel
theorem dL_copiesAreSo_285 : decode cL_copiesAreSo 285 = .ok (.iload 5, 2) := by decide +kernel
theorem dL_copiesAreSo_287 : decode cL_copiesAreSo 287 = .ok (.iconst 0, 1) := by decide +kernel
theorem dL_copiesAreSo_288 : decode cL_copiesAreSo 288 = .ok (.invokestatic 143, 3) := by decide +kernel
theorem dL_copiesAreSo_291 : decode cL_copiesAreSo 291 = .ok (.if_icmp .ne 23, 3) := by decide +kernel
theorem dL_copiesAreSo_294 : decode cL_copiesAreSo 294 = .ok (.aload_n 0, 1) := by decide +kernel
theorem dL_copiesAreSo_295 : decode cL_copiesAreSo 295 = .ok (.getfield 10, 3) := by decide +kernel
theorem dL_copiesAreSo_298 : decode cL_copiesAreSo 298 = .ok (.iload 5, 2) := by decide +kernel
theorem dL_copiesAreSo_300 : decode cL_copiesAreSo 300 = .ok (.iload 9, 2) := by decide +kernel
theorem dL_copiesAreSo_302 : decode cL_copiesAreSo 302 = .ok (.iload 11, 2) := by decide +kernel
theorem dL_copiesAreSo_304 : decode cL_copiesAreSo 304 = .ok (.iconst 1, 1) := by decide +kernel
theorem dL_copiesAreSo_305 : decode cL_copiesAreSo 305 = .ok (.isub, 1) := by decide +kernel
theorem dL_copiesAreSo_306 : decode cL_copiesAreSo 306 = .ok (.invokestatic 148, 3) := by decide +kernel
theorem dL_copiesAreSo_309 : decode cL_copiesAreSo 309 = .ok (.iload 9, 2) := by decide +kernel
theorem dL_copiesAreSo_311 : decode cL_copiesAreSo 311 = .ok (.if_icmp .eq 5, 3) := by decide +kernel
theorem dL_copiesAreSo_314 : decode cL_copiesAreSo 314 = .ok (.iconst 0, 1) := by decide +kernel
theorem dL_copiesAreSo_315 : decode cL_copiesAreSo 315 = .ok (.ireturn, 1) := by decide +kernel
theorem dL_copiesAreSo_316 : decode cL_copiesAreSo 316 = .ok (.iconst 0, 1) := by decide +kernel
theorem dL_copiesAreSo_317 : decode cL_copiesAreSo 317 = .ok (.istore 12, 2) := by decide +kernel
theorem dL_copiesAreSo_319 : decode cL_copiesAreSo 319 = .ok (.iconst 0, 1) := by decide +kernel
theorem dL_copiesAreSo_320 : decode cL_copiesAreSo 320 = .ok (.istore 13, 2) := by decide +kernel
theorem dL_copiesAreSo_322 : decode cL_copiesAreSo 322 = .ok (.iload 13, 2) := by decide +kernel
theorem dL_copiesAreSo_324 : decode cL_copiesAreSo 324 = .ok (.iload 11, 2) := by decide +kernel
theorem dL_copiesAreSo_326 : decode cL_copiesAreSo 326 = .ok (.if_icmp .ge 75, 3) := by decide +kernel
theorem dL_copiesAreSo_329 : decode cL_copiesAreSo 329 = .ok (.aload_n 0, 1) := by decide +kernel
theorem dL_copiesAreSo_330 : decode cL_copiesAreSo 330 = .ok (.getfield 10, 3) := by decide +kernel
theorem dL_copiesAreSo_333 : decode cL_copiesAreSo 333 = .ok (.iload 5, 2) := by decide +kernel
theorem dL_copiesAreSo_335 : decode cL_copiesAreSo 335 = .ok (.iload 9, 2) := by decide +kernel
theorem dL_copiesAreSo_337 : decode cL_copiesAreSo 337 = .ok (.iload 13, 2) := by decide +kernel
theorem dL_copiesAreSo_339 : decode cL_copiesAreSo 339 = .ok (.invokestatic 148, 3) := by decide +kernel
theorem dL_copiesAreSo_342 : decode cL_copiesAreSo 342 = .ok (.istore 14, 2) := by decide +kernel
theorem dL_copiesAreSo_344 : decode cL_copiesAreSo 344 = .ok (.iload 12, 2) := by decide +kernel
theorem dL_copiesAreSo_346 : decode cL_copiesAreSo 346 = .ok (.iload 14, 2) := by decide +kernel
theorem dL_copiesAreSo_348 : decode cL_copiesAreSo 348 = .ok (.ishr, 1) := by decide +kernel
theorem dL_copiesAreSo_349 : decode cL_copiesAreSo 349 = .ok (.iconst 1, 1) := by decide +kernel
theorem dL_copiesAreSo_350 : decode cL_copiesAreSo 350 = .ok (.iand, 1) := by decide +kernel
theorem dL_copiesAreSo_351 : decode cL_copiesAreSo 351 = .ok (.iconst 1, 1) := by decide +kernel
theorem dL_copiesAreSo_352 : decode cL_copiesAreSo 352 = .ok (.if_icmp .eq 32, 3) := by decide +kernel
theorem dL_copiesAreSo_355 : decode cL_copiesAreSo 355 = .ok (.iload 13, 2) := by decide +kernel
theorem dL_copiesAreSo_357 : decode cL_copiesAreSo 357 = .ok (.ifCond .le 29, 3) := by decide +kernel
theorem dL_copiesAreSo_360 : decode cL_copiesAreSo 360 = .ok (.aload_n 0, 1) := by decide +kernel
theorem dL_copiesAreSo_361 : decode cL_copiesAreSo 361 = .ok (.aload_n 0, 1) := by decide +kernel
theorem dL_copiesAreSo_362 : decode cL_copiesAreSo 362 = .ok (.getfield 10, 3) := by decide +kernel
theorem dL_copiesAreSo_365 : decode cL_copiesAreSo 365 = .ok (.iload 5, 2) := by decide +kernel
theorem dL_copiesAreSo_367 : decode cL_copiesAreSo 367 = .ok (.iload 9, 2) := by decide +kernel
theorem dL_copiesAreSo_369 : decode cL_copiesAreSo 369 = .ok (.iload 13, 2) := by decide +kernel
theorem dL_copiesAreSo_371 : decode cL_copiesAreSo 371 = .ok (.iconst 1, 1) := by decide +kernel
theorem dL_copiesAreSo_372 : decode cL_copiesAreSo 372 = .ok (.isub, 1) := by decide +kernel
theorem dL_copiesAreSo_373 : decode cL_copiesAreSo 373 = .ok (.invokestatic 148, 3) := by decide +kernel
theorem dL_copiesAreSo_376 : decode cL_copiesAreSo 376 = .ok (.iload 14, 2) := by decide +kernel
theorem dL_copiesAreSo_378 : decode cL_copiesAreSo 378 = .ok (.invokevirtual 155, 3) := by decide +kernel
theorem dL_copiesAreSo_381 : decode cL_copiesAreSo 381 = .ok (.ifCond .ne 5, 3) := by decide +kernel
theorem dL_copiesAreSo_384 : decode cL_copiesAreSo 384 = .ok (.iconst 0, 1) := by decide +kernel
theorem dL_copiesAreSo_385 : decode cL_copiesAreSo 385 = .ok (.ireturn, 1) := by decide +kernel
theorem dL_copiesAreSo_386 : decode cL_copiesAreSo 386 = .ok (.iload 12, 2) := by decide +kernel
theorem dL_copiesAreSo_388 : decode cL_copiesAreSo 388 = .ok (.iconst 1, 1) := by decide +kernel
theorem dL_copiesAreSo_389 : decode cL_copiesAreSo 389 = .ok (.iload 14, 2) := by decide +kernel
theorem dL_copiesAreSo_391 : decode cL_copiesAreSo 391 = .ok (.ishl, 1) := by decide +kernel
theorem dL_copiesAreSo_392 : decode cL_copiesAreSo 392 = .ok (.ior, 1) := by decide +kernel
theorem dL_copiesAreSo_393 : decode cL_copiesAreSo 393 = .ok (.istore 12, 2) := by decide +kernel
theorem dL_copiesAreSo_395 : decode cL_copiesAreSo 395 = .ok (.iinc 13 1, 3) := by decide +kernel
theorem dL_copiesAreSo_398 : decode cL_copiesAreSo 398 = .ok (.goto (-76), 3) := by decide +kernel
theorem dL_copiesAreSo_401 : decode cL_copiesAreSo 401 = .ok (.aload_n 0, 1) := by decide +kernel
theorem dL_copiesAreSo_402 : decode cL_copiesAreSo 402 = .ok (.getfield 10, 3) := by decide +kernel
theorem dL_copiesAreSo_405 : decode cL_copiesAreSo 405 = .ok (.iload 5, 2) := by decide +kernel
theorem dL_copiesAreSo_407 : decode cL_copiesAreSo 407 = .ok (.iload 9, 2) := by decide +kernel
theorem dL_copiesAreSo_409 : decode cL_copiesAreSo 409 = .ok (.iconst 4, 1) := by decide +kernel
theorem dL_copiesAreSo_410 : decode cL_copiesAreSo 410 = .ok (.invokestatic 146, 3) := by decide +kernel
theorem dL_copiesAreSo_413 : decode cL_copiesAreSo 413 = .ok (.istore 13, 2) := by decide +kernel
theorem dL_copiesAreSo_415 : decode cL_copiesAreSo 415 = .ok (.iload 13, 2) := by decide +kernel
theorem dL_copiesAreSo_417 : decode cL_copiesAreSo 417 = .ok (.ifCond .lt 59, 3) := by decide +kernel
theorem dL_copiesAreSo_420 : decode cL_copiesAreSo 420 = .ok (.iload 12, 2) := by decide +kernel
theorem dL_copiesAreSo_422 : decode cL_copiesAreSo 422 = .ok (.iload 13, 2) := by decide +kernel
theorem dL_copiesAreSo_424 : decode cL_copiesAreSo 424 = .ok (.ishr, 1) := by decide +kernel
theorem dL_copiesAreSo_425 : decode cL_copiesAreSo 425 = .ok (.iconst 1, 1) := by decide +kernel
theorem dL_copiesAreSo_426 : decode cL_copiesAreSo 426 = .ok (.iand, 1) := by decide +kernel
theorem dL_copiesAreSo_427 : decode cL_copiesAreSo 427 = .ok (.iconst 1, 1) := by decide +kernel
theorem dL_copiesAreSo_428 : decode cL_copiesAreSo 428 = .ok (.if_icmp .eq 46, 3) := by decide +kernel
theorem dL_copiesAreSo_431 : decode cL_copiesAreSo 431 = .ok (.iload 10, 2) := by decide +kernel
theorem dL_copiesAreSo_433 : decode cL_copiesAreSo 433 = .ok (.iconst 1, 1) := by decide +kernel
theorem dL_copiesAreSo_434 : decode cL_copiesAreSo 434 = .ok (.if_icmp .ne 40, 3) := by decide +kernel
theorem dL_copiesAreSo_437 : decode cL_copiesAreSo 437 = .ok (.aload_n 0, 1) := by decide +kernel
theorem dL_copiesAreSo_438 : decode cL_copiesAreSo 438 = .ok (.iload 9, 2) := by decide +kernel
theorem dL_copiesAreSo_440 : decode cL_copiesAreSo 440 = .ok (.iload 13, 2) := by decide +kernel
theorem dL_copiesAreSo_442 : decode cL_copiesAreSo 442 = .ok (.invokevirtual 155, 3) := by decide +kernel
theorem dL_copiesAreSo_445 : decode cL_copiesAreSo 445 = .ok (.ifCond .eq 29, 3) := by decide +kernel
theorem dL_copiesAreSo_448 : decode cL_copiesAreSo 448 = .ok (.aload_n 0, 1) := by decide +kernel
theorem dL_copiesAreSo_449 : decode cL_copiesAreSo 449 = .ok (.getfield 10, 3) := by decide +kernel
theorem dL_copiesAreSo_452 : decode cL_copiesAreSo 452 = .ok (.iload 9, 2) := by decide +kernel
theorem dL_copiesAreSo_454 : decode cL_copiesAreSo 454 = .ok (.iconst 3, 1) := by decide +kernel
theorem dL_copiesAreSo_455 : decode cL_copiesAreSo 455 = .ok (.invokestatic 159, 3) := by decide +kernel
theorem dL_copiesAreSo_458 : decode cL_copiesAreSo 458 = .ok (.ifCond .eq 16, 3) := by decide +kernel
theorem dL_copiesAreSo_461 : decode cL_copiesAreSo 461 = .ok (.aload_n 0, 1) := by decide +kernel
theorem dL_copiesAreSo_462 : decode cL_copiesAreSo 462 = .ok (.getfield 10, 3) := by decide +kernel
theorem dL_copiesAreSo_465 : decode cL_copiesAreSo 465 = .ok (.iload 13, 2) := by decide +kernel
theorem dL_copiesAreSo_467 : decode cL_copiesAreSo 467 = .ok (.iconst 3, 1) := by decide +kernel
theorem dL_copiesAreSo_468 : decode cL_copiesAreSo 468 = .ok (.invokestatic 159, 3) := by decide +kernel
theorem dL_copiesAreSo_471 : decode cL_copiesAreSo 471 = .ok (.ifCond .ne 5, 3) := by decide +kernel
theorem dL_copiesAreSo_474 : decode cL_copiesAreSo 474 = .ok (.iconst 0, 1) := by decide +kernel
theorem dL_copiesAreSo_475 : decode cL_copiesAreSo 475 = .ok (.ireturn, 1) := by decide +kernel
theorem dL_copiesAreSo_476 : decode cL_copiesAreSo 476 = .ok (.iinc 9 1, 3) := by decide +kernel
theorem dL_copiesAreSo_479 : decode cL_copiesAreSo 479 = .ok (.goto (-389), 3) := by decide +kernel
theorem dL_copiesAreSo_482 : decode cL_copiesAreSo 482 = .ok (.iload 7, 2) := by decide +kernel
theorem dL_copiesAreSo_484 : decode cL_copiesAreSo 484 = .ok (.iconst 1, 1) := by decide +kernel
theorem dL_copiesAreSo_485 : decode cL_copiesAreSo 485 = .ok (.if_icmp .gt 84, 3) := by decide +kernel
theorem dL_copiesAreSo_488 : decode cL_copiesAreSo 488 = .ok (.aload_n 0, 1) := by decide +kernel
theorem dL_copiesAreSo_489 : decode cL_copiesAreSo 489 = .ok (.getfield 10, 3) := by decide +kernel
theorem dL_copiesAreSo_492 : decode cL_copiesAreSo 492 = .ok (.iload 5, 2) := by decide +kernel
theorem dL_copiesAreSo_494 : decode cL_copiesAreSo 494 = .ok (.bipush 9, 2) := by decide +kernel
theorem dL_copiesAreSo_496 : decode cL_copiesAreSo 496 = .ok (.invokestatic 143, 3) := by decide +kernel
theorem dL_copiesAreSo_499 : decode cL_copiesAreSo 499 = .ok (.iload 8, 2) := by decide +kernel
theorem dL_copiesAreSo_501 : decode cL_copiesAreSo 501 = .ok (.if_icmp .ne 68, 3) := by decide +kernel
theorem dL_copiesAreSo_504 : decode cL_copiesAreSo 504 = .ok (.aload_n 0, 1) := by decide +kernel
theorem dL_copiesAreSo_505 : decode cL_copiesAreSo 505 = .ok (.getfield 10, 3) := by decide +kernel
theorem dL_copiesAreSo_508 : decode cL_copiesAreSo 508 = .ok (.iload 5, 2) := by decide +kernel
theorem dL_copiesAreSo_510 : decode cL_copiesAreSo 510 = .ok (.iconst 4, 1) := by decide +kernel
theorem dL_copiesAreSo_511 : decode cL_copiesAreSo 511 = .ok (.invokestatic 143, 3) := by decide +kernel
theorem dL_copiesAreSo_514 : decode cL_copiesAreSo 514 = .ok (.iload 7, 2) := by decide +kernel
theorem dL_copiesAreSo_516 : decode cL_copiesAreSo 516 = .ok (.iconst 1, 1) := by decide +kernel
theorem dL_copiesAreSo_517 : decode cL_copiesAreSo 517 = .ok (.if_icmp .ne 7, 3) := by decide +kernel
theorem dL_copiesAreSo_520 : decode cL_copiesAreSo 520 = .ok (.iconst 1, 1) := by decide +kernel
theorem dL_copiesAreSo_521 : decode cL_copiesAreSo 521 = .ok (.goto 13, 3) := by decide +kernel
theorem dL_copiesAreSo_524 : decode cL_copiesAreSo 524 = .ok (.iload 8, 2) := by decide +kernel
theorem dL_copiesAreSo_526 : decode cL_copiesAreSo 526 = .ok (.ifCond .le 7, 3) := by decide +kernel
theorem dL_copiesAreSo_529 : decode cL_copiesAreSo 529 = .ok (.iconst 0, 1) := by decide +kernel
theorem dL_copiesAreSo_530 : decode cL_copiesAreSo 530 = .ok (.goto 4, 3) := by decide +kernel
theorem dL_copiesAreSo_533 : decode cL_copiesAreSo 533 = .ok (.iconst 2, 1) := by decide +kernel
theorem dL_copiesAreSo_534 : decode cL_copiesAreSo 534 = .ok (.if_icmp .ne 35, 3) := by decide +kernel
theorem dL_copiesAreSo_537 : decode cL_copiesAreSo 537 = .ok (.aload_n 0, 1) := by decide +kernel
theorem dL_copiesAreSo_538 : decode cL_copiesAreSo 538 = .ok (.getfield 10, 3) := by decide +kernel
theorem dL_copiesAreSo_541 : decode cL_copiesAreSo 541 = .ok (.iload 5, 2) := by decide +kernel
theorem dL_copiesAreSo_543 : decode cL_copiesAreSo 543 = .ok (.iconst 5, 1) := by decide +kernel
theorem dL_copiesAreSo_544 : decode cL_copiesAreSo 544 = .ok (.invokestatic 143, 3) := by decide +kernel
theorem dL_copiesAreSo_547 : decode cL_copiesAreSo 547 = .ok (.ifCond .lt 7, 3) := by decide +kernel
theorem dL_copiesAreSo_550 : decode cL_copiesAreSo 550 = .ok (.iconst 1, 1) := by decide +kernel
theorem dL_copiesAreSo_551 : decode cL_copiesAreSo 551 = .ok (.goto 4, 3) := by decide +kernel
theorem dL_copiesAreSo_554 : decode cL_copiesAreSo 554 = .ok (.iconst 0, 1) := by decide +kernel
theorem dL_copiesAreSo_555 : decode cL_copiesAreSo 555 = .ok (.iload 7, 2) := by decide +kernel
theorem dL_copiesAreSo_557 : decode cL_copiesAreSo 557 = .ok (.iconst 1, 1) := by decide +kernel
theorem dL_copiesAreSo_558 : decode cL_copiesAreSo 558 = .ok (.if_icmp .ne 7, 3) := by decide +kernel
theorem dL_copiesAreSo_561 : decode cL_copiesAreSo 561 = .ok (.iconst 1, 1) := by decide +kernel
theorem dL_copiesAreSo_562 : decode cL_copiesAreSo 562 = .ok (.goto 4, 3) := by decide +kernel
theorem dL_copiesAreSo_565 : decode cL_copiesAreSo 565 = .ok (.iconst 0, 1) := by decide +kernel
theorem dL_copiesAreSo_566 : decode cL_copiesAreSo 566 = .ok (.if_icmp .eq 5, 3) := by decide +kernel
theorem dL_copiesAreSo_569 : decode cL_copiesAreSo 569 = .ok (.iconst 0, 1) := by decide +kernel
theorem dL_copiesAreSo_570 : decode cL_copiesAreSo 570 = .ok (.ireturn, 1) := by decide +kernel
theorem dL_copiesAreSo_571 : decode cL_copiesAreSo 571 = .ok (.iinc 5 1, 3) := by decide +kernel
theorem dL_copiesAreSo_574 : decode cL_copiesAreSo 574 = .ok (.goto (-548), 3) := by decide +kernel
theorem dL_copiesAreSo_577 : decode cL_copiesAreSo 577 = .ok (.iload_n 3, 1) := by decide +kernel
theorem dL_copiesAreSo_578 : decode cL_copiesAreSo 578 = .ok (.aload_n 0, 1) := by decide +kernel
theorem dL_copiesAreSo_579 : decode cL_copiesAreSo 579 = .ok (.getfield 10, 3) := by decide +kernel
theorem dL_copiesAreSo_582 : decode cL_copiesAreSo 582 = .ok (.bipush 11, 2) := by decide +kernel
theorem dL_copiesAreSo_584 : decode cL_copiesAreSo 584 = .ok (.invokestatic 129, 3) := by decide +kernel
theorem dL_copiesAreSo_587 : decode cL_copiesAreSo 587 = .ok (.if_icmp .ne 21, 3) := by decide +kernel
theorem dL_copiesAreSo_590 : decode cL_copiesAreSo 590 = .ok (.iload 4, 2) := by decide +kernel
theorem dL_copiesAreSo_592 : decode cL_copiesAreSo 592 = .ok (.aload_n 0, 1) := by decide +kernel
theorem dL_copiesAreSo_593 : decode cL_copiesAreSo 593 = .ok (.getfield 10, 3) := by decide +kernel
theorem dL_copiesAreSo_596 : decode cL_copiesAreSo 596 = .ok (.bipush 12, 2) := by decide +kernel
theorem dL_copiesAreSo_598 : decode cL_copiesAreSo 598 = .ok (.invokestatic 129, 3) := by decide +kernel
theorem dL_copiesAreSo_601 : decode cL_copiesAreSo 601 = .ok (.if_icmp .ne 7, 3) := by decide +kernel
theorem dL_copiesAreSo_604 : decode cL_copiesAreSo 604 = .ok (.iconst 1, 1) := by decide +kernel
theorem dL_copiesAreSo_605 : decode cL_copiesAreSo 605 = .ok (.goto 4, 3) := by decide +kernel
theorem dL_copiesAreSo_608 : decode cL_copiesAreSo 608 = .ok (.iconst 0, 1) := by decide +kernel
theorem dL_copiesAreSo_609 : decode cL_copiesAreSo 609 = .ok (.ireturn, 1) := by decide +kernel
theorem dL_areLinked_0 : decode cL_areLinked 0 = .ok (.iconst 0, 1) := by decide +kernel
theorem dL_areLinked_1 : decode cL_areLinked 1 = .ok (.istore_n 3, 1) := by decide +kernel
theorem dL_areLinked_2 : decode cL_areLinked 2 = .ok (.iload_n 3, 1) := by decide +kernel
theorem dL_areLinked_3 : decode cL_areLinked 3 = .ok (.aload_n 0, 1) := by decide +kernel
theorem dL_areLinked_4 : decode cL_areLinked 4 = .ok (.getfield 10, 3) := by decide +kernel
theorem dL_areLinked_7 : decode cL_areLinked 7 = .ok (.iconst 1, 1) := by decide +kernel
theorem dL_areLinked_8 : decode cL_areLinked 8 = .ok (.invokestatic 129, 3) := by decide +kernel
theorem dL_areLinked_11 : decode cL_areLinked 11 = .ok (.if_icmp .ge 63, 3) := by decide +kernel
theorem dL_areLinked_14 : decode cL_areLinked 14 = .ok (.aload_n 0, 1) := by decide +kernel
theorem dL_areLinked_15 : decode cL_areLinked 15 = .ok (.getfield 10, 3) := by decide +kernel
theorem dL_areLinked_18 : decode cL_areLinked 18 = .ok (.iload_n 3, 1) := by decide +kernel
theorem dL_areLinked_19 : decode cL_areLinked 19 = .ok (.iconst 0, 1) := by decide +kernel
theorem dL_areLinked_20 : decode cL_areLinked 20 = .ok (.invokestatic 161, 3) := by decide +kernel
theorem dL_areLinked_23 : decode cL_areLinked 23 = .ok (.iload_n 1, 1) := by decide +kernel
theorem dL_areLinked_24 : decode cL_areLinked 24 = .ok (.if_icmp .ne 16, 3) := by decide +kernel
theorem dL_areLinked_27 : decode cL_areLinked 27 = .ok (.aload_n 0, 1) := by decide +kernel
theorem dL_areLinked_28 : decode cL_areLinked 28 = .ok (.getfield 10, 3) := by decide +kernel
theorem dL_areLinked_31 : decode cL_areLinked 31 = .ok (.iload_n 3, 1) := by decide +kernel
theorem dL_areLinked_32 : decode cL_areLinked 32 = .ok (.iconst 1, 1) := by decide +kernel
theorem dL_areLinked_33 : decode cL_areLinked 33 = .ok (.invokestatic 161, 3) := by decide +kernel
theorem dL_areLinked_36 : decode cL_areLinked 36 = .ok (.iload_n 2, 1) := by decide +kernel
theorem dL_areLinked_37 : decode cL_areLinked 37 = .ok (.if_icmp .eq 29, 3) := by decide +kernel
theorem dL_areLinked_40 : decode cL_areLinked 40 = .ok (.aload_n 0, 1) := by decide +kernel
theorem dL_areLinked_41 : decode cL_areLinked 41 = .ok (.getfield 10, 3) := by decide +kernel
theorem dL_areLinked_44 : decode cL_areLinked 44 = .ok (.iload_n 3, 1) := by decide +kernel
theorem dL_areLinked_45 : decode cL_areLinked 45 = .ok (.iconst 0, 1) := by decide +kernel
theorem dL_areLinked_46 : decode cL_areLinked 46 = .ok (.invokestatic 161, 3) := by decide +kernel
theorem dL_areLinked_49 : decode cL_areLinked 49 = .ok (.iload_n 2, 1) := by decide +kernel
theorem dL_areLinked_50 : decode cL_areLinked 50 = .ok (.if_icmp .ne 18, 3) := by decide +kernel
theorem dL_areLinked_53 : decode cL_areLinked 53 = .ok (.aload_n 0, 1) := by decide +kernel
theorem dL_areLinked_54 : decode cL_areLinked 54 = .ok (.getfield 10, 3) := by decide +kernel
theorem dL_areLinked_57 : decode cL_areLinked 57 = .ok (.iload_n 3, 1) := by decide +kernel
theorem dL_areLinked_58 : decode cL_areLinked 58 = .ok (.iconst 1, 1) := by decide +kernel
theorem dL_areLinked_59 : decode cL_areLinked 59 = .ok (.invokestatic 161, 3) := by decide +kernel
theorem dL_areLinked_62 : decode cL_areLinked 62 = .ok (.iload_n 1, 1) := by decide +kernel
theorem dL_areLinked_63 : decode cL_areLinked 63 = .ok (.if_icmp .ne 5, 3) := by decide +kernel
theorem dL_areLinked_66 : decode cL_areLinked 66 = .ok (.iconst 1, 1) := by decide +kernel
theorem dL_areLinked_67 : decode cL_areLinked 67 = .ok (.ireturn, 1) := by decide +kernel
theorem dL_areLinked_68 : decode cL_areLinked 68 = .ok (.iinc 3 1, 3) := by decide +kernel
theorem dL_areLinked_71 : decode cL_areLinked 71 = .ok (.goto (-69), 3) := by decide +kernel
theorem dL_areLinked_74 : decode cL_areLinked 74 = .ok (.iconst 0, 1) := by decide +kernel
theorem dL_areLinked_75 : decode cL_areLinked 75 = .ok (.ireturn, 1) := by decide +kernel
theorem dL_sums_0 : decode cL_sums 0 = .ok (.iconst 0, 1) := by decide +kernel
theorem dL_sums_1 : decode cL_sums 1 = .ok (.istore_n 1, 1) := by decide +kernel
theorem dL_sums_2 : decode cL_sums 2 = .ok (.iconst 0, 1) := by decide +kernel
theorem dL_sums_3 : decode cL_sums 3 = .ok (.istore_n 2, 1) := by decide +kernel
theorem dL_sums_4 : decode cL_sums 4 = .ok (.iconst 0, 1) := by decide +kernel
theorem dL_sums_5 : decode cL_sums 5 = .ok (.istore_n 3, 1) := by decide +kernel
theorem dL_sums_6 : decode cL_sums 6 = .ok (.iconst 0, 1) := by decide +kernel
theorem dL_sums_7 : decode cL_sums 7 = .ok (.istore 4, 2) := by decide +kernel
theorem dL_sums_9 : decode cL_sums 9 = .ok (.iconst 0, 1) := by decide +kernel
theorem dL_sums_10 : decode cL_sums 10 = .ok (.istore 5, 2) := by decide +kernel
theorem dL_sums_12 : decode cL_sums 12 = .ok (.iconst 0, 1) := by decide +kernel
theorem dL_sums_13 : decode cL_sums 13 = .ok (.istore 6, 2) := by decide +kernel
theorem dL_sums_15 : decode cL_sums 15 = .ok (.iconst 0, 1) := by decide +kernel
theorem dL_sums_16 : decode cL_sums 16 = .ok (.istore 7, 2) := by decide +kernel
theorem dL_sums_18 : decode cL_sums 18 = .ok (.iconst 0, 1) := by decide +kernel
theorem dL_sums_19 : decode cL_sums 19 = .ok (.istore 8, 2) := by decide +kernel
theorem dL_sums_21 : decode cL_sums 21 = .ok (.iload 8, 2) := by decide +kernel
theorem dL_sums_23 : decode cL_sums 23 = .ok (.aload_n 0, 1) := by decide +kernel
theorem dL_sums_24 : decode cL_sums 24 = .ok (.getfield 10, 3) := by decide +kernel
theorem dL_sums_27 : decode cL_sums 27 = .ok (.iconst 0, 1) := by decide +kernel
theorem dL_sums_28 : decode cL_sums 28 = .ok (.invokestatic 129, 3) := by decide +kernel
theorem dL_sums_31 : decode cL_sums 31 = .ok (.if_icmp .ge 107, 3) := by decide +kernel
theorem dL_sums_34 : decode cL_sums 34 = .ok (.iload_n 1, 1) := by decide +kernel
theorem dL_sums_35 : decode cL_sums 35 = .ok (.aload_n 0, 1) := by decide +kernel
theorem dL_sums_36 : decode cL_sums 36 = .ok (.getfield 10, 3) := by decide +kernel
theorem dL_sums_39 : decode cL_sums 39 = .ok (.iload 8, 2) := by decide +kernel
theorem dL_sums_41 : decode cL_sums 41 = .ok (.iconst 5, 1) := by decide +kernel
theorem dL_sums_42 : decode cL_sums 42 = .ok (.invokestatic 159, 3) := by decide +kernel
theorem dL_sums_45 : decode cL_sums 45 = .ok (.iadd, 1) := by decide +kernel
theorem dL_sums_46 : decode cL_sums 46 = .ok (.istore_n 1, 1) := by decide +kernel
theorem dL_sums_47 : decode cL_sums 47 = .ok (.iload_n 2, 1) := by decide +kernel
theorem dL_sums_48 : decode cL_sums 48 = .ok (.aload_n 0, 1) := by decide +kernel
theorem dL_sums_49 : decode cL_sums 49 = .ok (.getfield 10, 3) := by decide +kernel
theorem dL_sums_52 : decode cL_sums 52 = .ok (.iload 8, 2) := by decide +kernel
theorem dL_sums_54 : decode cL_sums 54 = .ok (.bipush 6, 2) := by decide +kernel
theorem dL_sums_56 : decode cL_sums 56 = .ok (.invokestatic 159, 3) := by decide +kernel
theorem dL_sums_59 : decode cL_sums 59 = .ok (.iadd, 1) := by decide +kernel
theorem dL_sums_60 : decode cL_sums 60 = .ok (.istore_n 2, 1) := by decide +kernel
theorem dL_sums_61 : decode cL_sums 61 = .ok (.iload 6, 2) := by decide +kernel
theorem dL_sums_63 : decode cL_sums 63 = .ok (.aload_n 0, 1) := by decide +kernel
theorem dL_sums_64 : decode cL_sums 64 = .ok (.getfield 10, 3) := by decide +kernel
theorem dL_sums_67 : decode cL_sums 67 = .ok (.iload 8, 2) := by decide +kernel
theorem dL_sums_69 : decode cL_sums 69 = .ok (.bipush 8, 2) := by decide +kernel
theorem dL_sums_71 : decode cL_sums 71 = .ok (.invokestatic 159, 3) := by decide +kernel
theorem dL_sums_74 : decode cL_sums 74 = .ok (.iadd, 1) := by decide +kernel
theorem dL_sums_75 : decode cL_sums 75 = .ok (.istore 6, 2) := by decide +kernel
theorem dL_sums_77 : decode cL_sums 77 = .ok (.iload 7, 2) := by decide +kernel
theorem dL_sums_79 : decode cL_sums 79 = .ok (.aload_n 0, 1) := by decide +kernel
theorem dL_sums_80 : decode cL_sums 80 = .ok (.getfield 10, 3) := by decide +kernel
theorem dL_sums_83 : decode cL_sums 83 = .ok (.iload 8, 2) := by decide +kernel
theorem dL_sums_85 : decode cL_sums 85 = .ok (.bipush 9, 2) := by decide +kernel
theorem dL_sums_87 : decode cL_sums 87 = .ok (.invokestatic 159, 3) := by decide +kernel
theorem dL_sums_90 : decode cL_sums 90 = .ok (.iadd, 1) := by decide +kernel
theorem dL_sums_91 : decode cL_sums 91 = .ok (.istore 7, 2) := by decide +kernel
theorem dL_sums_93 : decode cL_sums 93 = .ok (.aload_n 0, 1) := by decide +kernel
theorem dL_sums_94 : decode cL_sums 94 = .ok (.getfield 10, 3) := by decide +kernel
theorem dL_sums_97 : decode cL_sums 97 = .ok (.iload 8, 2) := by decide +kernel
theorem dL_sums_99 : decode cL_sums 99 = .ok (.bipush 7, 2) := by decide +kernel
theorem dL_sums_101 : decode cL_sums 101 = .ok (.invokestatic 159, 3) := by decide +kernel
theorem dL_sums_104 : decode cL_sums 104 = .ok (.aload_n 0, 1) := by decide +kernel
theorem dL_sums_105 : decode cL_sums 105 = .ok (.getfield 10, 3) := by decide +kernel
theorem dL_sums_108 : decode cL_sums 108 = .ok (.iload 8, 2) := by decide +kernel
theorem dL_sums_110 : decode cL_sums 110 = .ok (.bipush 8, 2) := by decide +kernel
theorem dL_sums_112 : decode cL_sums 112 = .ok (.invokestatic 159, 3) := by decide +kernel
theorem dL_sums_115 : decode cL_sums 115 = .ok (.iadd, 1) := by decide +kernel
theorem dL_sums_116 : decode cL_sums 116 = .ok (.aload_n 0, 1) := by decide +kernel
theorem dL_sums_117 : decode cL_sums 117 = .ok (.getfield 10, 3) := by decide +kernel
theorem dL_sums_120 : decode cL_sums 120 = .ok (.iload 8, 2) := by decide +kernel
theorem dL_sums_122 : decode cL_sums 122 = .ok (.bipush 6, 2) := by decide +kernel
theorem dL_sums_124 : decode cL_sums 124 = .ok (.invokestatic 159, 3) := by decide +kernel
theorem dL_sums_127 : decode cL_sums 127 = .ok (.if_icmp .le 5, 3) := by decide +kernel
theorem dL_sums_130 : decode cL_sums 130 = .ok (.iconst 0, 1) := by decide +kernel
theorem dL_sums_131 : decode cL_sums 131 = .ok (.ireturn, 1) := by decide +kernel
theorem dL_sums_132 : decode cL_sums 132 = .ok (.iinc 8 1, 3) := by decide +kernel
theorem dL_sums_135 : decode cL_sums 135 = .ok (.goto (-114), 3) := by decide +kernel
theorem dL_sums_138 : decode cL_sums 138 = .ok (.iconst 0, 1) := by decide +kernel
theorem dL_sums_139 : decode cL_sums 139 = .ok (.istore 8, 2) := by decide +kernel
theorem dL_sums_141 : decode cL_sums 141 = .ok (.iload 8, 2) := by decide +kernel
theorem dL_sums_143 : decode cL_sums 143 = .ok (.aload_n 0, 1) := by decide +kernel
theorem dL_sums_144 : decode cL_sums 144 = .ok (.getfield 10, 3) := by decide +kernel
theorem dL_sums_147 : decode cL_sums 147 = .ok (.iconst 1, 1) := by decide +kernel
theorem dL_sums_148 : decode cL_sums 148 = .ok (.invokestatic 129, 3) := by decide +kernel
theorem dL_sums_151 : decode cL_sums 151 = .ok (.if_icmp .ge 147, 3) := by decide +kernel
theorem dL_sums_154 : decode cL_sums 154 = .ok (.iload 5, 2) := by decide +kernel
theorem dL_sums_156 : decode cL_sums 156 = .ok (.aload_n 0, 1) := by decide +kernel
theorem dL_sums_157 : decode cL_sums 157 = .ok (.getfield 10, 3) := by decide +kernel
theorem dL_sums_160 : decode cL_sums 160 = .ok (.iload 8, 2) := by decide +kernel
theorem dL_sums_162 : decode cL_sums 162 = .ok (.bipush 6, 2) := by decide +kernel
theorem dL_sums_164 : decode cL_sums 164 = .ok (.invokestatic 161, 3) := by decide +kernel
theorem dL_sums_167 : decode cL_sums 167 = .ok (.iadd, 1) := by decide +kernel
theorem dL_sums_168 : decode cL_sums 168 = .ok (.istore 5, 2) := by decide +kernel
theorem dL_sums_170 : decode cL_sums 170 = .ok (.iload_n 3, 1) := by decide +kernel
theorem dL_sums_171 : decode cL_sums 171 = .ok (.aload_n 0, 1) := by decide +kernel
theorem dL_sums_172 : decode cL_sums 172 = .ok (.getfield 10, 3) := by decide +kernel
theorem dL_sums_175 : decode cL_sums 175 = .ok (.iload 8, 2) := by decide +kernel
theorem dL_sums_177 : decode cL_sums 177 = .ok (.bipush 7, 2) := by decide +kernel
theorem dL_sums_179 : decode cL_sums 179 = .ok (.invokestatic 161, 3) := by decide +kernel
theorem dL_sums_182 : decode cL_sums 182 = .ok (.iadd, 1) := by decide +kernel
theorem dL_sums_183 : decode cL_sums 183 = .ok (.istore_n 3, 1) := by decide +kernel
theorem dL_sums_184 : decode cL_sums 184 = .ok (.iload 4, 2) := by decide +kernel
theorem dL_sums_186 : decode cL_sums 186 = .ok (.aload_n 0, 1) := by decide +kernel
theorem dL_sums_187 : decode cL_sums 187 = .ok (.getfield 10, 3) := by decide +kernel
theorem dL_sums_190 : decode cL_sums 190 = .ok (.iload 8, 2) := by decide +kernel
theorem dL_sums_192 : decode cL_sums 192 = .ok (.bipush 7, 2) := by decide +kernel
theorem dL_sums_194 : decode cL_sums 194 = .ok (.invokestatic 161, 3) := by decide +kernel
theorem dL_sums_197 : decode cL_sums 197 = .ok (.aload_n 0, 1) := by decide +kernel
theorem dL_sums_198 : decode cL_sums 198 = .ok (.getfield 10, 3) := by decide +kernel
theorem dL_sums_201 : decode cL_sums 201 = .ok (.iload 8, 2) := by decide +kernel
theorem dL_sums_203 : decode cL_sums 203 = .ok (.bipush 8, 2) := by decide +kernel
theorem dL_sums_205 : decode cL_sums 205 = .ok (.invokestatic 161, 3) := by decide +kernel
theorem dL_sums_208 : decode cL_sums 208 = .ok (.iadd, 1) := by decide +kernel
theorem dL_sums_209 : decode cL_sums 209 = .ok (.iadd, 1) := by decide +kernel
theorem dL_sums_210 : decode cL_sums 210 = .ok (.istore 4, 2) := by decide +kernel
theorem dL_sums_212 : decode cL_sums 212 = .ok (.aload_n 0, 1) := by decide +kernel
theorem dL_sums_213 : decode cL_sums 213 = .ok (.getfield 10, 3) := by decide +kernel
theorem dL_sums_216 : decode cL_sums 216 = .ok (.iload 8, 2) := by decide +kernel
theorem dL_sums_218 : decode cL_sums 218 = .ok (.bipush 7, 2) := by decide +kernel
theorem dL_sums_220 : decode cL_sums 220 = .ok (.invokestatic 161, 3) := by decide +kernel
theorem dL_sums_223 : decode cL_sums 223 = .ok (.aload_n 0, 1) := by decide +kernel
theorem dL_sums_224 : decode cL_sums 224 = .ok (.getfield 10, 3) := by decide +kernel
theorem dL_sums_227 : decode cL_sums 227 = .ok (.iload 8, 2) := by decide +kernel
theorem dL_sums_229 : decode cL_sums 229 = .ok (.bipush 8, 2) := by decide +kernel
theorem dL_sums_231 : decode cL_sums 231 = .ok (.invokestatic 161, 3) := by decide +kernel
theorem dL_sums_234 : decode cL_sums 234 = .ok (.iadd, 1) := by decide +kernel
theorem dL_sums_235 : decode cL_sums 235 = .ok (.aload_n 0, 1) := by decide +kernel
theorem dL_sums_236 : decode cL_sums 236 = .ok (.getfield 10, 3) := by decide +kernel
theorem dL_sums_239 : decode cL_sums 239 = .ok (.iload 8, 2) := by decide +kernel
theorem dL_sums_241 : decode cL_sums 241 = .ok (.bipush 6, 2) := by decide +kernel
theorem dL_sums_243 : decode cL_sums 243 = .ok (.invokestatic 161, 3) := by decide +kernel
theorem dL_sums_246 : decode cL_sums 246 = .ok (.if_icmp .gt 44, 3) := by decide +kernel
theorem dL_sums_249 : decode cL_sums 249 = .ok (.aload_n 0, 1) := by decide +kernel
theorem dL_sums_250 : decode cL_sums 250 = .ok (.getfield 10, 3) := by decide +kernel
theorem dL_sums_253 : decode cL_sums 253 = .ok (.iload 8, 2) := by decide +kernel
theorem dL_sums_255 : decode cL_sums 255 = .ok (.iconst 4, 1) := by decide +kernel
theorem dL_sums_256 : decode cL_sums 256 = .ok (.invokestatic 161, 3) := by decide +kernel
theorem dL_sums_259 : decode cL_sums 259 = .ok (.bipush 100, 2) := by decide +kernel
theorem dL_sums_261 : decode cL_sums 261 = .ok (.if_icmp .ne 31, 3) := by decide +kernel
theorem dL_sums_264 : decode cL_sums 264 = .ok (.aload_n 0, 1) := by decide +kernel
theorem dL_sums_265 : decode cL_sums 265 = .ok (.getfield 10, 3) := by decide +kernel
theorem dL_sums_268 : decode cL_sums 268 = .ok (.iload 8, 2) := by decide +kernel
theorem dL_sums_270 : decode cL_sums 270 = .ok (.bipush 7, 2) := by decide +kernel
theorem dL_sums_272 : decode cL_sums 272 = .ok (.invokestatic 161, 3) := by decide +kernel
theorem dL_sums_275 : decode cL_sums 275 = .ok (.aload_n 0, 1) := by decide +kernel
theorem dL_sums_276 : decode cL_sums 276 = .ok (.getfield 10, 3) := by decide +kernel
theorem dL_sums_279 : decode cL_sums 279 = .ok (.iload 8, 2) := by decide +kernel
theorem dL_sums_281 : decode cL_sums 281 = .ok (.bipush 8, 2) := by decide +kernel
theorem dL_sums_283 : decode cL_sums 283 = .ok (.invokestatic 161, 3) := by decide +kernel
theorem dL_sums_286 : decode cL_sums 286 = .ok (.iadd, 1) := by decide +kernel
theorem dL_sums_287 : decode cL_sums 287 = .ok (.ifCond .le 5, 3) := by decide +kernel
theorem dL_sums_290 : decode cL_sums 290 = .ok (.iconst 0, 1) := by decide +kernel
theorem dL_sums_291 : decode cL_sums 291 = .ok (.ireturn, 1) := by decide +kernel
theorem dL_sums_292 : decode cL_sums 292 = .ok (.iinc 8 1, 3) := by decide +kernel
theorem dL_sums_295 : decode cL_sums 295 = .ok (.goto (-154), 3) := by decide +kernel
theorem dL_sums_298 : decode cL_sums 298 = .ok (.iload_n 1, 1) := by decide +kernel
theorem dL_sums_299 : decode cL_sums 299 = .ok (.iload 5, 2) := by decide +kernel
theorem dL_sums_301 : decode cL_sums 301 = .ok (.if_icmp .ne 108, 3) := by decide +kernel
theorem dL_sums_304 : decode cL_sums 304 = .ok (.iload_n 2, 1) := by decide +kernel
theorem dL_sums_305 : decode cL_sums 305 = .ok (.iload_n 3, 1) := by decide +kernel
theorem dL_sums_306 : decode cL_sums 306 = .ok (.iadd, 1) := by decide +kernel
theorem dL_sums_307 : decode cL_sums 307 = .ok (.iload_n 1, 1) := by decide +kernel
theorem dL_sums_308 : decode cL_sums 308 = .ok (.if_icmp .ne 101, 3) := by decide +kernel
theorem dL_sums_311 : decode cL_sums 311 = .ok (.iload 6, 2) := by decide +kernel
theorem dL_sums_313 : decode cL_sums 313 = .ok (.aload_n 0, 1) := by decide +kernel
theorem dL_sums_314 : decode cL_sums 314 = .ok (.getfield 10, 3) := by decide +kernel
theorem dL_sums_317 : decode cL_sums 317 = .ok (.bipush 8, 2) := by decide +kernel
theorem dL_sums_319 : decode cL_sums 319 = .ok (.invokestatic 129, 3) := by decide +kernel
theorem dL_sums_322 : decode cL_sums 322 = .ok (.if_icmp .ne 87, 3) := by decide +kernel
theorem dL_sums_325 : decode cL_sums 325 = .ok (.iload 7, 2) := by decide +kernel
theorem dL_sums_327 : decode cL_sums 327 = .ok (.iconst 2, 1) := by decide +kernel
theorem dL_sums_328 : decode cL_sums 328 = .ok (.aload_n 0, 1) := by decide +kernel
theorem dL_sums_329 : decode cL_sums 329 = .ok (.getfield 10, 3) := by decide +kernel
theorem dL_sums_332 : decode cL_sums 332 = .ok (.iconst 1, 1) := by decide +kernel
theorem dL_sums_333 : decode cL_sums 333 = .ok (.invokestatic 129, 3) := by decide +kernel
theorem dL_sums_336 : decode cL_sums 336 = .ok (.imul, 1) := by decide +kernel
theorem dL_sums_337 : decode cL_sums 337 = .ok (.if_icmp .ne 72, 3) := by decide +kernel
theorem dL_sums_340 : decode cL_sums 340 = .ok (.aload_n 0, 1) := by decide +kernel
theorem dL_sums_341 : decode cL_sums 341 = .ok (.getfield 10, 3) := by decide +kernel
theorem dL_sums_344 : decode cL_sums 344 = .ok (.bipush 7, 2) := by decide +kernel
theorem dL_sums_346 : decode cL_sums 346 = .ok (.invokestatic 129, 3) := by decide +kernel
theorem dL_sums_349 : decode cL_sums 349 = .ok (.aload_n 0, 1) := by decide +kernel
theorem dL_sums_350 : decode cL_sums 350 = .ok (.getfield 10, 3) := by decide +kernel
theorem dL_sums_353 : decode cL_sums 353 = .ok (.bipush 8, 2) := by decide +kernel
theorem dL_sums_355 : decode cL_sums 355 = .ok (.invokestatic 129, 3) := by decide +kernel
theorem dL_sums_358 : decode cL_sums 358 = .ok (.iadd, 1) := by decide +kernel
theorem dL_sums_359 : decode cL_sums 359 = .ok (.aload_n 0, 1) := by decide +kernel
theorem dL_sums_360 : decode cL_sums 360 = .ok (.getfield 10, 3) := by decide +kernel
theorem dL_sums_363 : decode cL_sums 363 = .ok (.bipush 9, 2) := by decide +kernel
theorem dL_sums_365 : decode cL_sums 365 = .ok (.invokestatic 129, 3) := by decide +kernel
theorem dL_sums_368 : decode cL_sums 368 = .ok (.iadd, 1) := by decide +kernel
theorem dL_sums_369 : decode cL_sums 369 = .ok (.aload_n 0, 1) := by decide +kernel
theorem dL_sums_370 : decode cL_sums 370 = .ok (.getfield 10, 3) := by decide +kernel
theorem dL_sums_373 : decode cL_sums 373 = .ok (.iconst 2, 1) := by decide +kernel
theorem dL_sums_374 : decode cL_sums 374 = .ok (.invokestatic 129, 3) := by decide +kernel
theorem dL_sums_377 : decode cL_sums 377 = .ok (.if_icmp .ne 32, 3) := by decide +kernel
theorem dL_sums_380 : decode cL_sums 380 = .ok (.aload_n 0, 1) := by decide +kernel
theorem dL_sums_381 : decode cL_sums 381 = .ok (.getfield 10, 3) := by decide +kernel
theorem dL_sums_384 : decode cL_sums 384 = .ok (.invokevirtual 163, 3) := by decide +kernel
theorem dL_sums_387 : decode cL_sums 387 = .ok (.iload_n 1, 1) := by decide +kernel
theorem dL_sums_388 : decode cL_sums 388 = .ok (.ifCond .ne 7, 3) := by decide +kernel
theorem dL_sums_391 : decode cL_sums 391 = .ok (.fconst 0, 1) := by decide +kernel
theorem dL_sums_392 : decode cL_sums 392 = .ok (.goto 9, 3) := by decide +kernel
theorem dL_sums_395 : decode cL_sums 395 = .ok (.iload 4, 2) := by decide +kernel
theorem dL_sums_397 : decode cL_sums 397 = .ok (.i2f, 1) := by decide +kernel
theorem dL_sums_398 : decode cL_sums 398 = .ok (.iload_n 1, 1) := by decide +kernel
theorem dL_sums_399 : decode cL_sums 399 = .ok (.i2f, 1) := by decide +kernel
theorem dL_sums_400 : decode cL_sums 400 = .ok (.fdiv, 1) := by decide +kernel
theorem dL_sums_401 : decode cL_sums 401 = .ok (.fcmp .l, 1) := by decide +kernel
theorem dL_sums_402 : decode cL_sums 402 = .ok (.ifCond .ne 7, 3) := by decide +kernel
theorem dL_sums_405 : decode cL_sums 405 = .ok (.iconst 1, 1) := by decide +kernel
theorem dL_sums_406 : decode cL_sums 406 = .ok (.goto 4, 3) := by decide +kernel
theorem dL_sums_409 : decode cL_sums 409 = .ok (.iconst 0, 1) := by decide +kernel
theorem dL_sums_410 : decode cL_sums 410 = .ok (.ireturn, 1) := by decide +kernel
theorem dL_hour_0 : decode cL_hour 0 = .ok (.aload_n 0, 1) := by decide +kernel
theorem dL_hour_1 : decode cL_hour 1 = .ok (.getfield 10, 3) := by decide +kernel
theorem dL_hour_4 : decode cL_hour 4 = .ok (.iconst 0, 1) := by decide +kernel
theorem dL_hour_5 : decode cL_hour 5 = .ok (.invokestatic 129, 3) := by decide +kernel
theorem dL_hour_8 : decode cL_hour 8 = .ok (.istore_n 1, 1) := by decide +kernel
theorem dL_hour_9 : decode cL_hour 9 = .ok (.aload_n 0, 1) := by decide +kernel
theorem dL_hour_10 : decode cL_hour 10 = .ok (.getfield 10, 3) := by decide +kernel
theorem dL_hour_13 : decode cL_hour 13 = .ok (.iconst 3, 1) := by decide +kernel
theorem dL_hour_14 : decode cL_hour 14 = .ok (.invokestatic 129, 3) := by decide +kernel
theorem dL_hour_17 : decode cL_hour 17 = .ok (.istore_n 2, 1) := by decide +kernel
theorem dL_hour_18 : decode cL_hour 18 = .ok (.aload_n 0, 1) := by decide +kernel
theorem dL_hour_19 : decode cL_hour 19 = .ok (.getfield 10, 3) := by decide +kernel
theorem dL_hour_22 : decode cL_hour 22 = .ok (.bipush 13, 2) := by decide +kernel
theorem dL_hour_24 : decode cL_hour 24 = .ok (.invokestatic 129, 3) := by decide +kernel
theorem dL_hour_27 : decode cL_hour 27 = .ok (.istore_n 3, 1) := by decide +kernel
theorem dL_hour_28 : decode cL_hour 28 = .ok (.aload_n 0, 1) := by decide +kernel
theorem dL_hour_29 : decode cL_hour 29 = .ok (.getfield 10, 3) := by decide +kernel
theorem dL_hour_32 : decode cL_hour 32 = .ok (.bipush 8, 2) := by decide +kernel
theorem dL_hour_34 : decode cL_hour 34 = .ok (.invokestatic 129, 3) := by decide +kernel
theorem dL_hour_37 : decode cL_hour 37 = .ok (.istore 4, 2) := by decide +kernel
theorem dL_hour_39 : decode cL_hour 39 = .ok (.aload_n 0, 1) := by decide +kernel
theorem dL_hour_40 : decode cL_hour 40 = .ok (.getfield 10, 3) := by decide +kernel
theorem dL_hour_43 : decode cL_hour 43 = .ok (.bipush 11, 2) := by decide +kernel
theorem dL_hour_45 : decode cL_hour 45 = .ok (.invokestatic 129, 3) := by decide +kernel
theorem dL_hour_48 : decode cL_hour 48 = .ok (.istore 5, 2) := by decide +kernel
theorem dL_hour_50 : decode cL_hour 50 = .ok (.iconst 0, 1) := by decide +kernel
theorem dL_hour_51 : decode cL_hour 51 = .ok (.istore 6, 2) := by decide +kernel
theorem dL_hour_53 : decode cL_hour 53 = .ok (.iload 6, 2) := by decide +kernel
theorem dL_hour_55 : decode cL_hour 55 = .ok (.iload_n 1, 1) := by decide +kernel
theorem dL_hour_56 : decode cL_hour 56 = .ok (.if_icmp .ge 84, 3) := by decide +kernel
theorem dL_hour_59 : decode cL_hour 59 = .ok (.aload_n 0, 1) := by decide +kernel
theorem dL_hour_60 : decode cL_hour 60 = .ok (.getfield 16, 3) := by decide +kernel
theorem dL_hour_63 : decode cL_hour 63 = .ok (.iload 6, 2) := by decide +kernel
theorem dL_hour_65 : decode cL_hour 65 = .ok (.aload_n 0, 1) := by decide +kernel
theorem dL_hour_66 : decode cL_hour 66 = .ok (.getfield 10, 3) := by decide +kernel
theorem dL_hour_69 : decode cL_hour 69 = .ok (.iload 6, 2) := by decide +kernel
theorem dL_hour_71 : decode cL_hour 71 = .ok (.iconst 5, 1) := by decide +kernel
theorem dL_hour_72 : decode cL_hour 72 = .ok (.invokestatic 159, 3) := by decide +kernel
theorem dL_hour_75 : decode cL_hour 75 = .ok (.iastore, 1) := by decide +kernel
theorem dL_hour_76 : decode cL_hour 76 = .ok (.iconst 0, 1) := by decide +kernel
theorem dL_hour_77 : decode cL_hour 77 = .ok (.istore 7, 2) := by decide +kernel
theorem dL_hour_79 : decode cL_hour 79 = .ok (.aload_n 0, 1) := by decide +kernel
theorem dL_hour_80 : decode cL_hour 80 = .ok (.getfield 10, 3) := by decide +kernel
theorem dL_hour_83 : decode cL_hour 83 = .ok (.iload 6, 2) := by decide +kernel
theorem dL_hour_85 : decode cL_hour 85 = .ok (.iload 7, 2) := by decide +kernel
theorem dL_hour_87 : decode cL_hour 87 = .ok (.invokestatic 167, 3) := by decide +kernel
theorem dL_hour_90 : decode cL_hour 90 = .ok (.ifCond .lt 9, 3) := by decide +kernel
theorem dL_hour_93 : decode cL_hour 93 = .ok (.iinc 7 1, 3) := by decide +kernel
theorem dL_hour_96 : decode cL_hour 96 = .ok (.goto (-17), 3) := by decide +kernel
theorem dL_hour_99 : decode cL_hour 99 = .ok (.iload 7, 2) := by decide +kernel
theorem dL_hour_101 : decode cL_hour 101 = .ok (.aload_n 0, 1) := by decide +kernel
theorem dL_hour_102 : decode cL_hour 102 = .ok (.getfield 10, 3) := by decide +kernel
theorem dL_hour_105 : decode cL_hour 105 = .ok (.iload 6, 2) := by decide +kernel
theorem dL_hour_107 : decode cL_hour 107 = .ok (.iconst 2, 1) := by decide +kernel
theorem dL_hour_108 : decode cL_hour 108 = .ok (.invokestatic 159, 3) := by decide +kernel
theorem dL_hour_111 : decode cL_hour 111 = .ok (.if_icmp .gt 21, 3) := by decide +kernel
theorem dL_hour_114 : decode cL_hour 114 = .ok (.iload 7, 2) := by decide +kernel
theorem dL_hour_116 : decode cL_hour 116 = .ok (.ifCond .le 18, 3) := by decide +kernel
theorem dL_hour_119 : decode cL_hour 119 = .ok (.aload_n 0, 1) := by decide +kernel
theorem dL_hour_120 : decode cL_hour 120 = .ok (.getfield 10, 3) := by decide +kernel
theorem dL_hour_123 : decode cL_hour 123 = .ok (.iload 6, 2) := by decide +kernel
theorem dL_hour_125 : decode cL_hour 125 = .ok (.iconst 3, 1) := by decide +kernel
theorem dL_hour_126 : decode cL_hour 126 = .ok (.invokestatic 159, 3) := by decide +kernel
theorem dL_hour_129 : decode cL_hour 129 = .ok (.ifCond .ne 5, 3) := by decide +kernel
theorem dL_hour_132 : decode cL_hour 132 = .ok (.iconst 0, 1) := by decide +kernel
theorem dL_hour_133 : decode cL_hour 133 = .ok (.ireturn, 1) := by decide +kernel
theorem dL_hour_134 : decode cL_hour 134 = .ok (.iinc 6 1, 3) := by decide +kernel
theorem dL_hour_137 : decode cL_hour 137 = .ok (.goto (-84), 3) := by decide +kernel
theorem dL_hour_140 : decode cL_hour 140 = .ok (.aload_n 0, 1) := by decide +kernel
theorem dL_hour_141 : decode cL_hour 141 = .ok (.getfield 10, 3) := by decide +kernel
theorem dL_hour_144 : decode cL_hour 144 = .ok (.iconst 1, 1) := by decide +kernel
theorem dL_hour_145 : decode cL_hour 145 = .ok (.invokestatic 169, 3) := by decide +kernel
theorem dL_hour_148 : decode cL_hour 148 = .ok (.istore 6, 2) := by decide +kernel
theorem dL_hour_150 : decode cL_hour 150 = .ok (.aload_n 0, 1) := by decide +kernel
theorem dL_hour_151 : decode cL_hour 151 = .ok (.getfield 10, 3) := by decide +kernel
theorem dL_hour_154 : decode cL_hour 154 = .ok (.iconst 3, 1) := by decide +kernel
theorem dL_hour_155 : decode cL_hour 155 = .ok (.invokestatic 129, 3) := by decide +kernel
theorem dL_hour_158 : decode cL_hour 158 = .ok (.iload_n 2, 1) := by decide +kernel
theorem dL_hour_159 : decode cL_hour 159 = .ok (.iconst 1, 1) := by decide +kernel
theorem dL_hour_160 : decode cL_hour 160 = .ok (.iadd, 1) := by decide +kernel
theorem dL_hour_161 : decode cL_hour 161 = .ok (.if_icmp .ne 25, 3) := by decide +kernel
theorem dL_hour_164 : decode cL_hour 164 = .ok (.aload_n 0, 1) := by decide +kernel
theorem dL_hour_165 : decode cL_hour 165 = .ok (.getfield 10, 3) := by decide +kernel
theorem dL_hour_168 : decode cL_hour 168 = .ok (.bipush 8, 2) := by decide +kernel
theorem dL_hour_170 : decode cL_hour 170 = .ok (.invokestatic 129, 3) := by decide +kernel
theorem dL_hour_173 : decode cL_hour 173 = .ok (.iload 4, 2) := by decide +kernel
theorem dL_hour_175 : decode cL_hour 175 = .ok (.iload 6, 2) := by decide +kernel
theorem dL_hour_177 : decode cL_hour 177 = .ok (.iadd, 1) := by decide +kernel
theorem dL_hour_178 : decode cL_hour 178 = .ok (.if_icmp .ne 8, 3) := by decide +kernel
theorem dL_hour_181 : decode cL_hour 181 = .ok (.iload 6, 2) := by decide +kernel
theorem dL_hour_183 : decode cL_hour 183 = .ok (.ifCond .ge 5, 3) := by decide +kernel
theorem dL_hour_186 : decode cL_hour 186 = .ok (.iconst 0, 1) := by decide +kernel
theorem dL_hour_187 : decode cL_hour 187 = .ok (.ireturn, 1) := by decide +kernel
theorem dL_hour_188 : decode cL_hour 188 = .ok (.iconst 0, 1) := by decide +kernel
theorem dL_hour_189 : decode cL_hour 189 = .ok (.istore 7, 2) := by decide +kernel
theorem dL_hour_191 : decode cL_hour 191 = .ok (.iload 7, 2) := by decide +kernel
theorem dL_hour_193 : decode cL_hour 193 = .ok (.iload_n 1, 1) := by decide +kernel
theorem dL_hour_194 : decode cL_hour 194 = .ok (.if_icmp .ge 42, 3) := by decide +kernel
theorem dL_hour_197 : decode cL_hour 197 = .ok (.aload_n 0, 1) := by decide +kernel
theorem dL_hour_198 : decode cL_hour 198 = .ok (.getfield 10, 3) := by decide +kernel
theorem dL_hour_201 : decode cL_hour 201 = .ok (.iload 7, 2) := by decide +kernel
theorem dL_hour_203 : decode cL_hour 203 = .ok (.iconst 5, 1) := by decide +kernel
theorem dL_hour_204 : decode cL_hour 204 = .ok (.invokestatic 159, 3) := by decide +kernel
theorem dL_hour_207 : decode cL_hour 207 = .ok (.aload_n 0, 1) := by decide +kernel
theorem dL_hour_208 : decode cL_hour 208 = .ok (.getfield 16, 3) := by decide +kernel
theorem dL_hour_211 : decode cL_hour 211 = .ok (.iload 7, 2) := by decide +kernel
theorem dL_hour_213 : decode cL_hour 213 = .ok (.iaload, 1) := by decide +kernel
theorem dL_hour_214 : decode cL_hour 214 = .ok (.isub, 1) := by decide +kernel
theorem dL_hour_215 : decode cL_hour 215 = .ok (.aload_n 0, 1) := by decide +kernel
theorem dL_hour_216 : decode cL_hour 216 = .ok (.getfield 10, 3) := by decide +kernel
theorem dL_hour_219 : decode cL_hour 219 = .ok (.iload 7, 2) := by decide +kernel
theorem dL_hour_221 : decode cL_hour 221 = .ok (.iconst 2, 1) := by decide +kernel
theorem dL_hour_222 : decode cL_hour 222 = .ok (.invokestatic 159, 3) := by decide +kernel
theorem dL_hour_225 : decode cL_hour 225 = .ok (.if_icmp .le 5, 3) := by decide +kernel
theorem dL_hour_228 : decode cL_hour 228 = .ok (.iconst 0, 1) := by decide +kernel
theorem dL_hour_229 : decode cL_hour 229 = .ok (.ireturn, 1) := by decide +kernel
theorem dL_hour_230 : decode cL_hour 230 = .ok (.iinc 7 1, 3) := by decide +kernel
theorem dL_hour_233 : decode cL_hour 233 = .ok (.goto (-42), 3) := by decide +kernel
theorem dL_hour_236 : decode cL_hour 236 = .ok (.aload_n 0, 1) := by decide +kernel
theorem dL_hour_237 : decode cL_hour 237 = .ok (.getfield 10, 3) := by decide +kernel
theorem dL_hour_240 : decode cL_hour 240 = .ok (.bipush 13, 2) := by decide +kernel
theorem dL_hour_242 : decode cL_hour 242 = .ok (.invokestatic 129, 3) := by decide +kernel
theorem dL_hour_245 : decode cL_hour 245 = .ok (.istore 7, 2) := by decide +kernel
theorem dL_hour_247 : decode cL_hour 247 = .ok (.iconst 0, 1) := by decide +kernel
theorem dL_hour_248 : decode cL_hour 248 = .ok (.istore 8, 2) := by decide +kernel
theorem dL_hour_250 : decode cL_hour 250 = .ok (.iconst 0, 1) := by decide +kernel
theorem dL_hour_251 : decode cL_hour 251 = .ok (.istore 9, 2) := by decide +kernel
theorem dL_hour_253 : decode cL_hour 253 = .ok (.iload 7, 2) := by decide +kernel
theorem dL_hour_255 : decode cL_hour 255 = .ok (.iload_n 3, 1) := by decide +kernel
theorem dL_hour_256 : decode cL_hour 256 = .ok (.if_icmp .ge 5, 3) := by decide +kernel
theorem dL_hour_259 : decode cL_hour 259 = .ok (.iconst 0, 1) := by decide +kernel
theorem dL_hour_260 : decode cL_hour 260 = .ok (.ireturn, 1) := by decide +kernel
theorem dL_hour_261 : decode cL_hour 261 = .ok (.iconst 0, 1) := by decide +kernel
theorem dL_hour_262 : decode cL_hour 262 = .ok (.istore 10, 2) := by decide +kernel
theorem dL_hour_264 : decode cL_hour 264 = .ok (.iload 10, 2) := by decide +kernel
theorem dL_hour_266 : decode cL_hour 266 = .ok (.iload 7, 2) := by decide +kernel
theorem dL_hour_268 : decode cL_hour 268 = .ok (.if_icmp .ge 147, 3) := by decide +kernel
theorem dL_hour_271 : decode cL_hour 271 = .ok (.aload_n 0, 1) := by decide +kernel
theorem dL_hour_272 : decode cL_hour 272 = .ok (.getfield 10, 3) := by decide +kernel
theorem dL_hour_275 : decode cL_hour 275 = .ok (.iload 10, 2) := by decide +kernel
theorem dL_hour_277 : decode cL_hour 277 = .ok (.iconst 1, 1) := by decide +kernel
theorem dL_hour_278 : decode cL_hour 278 = .ok (.invokestatic 153, 3) := by decide +kernel
theorem dL_hour_281 : decode cL_hour 281 = .ok (.istore 11, 2) := by decide +kernel
theorem dL_hour_283 : decode cL_hour 283 = .ok (.iload 10, 2) := by decide +kernel
theorem dL_hour_285 : decode cL_hour 285 = .ok (.ifCond .le 28, 3) := by decide +kernel
theorem dL_hour_288 : decode cL_hour 288 = .ok (.aload_n 0, 1) := by decide +kernel
theorem dL_hour_289 : decode cL_hour 289 = .ok (.getfield 10, 3) := by decide +kernel
theorem dL_hour_292 : decode cL_hour 292 = .ok (.iload 10, 2) := by decide +kernel
theorem dL_hour_294 : decode cL_hour 294 = .ok (.iconst 0, 1) := by decide +kernel
theorem dL_hour_295 : decode cL_hour 295 = .ok (.invokestatic 153, 3) := by decide +kernel
theorem dL_hour_298 : decode cL_hour 298 = .ok (.aload_n 0, 1) := by decide +kernel
theorem dL_hour_299 : decode cL_hour 299 = .ok (.getfield 10, 3) := by decide +kernel
theorem dL_hour_302 : decode cL_hour 302 = .ok (.iload 10, 2) := by decide +kernel
theorem dL_hour_304 : decode cL_hour 304 = .ok (.iconst 1, 1) := by decide +kernel
theorem dL_hour_305 : decode cL_hour 305 = .ok (.isub, 1) := by decide +kernel
theorem dL_hour_306 : decode cL_hour 306 = .ok (.iconst 0, 1) := by decide +kernel
theorem dL_hour_307 : decode cL_hour 307 = .ok (.invokestatic 153, 3) := by decide +kernel
theorem dL_hour_310 : decode cL_hour 310 = .ok (.if_icmp .lt 42, 3) := by decide +kernel
theorem dL_hour_313 : decode cL_hour 313 = .ok (.iload 11, 2) := by decide +kernel
theorem dL_hour_315 : decode cL_hour 315 = .ok (.ifCond .eq 10, 3) := by decide +kernel
theorem dL_hour_318 : decode cL_hour 318 = .ok (.iload 11, 2) := by decide +kernel
theorem dL_hour_320 : decode cL_hour 320 = .ok (.bipush 6, 2) := by decide +kernel
theorem dL_hour_322 : decode cL_hour 322 = .ok (.if_icmp .le 7, 3) := by decide +kernel
theorem dL_hour_325 : decode cL_hour 325 = .ok (.iconst 1, 1) := by decide +kernel
theorem dL_hour_326 : decode cL_hour 326 = .ok (.goto 4, 3) := by decide +kernel
theorem dL_hour_329 : decode cL_hour 329 = .ok (.iconst 0, 1) := by decide +kernel
theorem dL_hour_330 : decode cL_hour 330 = .ok (.aload_n 0, 1) := by decide +kernel
theorem dL_hour_331 : decode cL_hour 331 = .ok (.getfield 10, 3) := by decide +kernel
theorem dL_hour_334 : decode cL_hour 334 = .ok (.iload 10, 2) := by decide +kernel
theorem dL_hour_336 : decode cL_hour 336 = .ok (.iconst 4, 1) := by decide +kernel
theorem dL_hour_337 : decode cL_hour 337 = .ok (.invokestatic 153, 3) := by decide +kernel
theorem dL_hour_340 : decode cL_hour 340 = .ok (.iconst (-1), 1) := by decide +kernel
theorem dL_hour_341 : decode cL_hour 341 = .ok (.if_icmp .ne 7, 3) := by decide +kernel
theorem dL_hour_344 : decode cL_hour 344 = .ok (.iconst 1, 1) := by decide +kernel
theorem dL_hour_345 : decode cL_hour 345 = .ok (.goto 4, 3) := by decide +kernel
theorem dL_hour_348 : decode cL_hour 348 = .ok (.iconst 0, 1) := by decide +kernel
theorem dL_hour_349 : decode cL_hour 349 = .ok (.if_icmp .eq 5, 3) := by decide +kernel
theorem dL_hour_352 : decode cL_hour 352 = .ok (.iconst 0, 1) := by decide +kernel
theorem dL_hour_353 : decode cL_hour 353 = .ok (.ireturn, 1) := by decide +kernel
theorem dL_hour_354 : decode cL_hour 354 = .ok (.aload_n 0, 1) := by decide +kernel
theorem dL_hour_355 : decode cL_hour 355 = .ok (.getfield 10, 3) := by decide +kernel
theorem dL_hour_358 : decode cL_hour 358 = .ok (.iload 10, 2) := by decide +kernel
theorem dL_hour_360 : decode cL_hour 360 = .ok (.iconst 0, 1) := by decide +kernel
theorem dL_hour_361 : decode cL_hour 361 = .ok (.invokestatic 153, 3) := by decide +kernel
theorem dL_hour_364 : decode cL_hour 364 = .ok (.iload_n 2, 1) := by decide +kernel
theorem dL_hour_365 : decode cL_hour 365 = .ok (.if_icmp .eq 6, 3) := by decide +kernel
theorem dL_hour_368 : decode cL_hour 368 = .ok (.goto 41, 3) := by decide +kernel
theorem dL_hour_371 : decode cL_hour 371 = .ok (.iload 8, 2) := by decide +kernel
theorem dL_hour_373 : decode cL_hour 373 = .ok (.iload 11, 2) := by decide +kernel
theorem dL_hour_375 : decode cL_hour 375 = .ok (.iconst 1, 1) := by decide +kernel
theorem dL_hour_376 : decode cL_hour 376 = .ok (.if_icmp .lt 13, 3) := by decide +kernel
theorem dL_hour_379 : decode cL_hour 379 = .ok (.iload 11, 2) := by decide +kernel
theorem dL_hour_381 : decode cL_hour 381 = .ok (.iconst 3, 1) := by decide +kernel
theorem dL_hour_382 : decode cL_hour 382 = .ok (.if_icmp .gt 7, 3) := by decide +kernel
theorem dL_hour_385 : decode cL_hour 385 = .ok (.iconst 1, 1) := by decide +kernel
theorem dL_hour_386 : decode cL_hour 386 = .ok (.goto 4, 3) := by decide +kernel
theorem dL_hour_389 : decode cL_hour 389 = .ok (.iconst 0, 1) := by decide +kernel
theorem dL_hour_390 : decode cL_hour 390 = .ok (.iadd, 1) := by decide +kernel
theorem dL_hour_391 : decode cL_hour 391 = .ok (.istore 8, 2) := by decide +kernel
theorem dL_hour_393 : decode cL_hour 393 = .ok (.iload 9, 2) := by decide +kernel
theorem dL_hour_395 : decode cL_hour 395 = .ok (.iload 11, 2) := by decide +kernel
theorem dL_hour_397 : decode cL_hour 397 = .ok (.iconst 5, 1) := by decide +kernel
theorem dL_hour_398 : decode cL_hour 398 = .ok (.if_icmp .ne 7, 3) := by decide +kernel
theorem dL_hour_401 : decode cL_hour 401 = .ok (.iconst 1, 1) := by decide +kernel
theorem dL_hour_402 : decode cL_hour 402 = .ok (.goto 4, 3) := by decide +kernel
theorem dL_hour_405 : decode cL_hour 405 = .ok (.iconst 0, 1) := by decide +kernel
theorem dL_hour_406 : decode cL_hour 406 = .ok (.iadd, 1) := by decide +kernel
theorem dL_hour_407 : decode cL_hour 407 = .ok (.istore 9, 2) := by decide +kernel
theorem dL_hour_409 : decode cL_hour 409 = .ok (.iinc 10 1, 3) := by decide +kernel
theorem dL_hour_412 : decode cL_hour 412 = .ok (.goto (-148), 3) := by decide +kernel
theorem dL_hour_415 : decode cL_hour 415 = .ok (.iload 7, 2) := by decide +kernel
theorem dL_hour_417 : decode cL_hour 417 = .ok (.bipush 40, 2) := by decide +kernel
theorem dL_hour_419 : decode cL_hour 419 = .ok (.if_icmp .ne 16, 3) := by decide +kernel
theorem dL_hour_422 : decode cL_hour 422 = .ok (.aload_n 0, 1) := by decide +kernel
theorem dL_hour_423 : decode cL_hour 423 = .ok (.getfield 10, 3) := by decide +kernel
theorem dL_hour_426 : decode cL_hour 426 = .ok (.iconst 0, 1) := by decide +kernel
theorem dL_hour_427 : decode cL_hour 427 = .ok (.iconst 0, 1) := by decide +kernel
theorem dL_hour_428 : decode cL_hour 428 = .ok (.invokestatic 153, 3) := by decide +kernel
theorem dL_hour_431 : decode cL_hour 431 = .ok (.iload_n 2, 1) := by decide +kernel
theorem dL_hour_432 : decode cL_hour 432 = .ok (.if_icmp .eq 27, 3) := by decide +kernel
theorem dL_hour_435 : decode cL_hour 435 = .ok (.iload 8, 2) := by decide +kernel
theorem dL_hour_437 : decode cL_hour 437 = .ok (.aload_n 0, 1) := by decide +kernel
theorem dL_hour_438 : decode cL_hour 438 = .ok (.getfield 10, 3) := by decide +kernel
theorem dL_hour_441 : decode cL_hour 441 = .ok (.bipush 11, 2) := by decide +kernel
theorem dL_hour_443 : decode cL_hour 443 = .ok (.invokestatic 129, 3) := by decide +kernel
theorem dL_hour_446 : decode cL_hour 446 = .ok (.iload 5, 2) := by decide +kernel
theorem dL_hour_448 : decode cL_hour 448 = .ok (.isub, 1) := by decide +kernel
theorem dL_hour_449 : decode cL_hour 449 = .ok (.if_icmp .ne 14, 3) := by decide +kernel
theorem dL_hour_452 : decode cL_hour 452 = .ok (.iload 9, 2) := by decide +kernel
theorem dL_hour_454 : decode cL_hour 454 = .ok (.iload 6, 2) := by decide +kernel
theorem dL_hour_456 : decode cL_hour 456 = .ok (.if_icmp .ne 7, 3) := by decide +kernel
theorem dL_hour_459 : decode cL_hour 459 = .ok (.iconst 1, 1) := by decide +kernel
theorem dL_hour_460 : decode cL_hour 460 = .ok (.goto 4, 3) := by decide +kernel
theorem dL_hour_463 : decode cL_hour 463 = .ok (.iconst 0, 1) := by decide +kernel
theorem dL_hour_464 : decode cL_hour 464 = .ok (.ireturn, 1) := by decide +kernel
theorem dL_backs_0 : decode cL_backs 0 = .ok (.aload_n 0, 1) := by decide +kernel
theorem dL_backs_1 : decode cL_backs 1 = .ok (.getfield 10, 3) := by decide +kernel
theorem dL_backs_4 : decode cL_backs 4 = .ok (.iconst 2, 1) := by decide +kernel
theorem dL_backs_5 : decode cL_backs 5 = .ok (.invokestatic 129, 3) := by decide +kernel
theorem dL_backs_8 : decode cL_backs 8 = .ok (.istore_n 1, 1) := by decide +kernel
theorem dL_backs_9 : decode cL_backs 9 = .ok (.iload_n 1, 1) := by decide +kernel
theorem dL_backs_10 : decode cL_backs 10 = .ok (.ifCond .ne 22, 3) := by decide +kernel
theorem dL_backs_13 : decode cL_backs 13 = .ok (.aload_n 0, 1) := by decide +kernel
theorem dL_backs_14 : decode cL_backs 14 = .ok (.getfield 10, 3) := by decide +kernel
theorem dL_backs_17 : decode cL_backs 17 = .ok (.iconst 0, 1) := by decide +kernel
theorem dL_backs_18 : decode cL_backs 18 = .ok (.invokestatic 171, 3) := by decide +kernel
theorem dL_backs_21 : decode cL_backs 21 = .ok (.bipush (-101), 2) := by decide +kernel
theorem dL_backs_23 : decode cL_backs 23 = .ok (.if_icmp .ne 7, 3) := by decide +kernel
theorem dL_backs_26 : decode cL_backs 26 = .ok (.iconst 1, 1) := by decide +kernel
theorem dL_backs_27 : decode cL_backs 27 = .ok (.goto 4, 3) := by decide +kernel
theorem dL_backs_30 : decode cL_backs 30 = .ok (.iconst 0, 1) := by decide +kernel
theorem dL_backs_31 : decode cL_backs 31 = .ok (.ireturn, 1) := by decide +kernel
theorem dL_backs_32 : decode cL_backs 32 = .ok (.aload_n 0, 1) := by decide +kernel
theorem dL_backs_33 : decode cL_backs 33 = .ok (.iload_n 1, 1) := by decide +kernel
theorem dL_backs_34 : decode cL_backs 34 = .ok (.invokevirtual 123, 3) := by decide +kernel
theorem dL_backs_37 : decode cL_backs 37 = .ok (.istore_n 2, 1) := by decide +kernel
theorem dL_backs_38 : decode cL_backs 38 = .ok (.aload_n 0, 1) := by decide +kernel
theorem dL_backs_39 : decode cL_backs 39 = .ok (.getfield 10, 3) := by decide +kernel
theorem dL_backs_42 : decode cL_backs 42 = .ok (.iload_n 2, 1) := by decide +kernel
theorem dL_backs_43 : decode cL_backs 43 = .ok (.bipush 9, 2) := by decide +kernel
theorem dL_backs_45 : decode cL_backs 45 = .ok (.invokestatic 143, 3) := by decide +kernel
theorem dL_backs_48 : decode cL_backs 48 = .ok (.istore_n 3, 1) := by decide +kernel
theorem dL_backs_49 : decode cL_backs 49 = .ok (.aload_n 0, 1) := by decide +kernel
theorem dL_backs_50 : decode cL_backs 50 = .ok (.getfield 10, 3) := by decide +kernel
theorem dL_backs_53 : decode cL_backs 53 = .ok (.iload_n 2, 1) := by decide +kernel
theorem dL_backs_54 : decode cL_backs 54 = .ok (.iconst 4, 1) := by decide +kernel
theorem dL_backs_55 : decode cL_backs 55 = .ok (.invokestatic 143, 3) := by decide +kernel
theorem dL_backs_58 : decode cL_backs 58 = .ok (.istore 4, 2) := by decide +kernel
theorem dL_backs_60 : decode cL_backs 60 = .ok (.aload_n 0, 1) := by decide +kernel
theorem dL_backs_61 : decode cL_backs 61 = .ok (.getfield 10, 3) := by decide +kernel
theorem dL_backs_64 : decode cL_backs 64 = .ok (.iload_n 2, 1) := by decide +kernel
theorem dL_backs_65 : decode cL_backs 65 = .ok (.invokestatic 171, 3) := by decide +kernel
theorem dL_backs_68 : decode cL_backs 68 = .ok (.istore 5, 2) := by decide +kernel
theorem dL_backs_70 : decode cL_backs 70 = .ok (.iload 5, 2) := by decide +kernel
theorem dL_backs_72 : decode cL_backs 72 = .ok (.iload_n 3, 1) := by decide +kernel
theorem dL_backs_73 : decode cL_backs 73 = .ok (.if_icmp .ne 75, 3) := by decide +kernel
theorem dL_backs_76 : decode cL_backs 76 = .ok (.aload_n 0, 1) := by decide +kernel
theorem dL_backs_77 : decode cL_backs 77 = .ok (.getfield 10, 3) := by decide +kernel
theorem dL_backs_80 : decode cL_backs 80 = .ok (.iload_n 2, 1) := by decide +kernel
theorem dL_backs_81 : decode cL_backs 81 = .ok (.bipush 9, 2) := by decide +kernel
theorem dL_backs_83 : decode cL_backs 83 = .ok (.invokestatic 143, 3) := by decide +kernel
theorem dL_backs_86 : decode cL_backs 86 = .ok (.ifCond .ne 62, 3) := by decide +kernel
theorem dL_backs_89 : decode cL_backs 89 = .ok (.aload_n 0, 1) := by decide +kernel
theorem dL_backs_90 : decode cL_backs 90 = .ok (.getfield 10, 3) := by decide +kernel
theorem dL_backs_93 : decode cL_backs 93 = .ok (.iload_n 2, 1) := by decide +kernel
theorem dL_backs_94 : decode cL_backs 94 = .ok (.iconst 4, 1) := by decide +kernel
theorem dL_backs_95 : decode cL_backs 95 = .ok (.invokestatic 143, 3) := by decide +kernel
theorem dL_backs_98 : decode cL_backs 98 = .ok (.iload 4, 2) := by decide +kernel
theorem dL_backs_100 : decode cL_backs 100 = .ok (.iconst 1, 1) := by decide +kernel
theorem dL_backs_101 : decode cL_backs 101 = .ok (.if_icmp .ne 7, 3) := by decide +kernel
theorem dL_backs_104 : decode cL_backs 104 = .ok (.iconst 1, 1) := by decide +kernel
theorem dL_backs_105 : decode cL_backs 105 = .ok (.goto 4, 3) := by decide +kernel
theorem dL_backs_108 : decode cL_backs 108 = .ok (.iconst 2, 1) := by decide +kernel
theorem dL_backs_109 : decode cL_backs 109 = .ok (.if_icmp .ne 39, 3) := by decide +kernel
theorem dL_backs_112 : decode cL_backs 112 = .ok (.iload 5, 2) := by decide +kernel
theorem dL_backs_114 : decode cL_backs 114 = .ok (.ifCond .eq 30, 3) := by decide +kernel
theorem dL_backs_117 : decode cL_backs 117 = .ok (.aload_n 0, 1) := by decide +kernel
theorem dL_backs_118 : decode cL_backs 118 = .ok (.getfield 10, 3) := by decide +kernel
theorem dL_backs_121 : decode cL_backs 121 = .ok (.iload_n 2, 1) := by decide +kernel
theorem dL_backs_122 : decode cL_backs 122 = .ok (.bipush 10, 2) := by decide +kernel
theorem dL_backs_124 : decode cL_backs 124 = .ok (.invokestatic 143, 3) := by decide +kernel
theorem dL_backs_127 : decode cL_backs 127 = .ok (.ifCond .lt 21, 3) := by decide +kernel
theorem dL_backs_130 : decode cL_backs 130 = .ok (.aload_n 0, 1) := by decide +kernel
theorem dL_backs_131 : decode cL_backs 131 = .ok (.getfield 10, 3) := by decide +kernel
theorem dL_backs_134 : decode cL_backs 134 = .ok (.iload_n 2, 1) := by decide +kernel
theorem dL_backs_135 : decode cL_backs 135 = .ok (.bipush 11, 2) := by decide +kernel
theorem dL_backs_137 : decode cL_backs 137 = .ok (.invokestatic 143, 3) := by decide +kernel
theorem dL_backs_140 : decode cL_backs 140 = .ok (.iconst (-1), 1) := by decide +kernel
theorem dL_backs_141 : decode cL_backs 141 = .ok (.if_icmp .ne 7, 3) := by decide +kernel
theorem dL_backs_144 : decode cL_backs 144 = .ok (.iconst 1, 1) := by decide +kernel
theorem dL_backs_145 : decode cL_backs 145 = .ok (.goto 4, 3) := by decide +kernel
theorem dL_backs_148 : decode cL_backs 148 = .ok (.iconst 0, 1) := by decide +kernel
theorem dL_backs_149 : decode cL_backs 149 = .ok (.ireturn, 1) := by decide +kernel
theorem dL_foretells_0 : decode cL_foretells 0 = .ok (.iconst 1, 1) := by decide +kernel
theorem dL_foretells_1 : decode cL_foretells 1 = .ok (.aload_n 0, 1) := by decide +kernel
theorem dL_foretells_2 : decode cL_foretells 2 = .ok (.bipush 40, 2) := by decide +kernel
theorem dL_foretells_4 : decode cL_foretells 4 = .ok (.invokevirtual 123, 3) := by decide +kernel
theorem dL_foretells_7 : decode cL_foretells 7 = .ok (.iadd, 1) := by decide +kernel
theorem dL_foretells_8 : decode cL_foretells 8 = .ok (.istore_n 1, 1) := by decide +kernel
theorem dL_foretells_9 : decode cL_foretells 9 = .ok (.aload_n 0, 1) := by decide +kernel
theorem dL_foretells_10 : decode cL_foretells 10 = .ok (.getfield 10, 3) := by decide +kernel
theorem dL_foretells_13 : decode cL_foretells 13 = .ok (.iconst 2, 1) := by decide +kernel
theorem dL_foretells_14 : decode cL_foretells 14 = .ok (.invokestatic 129, 3) := by decide +kernel
theorem dL_foretells_17 : decode cL_foretells 17 = .ok (.istore_n 2, 1) := by decide +kernel
theorem dL_foretells_18 : decode cL_foretells 18 = .ok (.iconst 1, 1) := by decide +kernel
theorem dL_foretells_19 : decode cL_foretells 19 = .ok (.aload_n 0, 1) := by decide +kernel
theorem dL_foretells_20 : decode cL_foretells 20 = .ok (.iconst 4, 1) := by decide +kernel
theorem dL_foretells_21 : decode cL_foretells 21 = .ok (.invokevirtual 123, 3) := by decide +kernel
theorem dL_foretells_24 : decode cL_foretells 24 = .ok (.iadd, 1) := by decide +kernel
theorem dL_foretells_25 : decode cL_foretells 25 = .ok (.istore_n 3, 1) := by decide +kernel
theorem dL_foretells_26 : decode cL_foretells 26 = .ok (.aload_n 0, 1) := by decide +kernel
theorem dL_foretells_27 : decode cL_foretells 27 = .ok (.getfield 10, 3) := by decide +kernel
theorem dL_foretells_30 : decode cL_foretells 30 = .ok (.iload_n 3, 1) := by decide +kernel
theorem dL_foretells_31 : decode cL_foretells 31 = .ok (.invokestatic 173, 3) := by decide +kernel
theorem dL_foretells_34 : decode cL_foretells 34 = .ok (.istore 4, 2) := by decide +kernel
theorem dL_foretells_36 : decode cL_foretells 36 = .ok (.aload_n 0, 1) := by decide +kernel
theorem dL_foretells_37 : decode cL_foretells 37 = .ok (.getfield 10, 3) := by decide +kernel
theorem dL_foretells_40 : decode cL_foretells 40 = .ok (.bipush 6, 2) := by decide +kernel
theorem dL_foretells_42 : decode cL_foretells 42 = .ok (.invokestatic 129, 3) := by decide +kernel
theorem dL_foretells_45 : decode cL_foretells 45 = .ok (.istore 5, 2) := by decide +kernel
theorem dL_foretells_47 : decode cL_foretells 47 = .ok (.iload_n 2, 1) := by decide +kernel
theorem dL_foretells_48 : decode cL_foretells 48 = .ok (.ifCond .ne 7, 3) := by decide +kernel
theorem dL_foretells_51 : decode cL_foretells 51 = .ok (.iconst (-1), 1) := by decide +kernel
theorem dL_foretells_52 : decode cL_foretells 52 = .ok (.goto 14, 3) := by decide +kernel
theorem dL_foretells_55 : decode cL_foretells 55 = .ok (.aload_n 0, 1) := by decide +kernel
theorem dL_foretells_56 : decode cL_foretells 56 = .ok (.getfield 10, 3) := by decide +kernel
theorem dL_foretells_59 : decode cL_foretells 59 = .ok (.iload_n 2, 1) := by decide +kernel
theorem dL_foretells_60 : decode cL_foretells 60 = .ok (.iconst 1, 1) := by decide +kernel
theorem dL_foretells_61 : decode cL_foretells 61 = .ok (.isub, 1) := by decide +kernel
theorem dL_foretells_62 : decode cL_foretells 62 = .ok (.iload_n 1, 1) := by decide +kernel
theorem dL_foretells_63 : decode cL_foretells 63 = .ok (.invokestatic 175, 3) := by decide +kernel
theorem dL_foretells_66 : decode cL_foretells 66 = .ok (.istore 6, 2) := by decide +kernel
theorem dL_foretells_68 : decode cL_foretells 68 = .ok (.aload_n 0, 1) := by decide +kernel
theorem dL_foretells_69 : decode cL_foretells 69 = .ok (.getfield 10, 3) := by decide +kernel
theorem dL_foretells_72 : decode cL_foretells 72 = .ok (.bipush 6, 2) := by decide +kernel
theorem dL_foretells_74 : decode cL_foretells 74 = .ok (.invokestatic 129, 3) := by decide +kernel
theorem dL_foretells_77 : decode cL_foretells 77 = .ok (.iload 5, 2) := by decide +kernel
theorem dL_foretells_79 : decode cL_foretells 79 = .ok (.if_icmp .ne 14, 3) := by decide +kernel
theorem dL_foretells_82 : decode cL_foretells 82 = .ok (.aload_n 0, 1) := by decide +kernel
theorem dL_foretells_83 : decode cL_foretells 83 = .ok (.getfield 10, 3) := by decide +kernel
theorem dL_foretells_86 : decode cL_foretells 86 = .ok (.iconst 1, 1) := by decide +kernel
theorem dL_foretells_87 : decode cL_foretells 87 = .ok (.invokestatic 177, 3) := by decide +kernel
theorem dL_foretells_90 : decode cL_foretells 90 = .ok (.ifCond .eq 5, 3) := by decide +kernel
theorem dL_foretells_93 : decode cL_foretells 93 = .ok (.iconst 0, 1) := by decide +kernel
theorem dL_foretells_94 : decode cL_foretells 94 = .ok (.ireturn, 1) := by decide +kernel
theorem dL_foretells_95 : decode cL_foretells 95 = .ok (.aload_n 0, 1) := by decide +kernel
theorem dL_foretells_96 : decode cL_foretells 96 = .ok (.getfield 10, 3) := by decide +kernel
theorem dL_foretells_99 : decode cL_foretells 99 = .ok (.bipush 8, 2) := by decide +kernel
theorem dL_foretells_101 : decode cL_foretells 101 = .ok (.invokestatic 129, 3) := by decide +kernel
theorem dL_foretells_104 : decode cL_foretells 104 = .ok (.iload_n 3, 1) := by decide +kernel
theorem dL_foretells_105 : decode cL_foretells 105 = .ok (.if_icmp .lt 7, 3) := by decide +kernel
theorem dL_foretells_108 : decode cL_foretells 108 = .ok (.iconst 0, 1) := by decide +kernel
theorem dL_foretells_109 : decode cL_foretells 109 = .ok (.goto 4, 3) := by decide +kernel
theorem dL_foretells_112 : decode cL_foretells 112 = .ok (.iconst (-1), 1) := by decide +kernel
theorem dL_foretells_113 : decode cL_foretells 113 = .ok (.istore 7, 2) := by decide +kernel
theorem dL_foretells_115 : decode cL_foretells 115 = .ok (.iconst (-1), 1) := by decide +kernel
theorem dL_foretells_116 : decode cL_foretells 116 = .ok (.istore 8, 2) := by decide +kernel
theorem dL_foretells_118 : decode cL_foretells 118 = .ok (.iconst 1, 1) := by decide +kernel
theorem dL_foretells_119 : decode cL_foretells 119 = .ok (.istore 9, 2) := by decide +kernel
theorem dL_foretells_121 : decode cL_foretells 121 = .ok (.iload 9, 2) := by decide +kernel
theorem dL_foretells_123 : decode cL_foretells 123 = .ok (.bipush 72, 2) := by decide +kernel
theorem dL_foretells_125 : decode cL_foretells 125 = .ok (.if_icmp .gt 77, 3) := by decide +kernel
theorem dL_foretells_128 : decode cL_foretells 128 = .ok (.aload_n 0, 1) := by decide +kernel
theorem dL_foretells_129 : decode cL_foretells 129 = .ok (.getfield 10, 3) := by decide +kernel
theorem dL_foretells_132 : decode cL_foretells 132 = .ok (.iconst 1, 1) := by decide +kernel
theorem dL_foretells_133 : decode cL_foretells 133 = .ok (.invokestatic 169, 3) := by decide +kernel
theorem dL_foretells_136 : decode cL_foretells 136 = .ok (.ifCond .ge 5, 3) := by decide +kernel
theorem dL_foretells_139 : decode cL_foretells 139 = .ok (.iconst 0, 1) := by decide +kernel
theorem dL_foretells_140 : decode cL_foretells 140 = .ok (.ireturn, 1) := by decide +kernel
theorem dL_foretells_141 : decode cL_foretells 141 = .ok (.iload 7, 2) := by decide +kernel
theorem dL_foretells_143 : decode cL_foretells 143 = .ok (.ifCond .ge 21, 3) := by decide +kernel
theorem dL_foretells_146 : decode cL_foretells 146 = .ok (.aload_n 0, 1) := by decide +kernel
theorem dL_foretells_147 : decode cL_foretells 147 = .ok (.getfield 10, 3) := by decide +kernel
theorem dL_foretells_150 : decode cL_foretells 150 = .ok (.bipush 8, 2) := by decide +kernel
theorem dL_foretells_152 : decode cL_foretells 152 = .ok (.invokestatic 129, 3) := by decide +kernel
theorem dL_foretells_155 : decode cL_foretells 155 = .ok (.iload_n 3, 1) := by decide +kernel
theorem dL_foretells_156 : decode cL_foretells 156 = .ok (.if_icmp .lt 8, 3) := by decide +kernel
theorem dL_foretells_159 : decode cL_foretells 159 = .ok (.iload 9, 2) := by decide +kernel
theorem dL_foretells_161 : decode cL_foretells 161 = .ok (.goto 5, 3) := by decide +kernel
theorem dL_foretells_164 : decode cL_foretells 164 = .ok (.iload 7, 2) := by decide +kernel
theorem dL_foretells_166 : decode cL_foretells 166 = .ok (.istore 7, 2) := by decide +kernel
theorem dL_foretells_168 : decode cL_foretells 168 = .ok (.iload 9, 2) := by decide +kernel
theorem dL_foretells_170 : decode cL_foretells 170 = .ok (.iload_n 1, 1) := by decide +kernel
theorem dL_foretells_171 : decode cL_foretells 171 = .ok (.if_icmp .ne 21, 3) := by decide +kernel
theorem dL_foretells_174 : decode cL_foretells 174 = .ok (.iload_n 2, 1) := by decide +kernel
theorem dL_foretells_175 : decode cL_foretells 175 = .ok (.ifCond .le 17, 3) := by decide +kernel
theorem dL_foretells_178 : decode cL_foretells 178 = .ok (.aload_n 0, 1) := by decide +kernel
theorem dL_foretells_179 : decode cL_foretells 179 = .ok (.getfield 10, 3) := by decide +kernel
theorem dL_foretells_182 : decode cL_foretells 182 = .ok (.iload_n 2, 1) := by decide +kernel
theorem dL_foretells_183 : decode cL_foretells 183 = .ok (.iconst 1, 1) := by decide +kernel
theorem dL_foretells_184 : decode cL_foretells 184 = .ok (.isub, 1) := by decide +kernel
theorem dL_foretells_185 : decode cL_foretells 185 = .ok (.iconst 4, 1) := by decide +kernel
theorem dL_foretells_186 : decode cL_foretells 186 = .ok (.invokestatic 143, 3) := by decide +kernel
theorem dL_foretells_189 : decode cL_foretells 189 = .ok (.goto 5, 3) := by decide +kernel
theorem dL_foretells_192 : decode cL_foretells 192 = .ok (.iload 8, 2) := by decide +kernel
theorem dL_foretells_194 : decode cL_foretells 194 = .ok (.istore 8, 2) := by decide +kernel
theorem dL_foretells_196 : decode cL_foretells 196 = .ok (.iinc 9 1, 3) := by decide +kernel
theorem dL_foretells_199 : decode cL_foretells 199 = .ok (.goto (-78), 3) := by decide +kernel
theorem dL_foretells_202 : decode cL_foretells 202 = .ok (.iload 7, 2) := by decide +kernel
theorem dL_foretells_204 : decode cL_foretells 204 = .ok (.iload 4, 2) := by decide +kernel
theorem dL_foretells_206 : decode cL_foretells 206 = .ok (.if_icmp .ne 46, 3) := by decide +kernel
theorem dL_foretells_209 : decode cL_foretells 209 = .ok (.iload 8, 2) := by decide +kernel
theorem dL_foretells_211 : decode cL_foretells 211 = .ok (.iload 6, 2) := by decide +kernel
theorem dL_foretells_213 : decode cL_foretells 213 = .ok (.if_icmp .ne 39, 3) := by decide +kernel
theorem dL_foretells_216 : decode cL_foretells 216 = .ok (.aload_n 0, 1) := by decide +kernel
theorem dL_foretells_217 : decode cL_foretells 217 = .ok (.getfield 10, 3) := by decide +kernel
theorem dL_foretells_220 : decode cL_foretells 220 = .ok (.iconst 1, 1) := by decide +kernel
theorem dL_foretells_221 : decode cL_foretells 221 = .ok (.invokestatic 179, 3) := by decide +kernel
theorem dL_foretells_224 : decode cL_foretells 224 = .ok (.ifCond .ne 28, 3) := by decide +kernel
theorem dL_foretells_227 : decode cL_foretells 227 = .ok (.aload_n 0, 1) := by decide +kernel
theorem dL_foretells_228 : decode cL_foretells 228 = .ok (.getfield 10, 3) := by decide +kernel
theorem dL_foretells_231 : decode cL_foretells 231 = .ok (.bipush 6, 2) := by decide +kernel
theorem dL_foretells_233 : decode cL_foretells 233 = .ok (.invokestatic 129, 3) := by decide +kernel
theorem dL_foretells_236 : decode cL_foretells 236 = .ok (.iload 5, 2) := by decide +kernel
theorem dL_foretells_238 : decode cL_foretells 238 = .ok (.if_icmp .ne 14, 3) := by decide +kernel
theorem dL_foretells_241 : decode cL_foretells 241 = .ok (.aload_n 0, 1) := by decide +kernel
theorem dL_foretells_242 : decode cL_foretells 242 = .ok (.invokevirtual 181, 3) := by decide +kernel
theorem dL_foretells_245 : decode cL_foretells 245 = .ok (.ifCond .eq 7, 3) := by decide +kernel
theorem dL_foretells_248 : decode cL_foretells 248 = .ok (.iconst 1, 1) := by decide +kernel
theorem dL_foretells_249 : decode cL_foretells 249 = .ok (.goto 4, 3) := by decide +kernel
theorem dL_foretells_252 : decode cL_foretells 252 = .ok (.iconst 0, 1) := by decide +kernel
theorem dL_foretells_253 : decode cL_foretells 253 = .ok (.ireturn, 1) := by decide +kernel
theorem dL_law_0 : decode cL_law 0 = .ok (.new 11, 3) := by decide +kernel
theorem dL_law_3 : decode cL_law 3 = .ok (.dup, 1) := by decide +kernel
theorem dL_law_4 : decode cL_law 4 = .ok (.invokespecial 185, 3) := by decide +kernel
theorem dL_law_7 : decode cL_law 7 = .ok (.aload_n 0, 1) := by decide +kernel
theorem dL_law_8 : decode cL_law 8 = .ok (.invokevirtual 186, 3) := by decide +kernel
theorem dL_law_11 : decode cL_law 11 = .ok (.ireturn, 1) := by decide +kernel
theorem dL_holds_0 : decode cL_holds 0 = .ok (.aload_n 0, 1) := by decide +kernel
theorem dL_holds_1 : decode cL_holds 1 = .ok (.aload_n 1, 1) := by decide +kernel
theorem dL_holds_2 : decode cL_holds 2 = .ok (.putfield 22, 3) := by decide +kernel
theorem dL_holds_5 : decode cL_holds 5 = .ok (.aload_n 0, 1) := by decide +kernel
theorem dL_holds_6 : decode cL_holds 6 = .ok (.invokevirtual 190, 3) := by decide +kernel
theorem dL_holds_9 : decode cL_holds 9 = .ok (.ifCond .ne 5, 3) := by decide +kernel
theorem dL_holds_12 : decode cL_holds 12 = .ok (.iconst 0, 1) := by decide +kernel
theorem dL_holds_13 : decode cL_holds 13 = .ok (.ireturn, 1) := by decide +kernel
theorem dL_holds_14 : decode cL_holds 14 = .ok (.iconst 0, 1) := by decide +kernel
theorem dL_holds_15 : decode cL_holds 15 = .ok (.istore_n 2, 1) := by decide +kernel
theorem dL_holds_16 : decode cL_holds 16 = .ok (.iload_n 2, 1) := by decide +kernel
theorem dL_holds_17 : decode cL_holds 17 = .ok (.bipush 60, 2) := by decide +kernel
theorem dL_holds_19 : decode cL_holds 19 = .ok (.if_icmp .ge 88, 3) := by decide +kernel
theorem dL_holds_22 : decode cL_holds 22 = .ok (.aload_n 0, 1) := by decide +kernel
theorem dL_holds_23 : decode cL_holds 23 = .ok (.iconst 3, 1) := by decide +kernel
theorem dL_holds_24 : decode cL_holds 24 = .ok (.invokevirtual 123, 3) := by decide +kernel
theorem dL_holds_27 : decode cL_holds 27 = .ok (.ifCond .ne 10, 3) := by decide +kernel
theorem dL_holds_30 : decode cL_holds 30 = .ok (.aload_n 0, 1) := by decide +kernel
theorem dL_holds_31 : decode cL_holds 31 = .ok (.invokevirtual 193, 3) := by decide +kernel
theorem dL_holds_34 : decode cL_holds 34 = .ok (.ifCond .eq 41, 3) := by decide +kernel
theorem dL_holds_37 : decode cL_holds 37 = .ok (.aload_n 0, 1) := by decide +kernel
theorem dL_holds_38 : decode cL_holds 38 = .ok (.iconst 4, 1) := by decide +kernel
theorem dL_holds_39 : decode cL_holds 39 = .ok (.invokevirtual 123, 3) := by decide +kernel
theorem dL_holds_42 : decode cL_holds 42 = .ok (.ifCond .ne 10, 3) := by decide +kernel
theorem dL_holds_45 : decode cL_holds 45 = .ok (.aload_n 0, 1) := by decide +kernel
theorem dL_holds_46 : decode cL_holds 46 = .ok (.invokevirtual 196, 3) := by decide +kernel
theorem dL_holds_49 : decode cL_holds 49 = .ok (.ifCond .eq 26, 3) := by decide +kernel
theorem dL_holds_52 : decode cL_holds 52 = .ok (.aload_n 0, 1) := by decide +kernel
theorem dL_holds_53 : decode cL_holds 53 = .ok (.bipush 25, 2) := by decide +kernel
theorem dL_holds_55 : decode cL_holds 55 = .ok (.invokevirtual 123, 3) := by decide +kernel
theorem dL_holds_58 : decode cL_holds 58 = .ok (.ifCond .ne 10, 3) := by decide +kernel
theorem dL_holds_61 : decode cL_holds 61 = .ok (.aload_n 0, 1) := by decide +kernel
theorem dL_holds_62 : decode cL_holds 62 = .ok (.invokevirtual 199, 3) := by decide +kernel
theorem dL_holds_65 : decode cL_holds 65 = .ok (.ifCond .eq 10, 3) := by decide +kernel
theorem dL_holds_68 : decode cL_holds 68 = .ok (.aload_n 0, 1) := by decide +kernel
theorem dL_holds_69 : decode cL_holds 69 = .ok (.invokevirtual 202, 3) := by decide +kernel
theorem dL_holds_72 : decode cL_holds 72 = .ok (.ifCond .ne 5, 3) := by decide +kernel
theorem dL_holds_75 : decode cL_holds 75 = .ok (.iconst 0, 1) := by decide +kernel
theorem dL_holds_76 : decode cL_holds 76 = .ok (.ireturn, 1) := by decide +kernel
theorem dL_holds_77 : decode cL_holds 77 = .ok (.iload_n 2, 1) := by decide +kernel
theorem dL_holds_78 : decode cL_holds 78 = .ok (.bipush 10, 2) := by decide +kernel
theorem dL_holds_80 : decode cL_holds 80 = .ok (.irem, 1) := by decide +kernel
theorem dL_holds_81 : decode cL_holds 81 = .ok (.iconst 4, 1) := by decide +kernel
theorem dL_holds_82 : decode cL_holds 82 = .ok (.if_icmp .ne 19, 3) := by decide +kernel
theorem dL_holds_85 : decode cL_holds 85 = .ok (.aload_n 0, 1) := by decide +kernel
theorem dL_holds_86 : decode cL_holds 86 = .ok (.invokevirtual 205, 3) := by decide +kernel
theorem dL_holds_89 : decode cL_holds 89 = .ok (.ifCond .eq 10, 3) := by decide +kernel
theorem dL_holds_92 : decode cL_holds 92 = .ok (.aload_n 0, 1) := by decide +kernel
theorem dL_holds_93 : decode cL_holds 93 = .ok (.invokevirtual 181, 3) := by decide +kernel
theorem dL_holds_96 : decode cL_holds 96 = .ok (.ifCond .ne 5, 3) := by decide +kernel
theorem dL_holds_99 : decode cL_holds 99 = .ok (.iconst 0, 1) := by decide +kernel
theorem dL_holds_100 : decode cL_holds 100 = .ok (.ireturn, 1) := by decide +kernel
theorem dL_holds_101 : decode cL_holds 101 = .ok (.iinc 2 1, 3) := by decide +kernel
theorem dL_holds_104 : decode cL_holds 104 = .ok (.goto (-88), 3) := by decide +kernel
theorem dL_holds_107 : decode cL_holds 107 = .ok (.aload_n 0, 1) := by decide +kernel
theorem dL_holds_108 : decode cL_holds 108 = .ok (.invokevirtual 208, 3) := by decide +kernel
theorem dL_holds_111 : decode cL_holds 111 = .ok (.ifCond .eq 57, 3) := by decide +kernel
theorem dL_holds_114 : decode cL_holds 114 = .ok (.aload_n 0, 1) := by decide +kernel
theorem dL_holds_115 : decode cL_holds 115 = .ok (.invokevirtual 205, 3) := by decide +kernel
theorem dL_holds_118 : decode cL_holds 118 = .ok (.ifCond .eq 50, 3) := by decide +kernel
theorem dL_holds_121 : decode cL_holds 121 = .ok (.aload_n 0, 1) := by decide +kernel
theorem dL_holds_122 : decode cL_holds 122 = .ok (.getfield 10, 3) := by decide +kernel
theorem dL_holds_125 : decode cL_holds 125 = .ok (.bipush 73, 2) := by decide +kernel
theorem dL_holds_127 : decode cL_holds 127 = .ok (.invokestatic 169, 3) := by decide +kernel
theorem dL_holds_130 : decode cL_holds 130 = .ok (.bipush (-102), 2) := by decide +kernel
theorem dL_holds_132 : decode cL_holds 132 = .ok (.if_icmp .ne 36, 3) := by decide +kernel
theorem dL_holds_135 : decode cL_holds 135 = .ok (.aload_n 0, 1) := by decide +kernel
theorem dL_holds_136 : decode cL_holds 136 = .ok (.getfield 10, 3) := by decide +kernel
theorem dL_holds_139 : decode cL_holds 139 = .ok (.invokevirtual 211, 3) := by decide +kernel
theorem dL_holds_142 : decode cL_holds 142 = .ok (.aload_n 0, 1) := by decide +kernel
theorem dL_holds_143 : decode cL_holds 143 = .ok (.getfield 10, 3) := by decide +kernel
theorem dL_holds_146 : decode cL_holds 146 = .ok (.iconst 0, 1) := by decide +kernel
theorem dL_holds_147 : decode cL_holds 147 = .ok (.invokestatic 129, 3) := by decide +kernel
theorem dL_holds_150 : decode cL_holds 150 = .ok (.aload_n 0, 1) := by decide +kernel
theorem dL_holds_151 : decode cL_holds 151 = .ok (.getfield 10, 3) := by decide +kernel
theorem dL_holds_154 : decode cL_holds 154 = .ok (.iconst 0, 1) := by decide +kernel
theorem dL_holds_155 : decode cL_holds 155 = .ok (.invokestatic 129, 3) := by decide +kernel
theorem dL_holds_158 : decode cL_holds 158 = .ok (.iconst 1, 1) := by decide +kernel
theorem dL_holds_159 : decode cL_holds 159 = .ok (.isub, 1) := by decide +kernel
theorem dL_holds_160 : decode cL_holds 160 = .ok (.imul, 1) := by decide +kernel
theorem dL_holds_161 : decode cL_holds 161 = .ok (.if_icmp .gt 7, 3) := by decide +kernel
theorem dL_holds_164 : decode cL_holds 164 = .ok (.iconst 1, 1) := by decide +kernel
theorem dL_holds_165 : decode cL_holds 165 = .ok (.goto 4, 3) := by decide +kernel
theorem dL_holds_168 : decode cL_holds 168 = .ok (.iconst 0, 1) := by decide +kernel
theorem dL_holds_169 : decode cL_holds 169 = .ok (.ireturn, 1) := by decide +kernel

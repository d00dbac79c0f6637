theorem dX10_drawn_83 : decode cX10_drawn 83 = .ok (.sipush 10000, 3) := by decide +kernel
theorem dX10_drawn_86 : decode cX10_drawn 86 = .ok (.idiv, 1) := by decide +kernel
theorem dX10_drawn_87 : decode cX10_drawn 87 = .ok (.if_icmp .ge 183, 3) := by decide +kernel
theorem dX10_drawn_90 : decode cX10_drawn 90 = .ok (.aload_n 0, 1) := by decide +kernel
theorem dX10_drawn_91 : decode cX10_drawn 91 = .ok (.iconst 0, 1) := by decide +kernel
theorem dX10_drawn_92 : decode cX10_drawn 92 = .ok (.invokevirtual 222, 3) := by decide +kernel
theorem dX10_drawn_95 : decode cX10_drawn 95 = .ok (.iconst 0, 1) := by decide +kernel
theorem dX10_drawn_96 : decode cX10_drawn 96 = .ok (.istore 9, 2) := by decide +kernel
theorem dX10_drawn_98 : decode cX10_drawn 98 = .ok (.iload 9, 2) := by decide +kernel
theorem dX10_drawn_100 : decode cX10_drawn 100 = .ok (.iload 4, 2) := by decide +kernel
theorem dX10_drawn_102 : decode cX10_drawn 102 = .ok (.if_icmp .ge 96, 3) := by decide +kernel
theorem dX10_drawn_105 : decode cX10_drawn 105 = .ok (.aload_n 0, 1) := by decide +kernel
theorem dX10_drawn_106 : decode cX10_drawn 106 = .ok (.getfield 103, 3) := by decide +kernel
theorem dX10_drawn_109 : decode cX10_drawn 109 = .ok (.ifCond .le 89, 3) := by decide +kernel
theorem dX10_drawn_112 : decode cX10_drawn 112 = .ok (.iload 6, 2) := by decide +kernel
theorem dX10_drawn_114 : decode cX10_drawn 114 = .ok (.ldc_w 278, 3) := by decide +kernel
theorem dX10_drawn_117 : decode cX10_drawn 117 = .ok (.imul, 1) := by decide +kernel
theorem dX10_drawn_118 : decode cX10_drawn 118 = .ok (.sipush 12345, 3) := by decide +kernel
theorem dX10_drawn_121 : decode cX10_drawn 121 = .ok (.iadd, 1) := by decide +kernel
theorem dX10_drawn_122 : decode cX10_drawn 122 = .ok (.istore 6, 2) := by decide +kernel
theorem dX10_drawn_124 : decode cX10_drawn 124 = .ok (.iload 6, 2) := by decide +kernel
theorem dX10_drawn_126 : decode cX10_drawn 126 = .ok (.bipush 8, 2) := by decide +kernel
theorem dX10_drawn_128 : decode cX10_drawn 128 = .ok (.iushr, 1) := by decide +kernel
theorem dX10_drawn_129 : decode cX10_drawn 129 = .ok (.aload_n 0, 1) := by decide +kernel
theorem dX10_drawn_130 : decode cX10_drawn 130 = .ok (.getfield 103, 3) := by decide +kernel
theorem dX10_drawn_133 : decode cX10_drawn 133 = .ok (.irem, 1) := by decide +kernel
theorem dX10_drawn_134 : decode cX10_drawn 134 = .ok (.istore 10, 2) := by decide +kernel
theorem dX10_drawn_136 : decode cX10_drawn 136 = .ok (.iload 6, 2) := by decide +kernel
theorem dX10_drawn_138 : decode cX10_drawn 138 = .ok (.bipush 24, 2) := by decide +kernel
theorem dX10_drawn_140 : decode cX10_drawn 140 = .ok (.iushr, 1) := by decide +kernel
theorem dX10_drawn_141 : decode cX10_drawn 141 = .ok (.bipush 12, 2) := by decide +kernel
theorem dX10_drawn_143 : decode cX10_drawn 143 = .ok (.irem, 1) := by decide +kernel
theorem dX10_drawn_144 : decode cX10_drawn 144 = .ok (.iload 5, 2) := by decide +kernel
theorem dX10_drawn_146 : decode cX10_drawn 146 = .ok (.if_icmp .ge 42, 3) := by decide +kernel
theorem dX10_drawn_149 : decode cX10_drawn 149 = .ok (.aload_n 0, 1) := by decide +kernel
theorem dX10_drawn_150 : decode cX10_drawn 150 = .ok (.iload 10, 2) := by decide +kernel
theorem dX10_drawn_152 : decode cX10_drawn 152 = .ok (.invokevirtual 197, 3) := by decide +kernel
theorem dX10_drawn_155 : decode cX10_drawn 155 = .ok (.ifCond .eq 33, 3) := by decide +kernel
theorem dX10_drawn_158 : decode cX10_drawn 158 = .ok (.aload_n 0, 1) := by decide +kernel
theorem dX10_drawn_159 : decode cX10_drawn 159 = .ok (.iload 10, 2) := by decide +kernel
theorem dX10_drawn_161 : decode cX10_drawn 161 = .ok (.iconst 0, 1) := by decide +kernel
theorem dX10_drawn_162 : decode cX10_drawn 162 = .ok (.bipush 99, 2) := by decide +kernel
theorem dX10_drawn_164 : decode cX10_drawn 164 = .ok (.aload_n 0, 1) := by decide +kernel
theorem dX10_drawn_165 : decode cX10_drawn 165 = .ok (.iload 10, 2) := by decide +kernel
theorem dX10_drawn_167 : decode cX10_drawn 167 = .ok (.iconst 0, 1) := by decide +kernel
theorem dX10_drawn_168 : decode cX10_drawn 168 = .ok (.invokevirtual 110, 3) := by decide +kernel
theorem dX10_drawn_171 : decode cX10_drawn 171 = .ok (.iconst 1, 1) := by decide +kernel
theorem dX10_drawn_172 : decode cX10_drawn 172 = .ok (.iadd, 1) := by decide +kernel
theorem dX10_drawn_173 : decode cX10_drawn 173 = .ok (.iload 6, 2) := by decide +kernel
theorem dX10_drawn_175 : decode cX10_drawn 175 = .ok (.bipush 16, 2) := by decide +kernel
theorem dX10_drawn_177 : decode cX10_drawn 177 = .ok (.iushr, 1) := by decide +kernel
theorem dX10_drawn_178 : decode cX10_drawn 178 = .ok (.bipush 20, 2) := by decide +kernel
theorem dX10_drawn_180 : decode cX10_drawn 180 = .ok (.irem, 1) := by decide +kernel
theorem dX10_drawn_181 : decode cX10_drawn 181 = .ok (.iadd, 1) := by decide +kernel
theorem dX10_drawn_182 : decode cX10_drawn 182 = .ok (.invokestatic 94, 3) := by decide +kernel
theorem dX10_drawn_185 : decode cX10_drawn 185 = .ok (.invokevirtual 113, 3) := by decide +kernel
theorem dX10_drawn_188 : decode cX10_drawn 188 = .ok (.aload_n 0, 1) := by decide +kernel
theorem dX10_drawn_189 : decode cX10_drawn 189 = .ok (.invokevirtual 212, 3) := by decide +kernel
theorem dX10_drawn_192 : decode cX10_drawn 192 = .ok (.iinc 9 1, 3) := by decide +kernel
theorem dX10_drawn_195 : decode cX10_drawn 195 = .ok (.goto (-97), 3) := by decide +kernel
theorem dX10_drawn_198 : decode cX10_drawn 198 = .ok (.iconst 0, 1) := by decide +kernel
theorem dX10_drawn_199 : decode cX10_drawn 199 = .ok (.istore 9, 2) := by decide +kernel
theorem dX10_drawn_201 : decode cX10_drawn 201 = .ok (.iconst 0, 1) := by decide +kernel
theorem dX10_drawn_202 : decode cX10_drawn 202 = .ok (.istore 10, 2) := by decide +kernel
theorem dX10_drawn_204 : decode cX10_drawn 204 = .ok (.iload 10, 2) := by decide +kernel
theorem dX10_drawn_206 : decode cX10_drawn 206 = .ok (.aload_n 0, 1) := by decide +kernel
theorem dX10_drawn_207 : decode cX10_drawn 207 = .ok (.getfield 103, 3) := by decide +kernel
theorem dX10_drawn_210 : decode cX10_drawn 210 = .ok (.if_icmp .ge 21, 3) := by decide +kernel
theorem dX10_drawn_213 : decode cX10_drawn 213 = .ok (.iload 9, 2) := by decide +kernel
theorem dX10_drawn_215 : decode cX10_drawn 215 = .ok (.aload_n 0, 1) := by decide +kernel
theorem dX10_drawn_216 : decode cX10_drawn 216 = .ok (.iload 10, 2) := by decide +kernel
theorem dX10_drawn_218 : decode cX10_drawn 218 = .ok (.iconst 0, 1) := by decide +kernel
theorem dX10_drawn_219 : decode cX10_drawn 219 = .ok (.invokevirtual 110, 3) := by decide +kernel
theorem dX10_drawn_222 : decode cX10_drawn 222 = .ok (.iadd, 1) := by decide +kernel
theorem dX10_drawn_223 : decode cX10_drawn 223 = .ok (.istore 9, 2) := by decide +kernel
theorem dX10_drawn_225 : decode cX10_drawn 225 = .ok (.iinc 10 1, 3) := by decide +kernel
theorem dX10_drawn_228 : decode cX10_drawn 228 = .ok (.goto (-24), 3) := by decide +kernel
theorem dX10_drawn_231 : decode cX10_drawn 231 = .ok (.iload 7, 2) := by decide +kernel
theorem dX10_drawn_233 : decode cX10_drawn 233 = .ok (.iload_n 3, 1) := by decide +kernel
theorem dX10_drawn_234 : decode cX10_drawn 234 = .ok (.iconst (-1), 1) := by decide +kernel
theorem dX10_drawn_235 : decode cX10_drawn 235 = .ok (.if_icmp .ne 8, 3) := by decide +kernel
theorem dX10_drawn_238 : decode cX10_drawn 238 = .ok (.iload 9, 2) := by decide +kernel
theorem dX10_drawn_240 : decode cX10_drawn 240 = .ok (.goto 16, 3) := by decide +kernel
theorem dX10_drawn_243 : decode cX10_drawn 243 = .ok (.aload_n 0, 1) := by decide +kernel
theorem dX10_drawn_244 : decode cX10_drawn 244 = .ok (.invokevirtual 235, 3) := by decide +kernel
theorem dX10_drawn_247 : decode cX10_drawn 247 = .ok (.iload_n 3, 1) := by decide +kernel
theorem dX10_drawn_248 : decode cX10_drawn 248 = .ok (.if_icmp .ne 7, 3) := by decide +kernel
theorem dX10_drawn_251 : decode cX10_drawn 251 = .ok (.iconst 1, 1) := by decide +kernel
theorem dX10_drawn_252 : decode cX10_drawn 252 = .ok (.goto 4, 3) := by decide +kernel
theorem dX10_drawn_255 : decode cX10_drawn 255 = .ok (.iconst 0, 1) := by decide +kernel
theorem dX10_drawn_256 : decode cX10_drawn 256 = .ok (.iadd, 1) := by decide +kernel
theorem dX10_drawn_257 : decode cX10_drawn 257 = .ok (.istore 7, 2) := by decide +kernel
theorem dX10_drawn_259 : decode cX10_drawn 259 = .ok (.aload_n 0, 1) := by decide +kernel
theorem dX10_drawn_260 : decode cX10_drawn 260 = .ok (.iconst 0, 1) := by decide +kernel
theorem dX10_drawn_261 : decode cX10_drawn 261 = .ok (.invokevirtual 232, 3) := by decide +kernel
theorem dX10_drawn_264 : decode cX10_drawn 264 = .ok (.iinc 8 1, 3) := by decide +kernel
theorem dX10_drawn_267 : decode cX10_drawn 267 = .ok (.goto (-187), 3) := by decide +kernel
theorem dX10_drawn_270 : decode cX10_drawn 270 = .ok (.iload 7, 2) := by decide +kernel
theorem dX10_drawn_272 : decode cX10_drawn 272 = .ok (.ireturn, 1) := by decide +kernel
theorem dX10_slips_0 : decode cX10_slips 0 = .ok (.aload_n 0, 1) := by decide +kernel
theorem dX10_slips_1 : decode cX10_slips 1 = .ok (.iload_n 1, 1) := by decide +kernel
theorem dX10_slips_2 : decode cX10_slips 2 = .ok (.invokevirtual 124, 3) := by decide +kernel
theorem dX10_slips_5 : decode cX10_slips 5 = .ok (.ifCond .eq 13, 3) := by decide +kernel
theorem dX10_slips_8 : decode cX10_slips 8 = .ok (.iload_n 2, 1) := by decide +kernel
theorem dX10_slips_9 : decode cX10_slips 9 = .ok (.iconst 1, 1) := by decide +kernel
theorem dX10_slips_10 : decode cX10_slips 10 = .ok (.bipush 30, 2) := by decide +kernel
theorem dX10_slips_12 : decode cX10_slips 12 = .ok (.invokestatic 106, 3) := by decide +kernel
theorem dX10_slips_15 : decode cX10_slips 15 = .ok (.ifCond .ne 5, 3) := by decide +kernel
theorem dX10_slips_18 : decode cX10_slips 18 = .ok (.iconst (-1), 1) := by decide +kernel
theorem dX10_slips_19 : decode cX10_slips 19 = .ok (.ireturn, 1) := by decide +kernel
theorem dX10_slips_20 : decode cX10_slips 20 = .ok (.aload_n 0, 1) := by decide +kernel
theorem dX10_slips_21 : decode cX10_slips 21 = .ok (.getfield 121, 3) := by decide +kernel
theorem dX10_slips_24 : decode cX10_slips 24 = .ok (.bipush 12, 2) := by decide +kernel
theorem dX10_slips_26 : decode cX10_slips 26 = .ok (.if_icmp .ne 6, 3) := by decide +kernel
theorem dX10_slips_29 : decode cX10_slips 29 = .ok (.bipush (-3), 2) := by decide +kernel
theorem dX10_slips_31 : decode cX10_slips 31 = .ok (.ireturn, 1) := by decide +kernel
theorem dX10_slips_32 : decode cX10_slips 32 = .ok (.aload_n 0, 1) := by decide +kernel
theorem dX10_slips_33 : decode cX10_slips 33 = .ok (.iload_n 1, 1) := by decide +kernel
theorem dX10_slips_34 : decode cX10_slips 34 = .ok (.invokevirtual 197, 3) := by decide +kernel
theorem dX10_slips_37 : decode cX10_slips 37 = .ok (.ifCond .ne 6, 3) := by decide +kernel
theorem dX10_slips_40 : decode cX10_slips 40 = .ok (.bipush (-5), 2) := by decide +kernel
theorem dX10_slips_42 : decode cX10_slips 42 = .ok (.ireturn, 1) := by decide +kernel
theorem dX10_slips_43 : decode cX10_slips 43 = .ok (.aload_n 0, 1) := by decide +kernel
theorem dX10_slips_44 : decode cX10_slips 44 = .ok (.getfield 73, 3) := by decide +kernel
theorem dX10_slips_47 : decode cX10_slips 47 = .ok (.iconst 0, 1) := by decide +kernel
theorem dX10_slips_48 : decode cX10_slips 48 = .ok (.dup2, 1) := by decide +kernel
theorem dX10_slips_49 : decode cX10_slips 49 = .ok (.iaload, 1) := by decide +kernel
theorem dX10_slips_50 : decode cX10_slips 50 = .ok (.iconst 1, 1) := by decide +kernel
theorem dX10_slips_51 : decode cX10_slips 51 = .ok (.iadd, 1) := by decide +kernel
theorem dX10_slips_52 : decode cX10_slips 52 = .ok (.iastore, 1) := by decide +kernel
theorem dX10_slips_53 : decode cX10_slips 53 = .ok (.aload_n 0, 1) := by decide +kernel
theorem dX10_slips_54 : decode cX10_slips 54 = .ok (.iload_n 1, 1) := by decide +kernel
theorem dX10_slips_55 : decode cX10_slips 55 = .ok (.aload_n 0, 1) := by decide +kernel
theorem dX10_slips_56 : decode cX10_slips 56 = .ok (.getfield 7, 3) := by decide +kernel
theorem dX10_slips_59 : decode cX10_slips 59 = .ok (.bipush 93, 2) := by decide +kernel
theorem dX10_slips_61 : decode cX10_slips 61 = .ok (.iaload, 1) := by decide +kernel
theorem dX10_slips_62 : decode cX10_slips 62 = .ok (.iload_n 2, 1) := by decide +kernel
theorem dX10_slips_63 : decode cX10_slips 63 = .ok (.invokevirtual 128, 3) := by decide +kernel
theorem dX10_slips_66 : decode cX10_slips 66 = .ok (.ireturn, 1) := by decide +kernel
theorem dX10_minute_0 : decode cX10_minute 0 = .ok (.aload_n 0, 1) := by decide +kernel
theorem dX10_minute_1 : decode cX10_minute 1 = .ok (.invokevirtual 212, 3) := by decide +kernel
theorem dX10_minute_4 : decode cX10_minute 4 = .ok (.aload_n 0, 1) := by decide +kernel
theorem dX10_minute_5 : decode cX10_minute 5 = .ok (.getfield 73, 3) := by decide +kernel
theorem dX10_minute_8 : decode cX10_minute 8 = .ok (.iconst 1, 1) := by decide +kernel
theorem dX10_minute_9 : decode cX10_minute 9 = .ok (.dup2, 1) := by decide +kernel
theorem dX10_minute_10 : decode cX10_minute 10 = .ok (.iaload, 1) := by decide +kernel
theorem dX10_minute_11 : decode cX10_minute 11 = .ok (.iconst 1, 1) := by decide +kernel
theorem dX10_minute_12 : decode cX10_minute 12 = .ok (.iadd, 1) := by decide +kernel
theorem dX10_minute_13 : decode cX10_minute 13 = .ok (.iastore, 1) := by decide +kernel
theorem dX10_minute_14 : decode cX10_minute 14 = .ok (.aload_n 0, 1) := by decide +kernel
theorem dX10_minute_15 : decode cX10_minute 15 = .ok (.getfield 7, 3) := by decide +kernel
theorem dX10_minute_18 : decode cX10_minute 18 = .ok (.bipush 93, 2) := by decide +kernel
theorem dX10_minute_20 : decode cX10_minute 20 = .ok (.iaload, 1) := by decide +kernel
theorem dX10_minute_21 : decode cX10_minute 21 = .ok (.ireturn, 1) := by decide +kernel
theorem dX10_goes_0 : decode cX10_goes 0 = .ok (.aload_n 0, 1) := by decide +kernel
theorem dX10_goes_1 : decode cX10_goes 1 = .ok (.invokevirtual 235, 3) := by decide +kernel
theorem dX10_goes_4 : decode cX10_goes 4 = .ok (.istore_n 1, 1) := by decide +kernel
theorem dX10_goes_5 : decode cX10_goes 5 = .ok (.iload_n 1, 1) := by decide +kernel
theorem dX10_goes_6 : decode cX10_goes 6 = .ok (.bipush (-2), 2) := by decide +kernel
theorem dX10_goes_8 : decode cX10_goes 8 = .ok (.if_icmp .eq 40, 3) := by decide +kernel
theorem dX10_goes_11 : decode cX10_goes 11 = .ok (.aload_n 0, 1) := by decide +kernel
theorem dX10_goes_12 : decode cX10_goes 12 = .ok (.getfield 73, 3) := by decide +kernel
theorem dX10_goes_15 : decode cX10_goes 15 = .ok (.iconst 2, 1) := by decide +kernel
theorem dX10_goes_16 : decode cX10_goes 16 = .ok (.dup2, 1) := by decide +kernel
theorem dX10_goes_17 : decode cX10_goes 17 = .ok (.iaload, 1) := by decide +kernel
theorem dX10_goes_18 : decode cX10_goes 18 = .ok (.iconst 1, 1) := by decide +kernel
theorem dX10_goes_19 : decode cX10_goes 19 = .ok (.iadd, 1) := by decide +kernel
theorem dX10_goes_20 : decode cX10_goes 20 = .ok (.iastore, 1) := by decide +kernel
theorem dX10_goes_21 : decode cX10_goes 21 = .ok (.aload_n 0, 1) := by decide +kernel
theorem dX10_goes_22 : decode cX10_goes 22 = .ok (.getfield 73, 3) := by decide +kernel
theorem dX10_goes_25 : decode cX10_goes 25 = .ok (.iconst 4, 1) := by decide +kernel
theorem dX10_goes_26 : decode cX10_goes 26 = .ok (.dup2, 1) := by decide +kernel
theorem dX10_goes_27 : decode cX10_goes 27 = .ok (.iaload, 1) := by decide +kernel
theorem dX10_goes_28 : decode cX10_goes 28 = .ok (.aload_n 0, 1) := by decide +kernel
theorem dX10_goes_29 : decode cX10_goes 29 = .ok (.iload_n 1, 1) := by decide +kernel
theorem dX10_goes_30 : decode cX10_goes 30 = .ok (.iconst 0, 1) := by decide +kernel
theorem dX10_goes_31 : decode cX10_goes 31 = .ok (.invokevirtual 110, 3) := by decide +kernel
theorem dX10_goes_34 : decode cX10_goes 34 = .ok (.iadd, 1) := by decide +kernel
theorem dX10_goes_35 : decode cX10_goes 35 = .ok (.iastore, 1) := by decide +kernel
theorem dX10_goes_36 : decode cX10_goes 36 = .ok (.aload_n 0, 1) := by decide +kernel
theorem dX10_goes_37 : decode cX10_goes 37 = .ok (.iload_n 1, 1) := by decide +kernel
theorem dX10_goes_38 : decode cX10_goes 38 = .ok (.iconst 5, 1) := by decide +kernel
theorem dX10_goes_39 : decode cX10_goes 39 = .ok (.iconst 1, 1) := by decide +kernel
theorem dX10_goes_40 : decode cX10_goes 40 = .ok (.invokevirtual 113, 3) := by decide +kernel
theorem dX10_goes_43 : decode cX10_goes 43 = .ok (.aload_n 0, 1) := by decide +kernel
theorem dX10_goes_44 : decode cX10_goes 44 = .ok (.invokevirtual 279, 3) := by decide +kernel
theorem dX10_goes_47 : decode cX10_goes 47 = .ok (.pop, 1) := by decide +kernel
theorem dX10_goes_48 : decode cX10_goes 48 = .ok (.iload_n 1, 1) := by decide +kernel
theorem dX10_goes_49 : decode cX10_goes 49 = .ok (.ireturn, 1) := by decide +kernel
theorem dX10_looks_0 : decode cX10_looks 0 = .ok (.aload_n 0, 1) := by decide +kernel
theorem dX10_looks_1 : decode cX10_looks 1 = .ok (.iload_n 1, 1) := by decide +kernel
theorem dX10_looks_2 : decode cX10_looks 2 = .ok (.invokevirtual 124, 3) := by decide +kernel
theorem dX10_looks_5 : decode cX10_looks 5 = .ok (.ifCond .eq 13, 3) := by decide +kernel
theorem dX10_looks_8 : decode cX10_looks 8 = .ok (.iload_n 2, 1) := by decide +kernel
theorem dX10_looks_9 : decode cX10_looks 9 = .ok (.iconst 0, 1) := by decide +kernel
theorem dX10_looks_10 : decode cX10_looks 10 = .ok (.bipush 9, 2) := by decide +kernel
theorem dX10_looks_12 : decode cX10_looks 12 = .ok (.invokestatic 106, 3) := by decide +kernel
theorem dX10_looks_15 : decode cX10_looks 15 = .ok (.ifCond .ne 5, 3) := by decide +kernel
theorem dX10_looks_18 : decode cX10_looks 18 = .ok (.iconst (-1), 1) := by decide +kernel
theorem dX10_looks_19 : decode cX10_looks 19 = .ok (.ireturn, 1) := by decide +kernel
theorem dX10_looks_20 : decode cX10_looks 20 = .ok (.aload_n 0, 1) := by decide +kernel
theorem dX10_looks_21 : decode cX10_looks 21 = .ok (.iload_n 1, 1) := by decide +kernel
theorem dX10_looks_22 : decode cX10_looks 22 = .ok (.invokevirtual 197, 3) := by decide +kernel
theorem dX10_looks_25 : decode cX10_looks 25 = .ok (.ifCond .ne 6, 3) := by decide +kernel
theorem dX10_looks_28 : decode cX10_looks 28 = .ok (.bipush (-5), 2) := by decide +kernel
theorem dX10_looks_30 : decode cX10_looks 30 = .ok (.ireturn, 1) := by decide +kernel
theorem dX10_looks_31 : decode cX10_looks 31 = .ok (.aload_n 0, 1) := by decide +kernel
theorem dX10_looks_32 : decode cX10_looks 32 = .ok (.iload_n 1, 1) := by decide +kernel
theorem dX10_looks_33 : decode cX10_looks 33 = .ok (.iconst 2, 1) := by decide +kernel
theorem dX10_looks_34 : decode cX10_looks 34 = .ok (.invokevirtual 110, 3) := by decide +kernel
theorem dX10_looks_37 : decode cX10_looks 37 = .ok (.istore_n 3, 1) := by decide +kernel
theorem dX10_looks_38 : decode cX10_looks 38 = .ok (.aload_n 0, 1) := by decide +kernel
theorem dX10_looks_39 : decode cX10_looks 39 = .ok (.iload_n 1, 1) := by decide +kernel
theorem dX10_looks_40 : decode cX10_looks 40 = .ok (.iconst 2, 1) := by decide +kernel
theorem dX10_looks_41 : decode cX10_looks 41 = .ok (.iload_n 2, 1) := by decide +kernel
theorem dX10_looks_42 : decode cX10_looks 42 = .ok (.invokevirtual 113, 3) := by decide +kernel
theorem dX10_looks_45 : decode cX10_looks 45 = .ok (.aload_n 0, 1) := by decide +kernel
theorem dX10_looks_46 : decode cX10_looks 46 = .ok (.getfield 73, 3) := by decide +kernel
theorem dX10_looks_49 : decode cX10_looks 49 = .ok (.iconst 3, 1) := by decide +kernel
theorem dX10_looks_50 : decode cX10_looks 50 = .ok (.dup2, 1) := by decide +kernel
theorem dX10_looks_51 : decode cX10_looks 51 = .ok (.iaload, 1) := by decide +kernel
theorem dX10_looks_52 : decode cX10_looks 52 = .ok (.iconst 1, 1) := by decide +kernel
theorem dX10_looks_53 : decode cX10_looks 53 = .ok (.iadd, 1) := by decide +kernel
theorem dX10_looks_54 : decode cX10_looks 54 = .ok (.iastore, 1) := by decide +kernel
theorem dX10_looks_55 : decode cX10_looks 55 = .ok (.iload_n 3, 1) := by decide +kernel
theorem dX10_looks_56 : decode cX10_looks 56 = .ok (.ireturn, 1) := by decide +kernel
theorem dX10_led_0 : decode cX10_led 0 = .ok (.iload_n 1, 1) := by decide +kernel
theorem dX10_led_1 : decode cX10_led 1 = .ok (.iconst 0, 1) := by decide +kernel
theorem dX10_led_2 : decode cX10_led 2 = .ok (.iconst 4, 1) := by decide +kernel
theorem dX10_led_3 : decode cX10_led 3 = .ok (.invokestatic 106, 3) := by decide +kernel
theorem dX10_led_6 : decode cX10_led 6 = .ok (.ifCond .eq 12, 3) := by decide +kernel
theorem dX10_led_9 : decode cX10_led 9 = .ok (.aload_n 0, 1) := by decide +kernel
theorem dX10_led_10 : decode cX10_led 10 = .ok (.getfield 73, 3) := by decide +kernel
theorem dX10_led_13 : decode cX10_led 13 = .ok (.iload_n 1, 1) := by decide +kernel
theorem dX10_led_14 : decode cX10_led 14 = .ok (.iaload, 1) := by decide +kernel
theorem dX10_led_15 : decode cX10_led 15 = .ok (.goto 4, 3) := by decide +kernel
theorem dX10_led_18 : decode cX10_led 18 = .ok (.iconst (-1), 1) := by decide +kernel
theorem dX10_led_19 : decode cX10_led 19 = .ok (.ireturn, 1) := by decide +kernel
theorem dX10_image_0 : decode cX10_image 0 = .ok (.iconst 0, 1) := by decide +kernel
theorem dX10_image_1 : decode cX10_image 1 = .ok (.istore_n 1, 1) := by decide +kernel
theorem dX10_image_2 : decode cX10_image 2 = .ok (.iload_n 1, 1) := by decide +kernel
theorem dX10_image_3 : decode cX10_image 3 = .ok (.bipush 94, 2) := by decide +kernel
theorem dX10_image_5 : decode cX10_image 5 = .ok (.if_icmp .ge 21, 3) := by decide +kernel
theorem dX10_image_8 : decode cX10_image 8 = .ok (.aload_n 0, 1) := by decide +kernel
theorem dX10_image_9 : decode cX10_image 9 = .ok (.getfield 76, 3) := by decide +kernel
theorem dX10_image_12 : decode cX10_image 12 = .ok (.iload_n 1, 1) := by decide +kernel
theorem dX10_image_13 : decode cX10_image 13 = .ok (.aload_n 0, 1) := by decide +kernel
theorem dX10_image_14 : decode cX10_image 14 = .ok (.getfield 7, 3) := by decide +kernel
theorem dX10_image_17 : decode cX10_image 17 = .ok (.iload_n 1, 1) := by decide +kernel
theorem dX10_image_18 : decode cX10_image 18 = .ok (.iaload, 1) := by decide +kernel
theorem dX10_image_19 : decode cX10_image 19 = .ok (.iastore, 1) := by decide +kernel
theorem dX10_image_20 : decode cX10_image 20 = .ok (.iinc 1 1, 3) := by decide +kernel
theorem dX10_image_23 : decode cX10_image 23 = .ok (.goto (-21), 3) := by decide +kernel
theorem dX10_image_26 : decode cX10_image 26 = .ok (.iconst 0, 1) := by decide +kernel
theorem dX10_image_27 : decode cX10_image 27 = .ok (.istore_n 1, 1) := by decide +kernel
theorem dX10_image_28 : decode cX10_image 28 = .ok (.iload_n 1, 1) := by decide +kernel
theorem dX10_image_29 : decode cX10_image 29 = .ok (.iconst 5, 1) := by decide +kernel
theorem dX10_image_30 : decode cX10_image 30 = .ok (.if_icmp .ge 21, 3) := by decide +kernel
theorem dX10_image_33 : decode cX10_image 33 = .ok (.aload_n 0, 1) := by decide +kernel
theorem dX10_image_34 : decode cX10_image 34 = .ok (.getfield 79, 3) := by decide +kernel
theorem dX10_image_37 : decode cX10_image 37 = .ok (.iload_n 1, 1) := by decide +kernel
theorem dX10_image_38 : decode cX10_image 38 = .ok (.aload_n 0, 1) := by decide +kernel
theorem dX10_image_39 : decode cX10_image 39 = .ok (.getfield 73, 3) := by decide +kernel
theorem dX10_image_42 : decode cX10_image 42 = .ok (.iload_n 1, 1) := by decide +kernel
theorem dX10_image_43 : decode cX10_image 43 = .ok (.iaload, 1) := by decide +kernel
theorem dX10_image_44 : decode cX10_image 44 = .ok (.iastore, 1) := by decide +kernel
theorem dX10_image_45 : decode cX10_image 45 = .ok (.iinc 1 1, 3) := by decide +kernel
theorem dX10_image_48 : decode cX10_image 48 = .ok (.goto (-20), 3) := by decide +kernel
theorem dX10_image_51 : decode cX10_image 51 = .ok (.aload_n 0, 1) := by decide +kernel
theorem dX10_image_52 : decode cX10_image 52 = .ok (.aload_n 0, 1) := by decide +kernel
theorem dX10_image_53 : decode cX10_image 53 = .ok (.getfield 103, 3) := by decide +kernel
theorem dX10_image_56 : decode cX10_image 56 = .ok (.putfield 282, 3) := by decide +kernel
theorem dX10_image_59 : decode cX10_image 59 = .ok (.aload_n 0, 1) := by decide +kernel
theorem dX10_image_60 : decode cX10_image 60 = .ok (.iconst 1, 1) := by decide +kernel
theorem dX10_image_61 : decode cX10_image 61 = .ok (.putfield 285, 3) := by decide +kernel
theorem dX10_image_64 : decode cX10_image 64 = .ok (.aload_n 0, 1) := by decide +kernel
theorem dX10_image_65 : decode cX10_image 65 = .ok (.getfield 73, 3) := by decide +kernel
theorem dX10_image_68 : decode cX10_image 68 = .ok (.iconst 2, 1) := by decide +kernel
theorem dX10_image_69 : decode cX10_image 69 = .ok (.iaload, 1) := by decide +kernel
theorem dX10_image_70 : decode cX10_image 70 = .ok (.ireturn, 1) := by decide +kernel
theorem dX10_back_0 : decode cX10_back 0 = .ok (.aload_n 0, 1) := by decide +kernel
theorem dX10_back_1 : decode cX10_back 1 = .ok (.getfield 285, 3) := by decide +kernel
theorem dX10_back_4 : decode cX10_back 4 = .ok (.ifCond .ne 6, 3) := by decide +kernel
theorem dX10_back_7 : decode cX10_back 7 = .ok (.bipush (-5), 2) := by decide +kernel
theorem dX10_back_9 : decode cX10_back 9 = .ok (.ireturn, 1) := by decide +kernel
theorem dX10_back_10 : decode cX10_back 10 = .ok (.iconst 0, 1) := by decide +kernel
theorem dX10_back_11 : decode cX10_back 11 = .ok (.istore_n 1, 1) := by decide +kernel
theorem dX10_back_12 : decode cX10_back 12 = .ok (.iload_n 1, 1) := by decide +kernel
theorem dX10_back_13 : decode cX10_back 13 = .ok (.aload_n 0, 1) := by decide +kernel
theorem dX10_back_14 : decode cX10_back 14 = .ok (.getfield 282, 3) := by decide +kernel
theorem dX10_back_17 : decode cX10_back 17 = .ok (.if_icmp .ge 58, 3) := by decide +kernel
theorem dX10_back_20 : decode cX10_back 20 = .ok (.aload_n 0, 1) := by decide +kernel
theorem dX10_back_21 : decode cX10_back 21 = .ok (.iload_n 1, 1) := by decide +kernel
theorem dX10_back_22 : decode cX10_back 22 = .ok (.iconst 0, 1) := by decide +kernel
theorem dX10_back_23 : decode cX10_back 23 = .ok (.aload_n 0, 1) := by decide +kernel
theorem dX10_back_24 : decode cX10_back 24 = .ok (.getfield 76, 3) := by decide +kernel
theorem dX10_back_27 : decode cX10_back 27 = .ok (.bipush 6, 2) := by decide +kernel
theorem dX10_back_29 : decode cX10_back 29 = .ok (.iload_n 1, 1) := by decide +kernel
theorem dX10_back_30 : decode cX10_back 30 = .ok (.imul, 1) := by decide +kernel
theorem dX10_back_31 : decode cX10_back 31 = .ok (.iaload, 1) := by decide +kernel
theorem dX10_back_32 : decode cX10_back 32 = .ok (.invokevirtual 113, 3) := by decide +kernel
theorem dX10_back_35 : decode cX10_back 35 = .ok (.aload_n 0, 1) := by decide +kernel
theorem dX10_back_36 : decode cX10_back 36 = .ok (.iload_n 1, 1) := by decide +kernel
theorem dX10_back_37 : decode cX10_back 37 = .ok (.iconst 2, 1) := by decide +kernel
theorem dX10_back_38 : decode cX10_back 38 = .ok (.aload_n 0, 1) := by decide +kernel
theorem dX10_back_39 : decode cX10_back 39 = .ok (.getfield 76, 3) := by decide +kernel
theorem dX10_back_42 : decode cX10_back 42 = .ok (.bipush 6, 2) := by decide +kernel
theorem dX10_back_44 : decode cX10_back 44 = .ok (.iload_n 1, 1) := by decide +kernel
theorem dX10_back_45 : decode cX10_back 45 = .ok (.imul, 1) := by decide +kernel
theorem dX10_back_46 : decode cX10_back 46 = .ok (.iconst 2, 1) := by decide +kernel
theorem dX10_back_47 : decode cX10_back 47 = .ok (.iadd, 1) := by decide +kernel
theorem dX10_back_48 : decode cX10_back 48 = .ok (.iaload, 1) := by decide +kernel
theorem dX10_back_49 : decode cX10_back 49 = .ok (.invokevirtual 113, 3) := by decide +kernel
theorem dX10_back_52 : decode cX10_back 52 = .ok (.aload_n 0, 1) := by decide +kernel
theorem dX10_back_53 : decode cX10_back 53 = .ok (.iload_n 1, 1) := by decide +kernel
theorem dX10_back_54 : decode cX10_back 54 = .ok (.iconst 5, 1) := by decide +kernel
theorem dX10_back_55 : decode cX10_back 55 = .ok (.aload_n 0, 1) := by decide +kernel
theorem dX10_back_56 : decode cX10_back 56 = .ok (.getfield 76, 3) := by decide +kernel
theorem dX10_back_59 : decode cX10_back 59 = .ok (.bipush 6, 2) := by decide +kernel
theorem dX10_back_61 : decode cX10_back 61 = .ok (.iload_n 1, 1) := by decide +kernel
theorem dX10_back_62 : decode cX10_back 62 = .ok (.imul, 1) := by decide +kernel
theorem dX10_back_63 : decode cX10_back 63 = .ok (.iconst 5, 1) := by decide +kernel
theorem dX10_back_64 : decode cX10_back 64 = .ok (.iadd, 1) := by decide +kernel
theorem dX10_back_65 : decode cX10_back 65 = .ok (.iaload, 1) := by decide +kernel
theorem dX10_back_66 : decode cX10_back 66 = .ok (.invokevirtual 113, 3) := by decide +kernel
theorem dX10_back_69 : decode cX10_back 69 = .ok (.iinc 1 1, 3) := by decide +kernel
theorem dX10_back_72 : decode cX10_back 72 = .ok (.goto (-60), 3) := by decide +kernel
theorem dX10_back_75 : decode cX10_back 75 = .ok (.aload_n 0, 1) := by decide +kernel
theorem dX10_back_76 : decode cX10_back 76 = .ok (.getfield 7, 3) := by decide +kernel
theorem dX10_back_79 : decode cX10_back 79 = .ok (.bipush 93, 2) := by decide +kernel
theorem dX10_back_81 : decode cX10_back 81 = .ok (.aload_n 0, 1) := by decide +kernel
theorem dX10_back_82 : decode cX10_back 82 = .ok (.getfield 76, 3) := by decide +kernel
theorem dX10_back_85 : decode cX10_back 85 = .ok (.bipush 93, 2) := by decide +kernel
theorem dX10_back_87 : decode cX10_back 87 = .ok (.iaload, 1) := by decide +kernel
theorem dX10_back_88 : decode cX10_back 88 = .ok (.iastore, 1) := by decide +kernel
theorem dX10_back_89 : decode cX10_back 89 = .ok (.iconst 0, 1) := by decide +kernel
theorem dX10_back_90 : decode cX10_back 90 = .ok (.istore_n 1, 1) := by decide +kernel
theorem dX10_back_91 : decode cX10_back 91 = .ok (.iload_n 1, 1) := by decide +kernel
theorem dX10_back_92 : decode cX10_back 92 = .ok (.iconst 5, 1) := by decide +kernel
theorem dX10_back_93 : decode cX10_back 93 = .ok (.if_icmp .ge 21, 3) := by decide +kernel
theorem dX10_back_96 : decode cX10_back 96 = .ok (.aload_n 0, 1) := by decide +kernel
theorem dX10_back_97 : decode cX10_back 97 = .ok (.getfield 73, 3) := by decide +kernel
theorem dX10_back_100 : decode cX10_back 100 = .ok (.iload_n 1, 1) := by decide +kernel
theorem dX10_back_101 : decode cX10_back 101 = .ok (.aload_n 0, 1) := by decide +kernel
theorem dX10_back_102 : decode cX10_back 102 = .ok (.getfield 79, 3) := by decide +kernel
theorem dX10_back_105 : decode cX10_back 105 = .ok (.iload_n 1, 1) := by decide +kernel
theorem dX10_back_106 : decode cX10_back 106 = .ok (.iaload, 1) := by decide +kernel
theorem dX10_back_107 : decode cX10_back 107 = .ok (.iastore, 1) := by decide +kernel
theorem dX10_back_108 : decode cX10_back 108 = .ok (.iinc 1 1, 3) := by decide +kernel
theorem dX10_back_111 : decode cX10_back 111 = .ok (.goto (-20), 3) := by decide +kernel
theorem dX10_back_114 : decode cX10_back 114 = .ok (.aload_n 0, 1) := by decide +kernel
theorem dX10_back_115 : decode cX10_back 115 = .ok (.getfield 73, 3) := by decide +kernel
theorem dX10_back_118 : decode cX10_back 118 = .ok (.iconst 2, 1) := by decide +kernel
theorem dX10_back_119 : decode cX10_back 119 = .ok (.iaload, 1) := by decide +kernel
theorem dX10_back_120 : decode cX10_back 120 = .ok (.ireturn, 1) := by decide +kernel
theorem dX10_body_0 : decode cX10_body 0 = .ok (.iload_n 1, 1) := by decide +kernel
theorem dX10_body_1 : decode cX10_body 1 = .ok (.iconst 0, 1) := by decide +kernel
theorem dX10_body_2 : decode cX10_body 2 = .ok (.bipush 7, 2) := by decide +kernel
theorem dX10_body_4 : decode cX10_body 4 = .ok (.invokestatic 106, 3) := by decide +kernel
theorem dX10_body_7 : decode cX10_body 7 = .ok (.ifCond .ne 5, 3) := by decide +kernel
theorem dX10_body_10 : decode cX10_body 10 = .ok (.iconst (-1), 1) := by decide +kernel
theorem dX10_body_11 : decode cX10_body 11 = .ok (.ireturn, 1) := by decide +kernel
theorem dX10_body_12 : decode cX10_body 12 = .ok (.aload_n 0, 1) := by decide +kernel
theorem dX10_body_13 : decode cX10_body 13 = .ok (.getfield 288, 3) := by decide +kernel
theorem dX10_body_16 : decode cX10_body 16 = .ok (.bipush 50, 2) := by decide +kernel
theorem dX10_body_18 : decode cX10_body 18 = .ok (.if_icmp .ne 6, 3) := by decide +kernel
theorem dX10_body_21 : decode cX10_body 21 = .ok (.bipush (-3), 2) := by decide +kernel
theorem dX10_body_23 : decode cX10_body 23 = .ok (.ireturn, 1) := by decide +kernel
theorem dX10_body_24 : decode cX10_body 24 = .ok (.aload_n 0, 1) := by decide +kernel
theorem dX10_body_25 : decode cX10_body 25 = .ok (.getfield 88, 3) := by decide +kernel
theorem dX10_body_28 : decode cX10_body 28 = .ok (.aload_n 0, 1) := by decide +kernel
theorem dX10_body_29 : decode cX10_body 29 = .ok (.getfield 288, 3) := by decide +kernel
theorem dX10_body_32 : decode cX10_body 32 = .ok (.iload_n 1, 1) := by decide +kernel
theorem dX10_body_33 : decode cX10_body 33 = .ok (.iastore, 1) := by decide +kernel
theorem dX10_body_34 : decode cX10_body 34 = .ok (.aload_n 0, 1) := by decide +kernel
theorem dX10_body_35 : decode cX10_body 35 = .ok (.dup, 1) := by decide +kernel
theorem dX10_body_36 : decode cX10_body 36 = .ok (.getfield 288, 3) := by decide +kernel
theorem dX10_body_39 : decode cX10_body 39 = .ok (.iconst 1, 1) := by decide +kernel
theorem dX10_body_40 : decode cX10_body 40 = .ok (.iadd, 1) := by decide +kernel
theorem dX10_body_41 : decode cX10_body 41 = .ok (.putfield 288, 3) := by decide +kernel
theorem dX10_body_44 : decode cX10_body 44 = .ok (.aload_n 0, 1) := by decide +kernel
theorem dX10_body_45 : decode cX10_body 45 = .ok (.getfield 288, 3) := by decide +kernel
theorem dX10_body_48 : decode cX10_body 48 = .ok (.iconst 1, 1) := by decide +kernel
theorem dX10_body_49 : decode cX10_body 49 = .ok (.isub, 1) := by decide +kernel
theorem dX10_body_50 : decode cX10_body 50 = .ok (.ireturn, 1) := by decide +kernel
theorem dX10_does_0 : decode cX10_does 0 = .ok (.aload_n 0, 1) := by decide +kernel
theorem dX10_does_1 : decode cX10_does 1 = .ok (.aload_n 0, 1) := by decide +kernel
theorem dX10_does_2 : decode cX10_does 2 = .ok (.getfield 88, 3) := by decide +kernel
theorem dX10_does_5 : decode cX10_does 5 = .ok (.iload_n 1, 1) := by decide +kernel
theorem dX10_does_6 : decode cX10_does 6 = .ok (.iaload, 1) := by decide +kernel
theorem dX10_does_7 : decode cX10_does 7 = .ok (.iload_n 1, 1) := by decide +kernel
theorem dX10_does_8 : decode cX10_does 8 = .ok (.iload_n 2, 1) := by decide +kernel
theorem dX10_does_9 : decode cX10_does 9 = .ok (.iload_n 3, 1) := by decide +kernel
theorem dX10_does_10 : decode cX10_does 10 = .ok (.invokevirtual 291, 3) := by decide +kernel
theorem dX10_does_13 : decode cX10_does 13 = .ok (.ireturn, 1) := by decide +kernel
theorem dX10_byKind_0 : decode cX10_byKind 0 = .ok (.iload_n 1, 1) := by decide +kernel
theorem dX10_byKind_1 : decode cX10_byKind 1 = .ok (.istore 5, 2) := by decide +kernel
theorem dX10_byKind_3 : decode cX10_byKind 3 = .ok (.aload_n 0, 1) := by decide +kernel
theorem dX10_byKind_4 : decode cX10_byKind 4 = .ok (.getfield 85, 3) := by decide +kernel
theorem dX10_byKind_7 : decode cX10_byKind 7 = .ok (.iconst 4, 1) := by decide +kernel
theorem dX10_byKind_8 : decode cX10_byKind 8 = .ok (.iload 5, 2) := by decide +kernel
theorem dX10_byKind_10 : decode cX10_byKind 10 = .ok (.imul, 1) := by decide +kernel
theorem dX10_byKind_11 : decode cX10_byKind 11 = .ok (.iload_n 3, 1) := by decide +kernel
theorem dX10_byKind_12 : decode cX10_byKind 12 = .ok (.iadd, 1) := by decide +kernel
theorem dX10_byKind_13 : decode cX10_byKind 13 = .ok (.iaload, 1) := by decide +kernel
theorem dX10_byKind_14 : decode cX10_byKind 14 = .ok (.ifCond .ne 15, 3) := by decide +kernel
theorem dX10_byKind_17 : decode cX10_byKind 17 = .ok (.aload_n 0, 1) := by decide +kernel
theorem dX10_byKind_18 : decode cX10_byKind 18 = .ok (.getfield 82, 3) := by decide +kernel
theorem dX10_byKind_21 : decode cX10_byKind 21 = .ok (.iload 5, 2) := by decide +kernel
theorem dX10_byKind_23 : decode cX10_byKind 23 = .ok (.iaload, 1) := by decide +kernel
theorem dX10_byKind_24 : decode cX10_byKind 24 = .ok (.istore 5, 2) := by decide +kernel
theorem dX10_byKind_26 : decode cX10_byKind 26 = .ok (.goto (-23), 3) := by decide +kernel
theorem dX10_byKind_29 : decode cX10_byKind 29 = .ok (.aload_n 0, 1) := by decide +kernel
theorem dX10_byKind_30 : decode cX10_byKind 30 = .ok (.getfield 82, 3) := by decide +kernel
theorem dX10_byKind_33 : decode cX10_byKind 33 = .ok (.iload 5, 2) := by decide +kernel
theorem dX10_byKind_35 : decode cX10_byKind 35 = .ok (.iaload, 1) := by decide +kernel
theorem dX10_byKind_36 : decode cX10_byKind 36 = .ok (.istore 6, 2) := by decide +kernel
theorem dX10_byKind_38 : decode cX10_byKind 38 = .ok (.aload_n 0, 1) := by decide +kernel
theorem dX10_byKind_39 : decode cX10_byKind 39 = .ok (.getfield 85, 3) := by decide +kernel
theorem dX10_byKind_42 : decode cX10_byKind 42 = .ok (.iconst 4, 1) := by decide +kernel
theorem dX10_byKind_43 : decode cX10_byKind 43 = .ok (.iload 5, 2) := by decide +kernel
theorem dX10_byKind_45 : decode cX10_byKind 45 = .ok (.imul, 1) := by decide +kernel
theorem dX10_byKind_46 : decode cX10_byKind 46 = .ok (.iload_n 3, 1) := by decide +kernel
theorem dX10_byKind_47 : decode cX10_byKind 47 = .ok (.iadd, 1) := by decide +kernel
theorem dX10_byKind_48 : decode cX10_byKind 48 = .ok (.iaload, 1) := by decide +kernel
theorem dX10_byKind_49 : decode cX10_byKind 49 = .ok (.istore 7, 2) := by decide +kernel
theorem dX10_byKind_51 : decode cX10_byKind 51 = .ok (.aload_n 0, 1) := by decide +kernel
theorem dX10_byKind_52 : decode cX10_byKind 52 = .ok (.getfield 294, 3) := by decide +kernel
theorem dX10_byKind_55 : decode cX10_byKind 55 = .ok (.bipush 24, 2) := by decide +kernel
theorem dX10_byKind_57 : decode cX10_byKind 57 = .ok (.if_icmp .ge 14, 3) := by decide +kernel
theorem dX10_byKind_60 : decode cX10_byKind 60 = .ok (.aload_n 0, 1) := by decide +kernel
theorem dX10_byKind_61 : decode cX10_byKind 61 = .ok (.getfield 91, 3) := by decide +kernel
theorem dX10_byKind_64 : decode cX10_byKind 64 = .ok (.aload_n 0, 1) := by decide +kernel
theorem dX10_byKind_65 : decode cX10_byKind 65 = .ok (.getfield 294, 3) := by decide +kernel
theorem dX10_byKind_68 : decode cX10_byKind 68 = .ok (.iload 7, 2) := by decide +kernel
theorem dX10_byKind_70 : decode cX10_byKind 70 = .ok (.iastore, 1) := by decide +kernel
theorem dX10_byKind_71 : decode cX10_byKind 71 = .ok (.aload_n 0, 1) := by decide +kernel
theorem dX10_byKind_72 : decode cX10_byKind 72 = .ok (.dup, 1) := by decide +kernel
theorem dX10_byKind_73 : decode cX10_byKind 73 = .ok (.getfield 294, 3) := by decide +kernel
theorem dX10_byKind_76 : decode cX10_byKind 76 = .ok (.iconst 1, 1) := by decide +kernel
theorem dX10_byKind_77 : decode cX10_byKind 77 = .ok (.iadd, 1) := by decide +kernel
theorem dX10_byKind_78 : decode cX10_byKind 78 = .ok (.putfield 294, 3) := by decide +kernel
theorem dX10_byKind_81 : decode cX10_byKind 81 = .ok (.iload 7, 2) := by decide +kernel
theorem dX10_byKind_83 : decode cX10_byKind 83 = .ok (.lookupswitch 258 #[(1, 105), (2, 110), (10, 127), (11, 138), (20, 143), (30, 156), (40, 168), (41, 181), (50, 194), (60, 213), (70, 226), (80, 239)], 105) := by decide +kernel
theorem dX10_byKind_188 : decode cX10_byKind 188 = .ok (.iload 4, 2) := by decide +kernel
theorem dX10_byKind_190 : decode cX10_byKind 190 = .ok (.iload_n 2, 1) := by decide +kernel
theorem dX10_byKind_191 : decode cX10_byKind 191 = .ok (.iadd, 1) := by decide +kernel
theorem dX10_byKind_192 : decode cX10_byKind 192 = .ok (.ireturn, 1) := by decide +kernel
theorem dX10_byKind_193 : decode cX10_byKind 193 = .ok (.aload_n 0, 1) := by decide +kernel
theorem dX10_byKind_194 : decode cX10_byKind 194 = .ok (.iload_n 2, 1) := by decide +kernel
theorem dX10_byKind_195 : decode cX10_byKind 195 = .ok (.iconst 1, 1) := by decide +kernel
theorem dX10_byKind_196 : decode cX10_byKind 196 = .ok (.iload 4, 2) := by decide +kernel
theorem dX10_byKind_198 : decode cX10_byKind 198 = .ok (.invokevirtual 297, 3) := by decide +kernel
theorem dX10_byKind_201 : decode cX10_byKind 201 = .ok (.aload_n 0, 1) := by decide +kernel
theorem dX10_byKind_202 : decode cX10_byKind 202 = .ok (.iload_n 2, 1) := by decide +kernel
theorem dX10_byKind_203 : decode cX10_byKind 203 = .ok (.iconst 2, 1) := by decide +kernel
theorem dX10_byKind_204 : decode cX10_byKind 204 = .ok (.iconst 1, 1) := by decide +kernel
theorem dX10_byKind_205 : decode cX10_byKind 205 = .ok (.invokevirtual 297, 3) := by decide +kernel
theorem dX10_byKind_208 : decode cX10_byKind 208 = .ok (.isub, 1) := by decide +kernel
theorem dX10_byKind_209 : decode cX10_byKind 209 = .ok (.ireturn, 1) := by decide +kernel
theorem dX10_byKind_210 : decode cX10_byKind 210 = .ok (.aload_n 0, 1) := by decide +kernel
theorem dX10_byKind_211 : decode cX10_byKind 211 = .ok (.iload_n 2, 1) := by decide +kernel
theorem dX10_byKind_212 : decode cX10_byKind 212 = .ok (.iconst 0, 1) := by decide +kernel
theorem dX10_byKind_213 : decode cX10_byKind 213 = .ok (.iload 4, 2) := by decide +kernel
theorem dX10_byKind_215 : decode cX10_byKind 215 = .ok (.invokevirtual 297, 3) := by decide +kernel
theorem dX10_byKind_218 : decode cX10_byKind 218 = .ok (.iconst 2, 1) := by decide +kernel
theorem dX10_byKind_219 : decode cX10_byKind 219 = .ok (.imul, 1) := by decide +kernel
theorem dX10_byKind_220 : decode cX10_byKind 220 = .ok (.ireturn, 1) := by decide +kernel
theorem dX10_byKind_221 : decode cX10_byKind 221 = .ok (.iload 4, 2) := by decide +kernel
theorem dX10_byKind_223 : decode cX10_byKind 223 = .ok (.iload_n 2, 1) := by decide +kernel
theorem dX10_byKind_224 : decode cX10_byKind 224 = .ok (.ixor, 1) := by decide +kernel
theorem dX10_byKind_225 : decode cX10_byKind 225 = .ok (.ireturn, 1) := by decide +kernel
theorem dX10_byKind_226 : decode cX10_byKind 226 = .ok (.aload_n 0, 1) := by decide +kernel
theorem dX10_byKind_227 : decode cX10_byKind 227 = .ok (.iload 6, 2) := by decide +kernel
theorem dX10_byKind_229 : decode cX10_byKind 229 = .ok (.iload_n 2, 1) := by decide +kernel
theorem dX10_byKind_230 : decode cX10_byKind 230 = .ok (.iconst 0, 1) := by decide +kernel
theorem dX10_byKind_231 : decode cX10_byKind 231 = .ok (.iload 4, 2) := by decide +kernel
theorem dX10_byKind_233 : decode cX10_byKind 233 = .ok (.invokevirtual 291, 3) := by decide +kernel
theorem dX10_byKind_236 : decode cX10_byKind 236 = .ok (.iconst 3, 1) := by decide +kernel
theorem dX10_byKind_237 : decode cX10_byKind 237 = .ok (.iadd, 1) := by decide +kernel
theorem dX10_byKind_238 : decode cX10_byKind 238 = .ok (.ireturn, 1) := by decide +kernel
theorem dX10_byKind_239 : decode cX10_byKind 239 = .ok (.aload_n 0, 1) := by decide +kernel
theorem dX10_byKind_240 : decode cX10_byKind 240 = .ok (.iload 6, 2) := by decide +kernel
theorem dX10_byKind_242 : decode cX10_byKind 242 = .ok (.iload_n 2, 1) := by decide +kernel
theorem dX10_byKind_243 : decode cX10_byKind 243 = .ok (.iconst 1, 1) := by decide +kernel
theorem dX10_byKind_244 : decode cX10_byKind 244 = .ok (.iload 4, 2) := by decide +kernel
theorem dX10_byKind_246 : decode cX10_byKind 246 = .ok (.invokevirtual 291, 3) := by decide +kernel
theorem dX10_byKind_249 : decode cX10_byKind 249 = .ok (.ineg, 1) := by decide +kernel
theorem dX10_byKind_250 : decode cX10_byKind 250 = .ok (.ireturn, 1) := by decide +kernel
theorem dX10_byKind_251 : decode cX10_byKind 251 = .ok (.aload_n 0, 1) := by decide +kernel
theorem dX10_byKind_252 : decode cX10_byKind 252 = .ok (.iload 6, 2) := by decide +kernel
theorem dX10_byKind_254 : decode cX10_byKind 254 = .ok (.iload_n 2, 1) := by decide +kernel
theorem dX10_byKind_255 : decode cX10_byKind 255 = .ok (.iconst 2, 1) := by decide +kernel
theorem dX10_byKind_256 : decode cX10_byKind 256 = .ok (.iload 4, 2) := by decide +kernel
theorem dX10_byKind_258 : decode cX10_byKind 258 = .ok (.invokevirtual 291, 3) := by decide +kernel
theorem dX10_byKind_261 : decode cX10_byKind 261 = .ok (.iconst 3, 1) := by decide +kernel
theorem dX10_byKind_262 : decode cX10_byKind 262 = .ok (.imul, 1) := by decide +kernel
theorem dX10_byKind_263 : decode cX10_byKind 263 = .ok (.ireturn, 1) := by decide +kernel
theorem dX10_byKind_264 : decode cX10_byKind 264 = .ok (.aload_n 0, 1) := by decide +kernel
theorem dX10_byKind_265 : decode cX10_byKind 265 = .ok (.iload 6, 2) := by decide +kernel
theorem dX10_byKind_267 : decode cX10_byKind 267 = .ok (.iload_n 2, 1) := by decide +kernel
theorem dX10_byKind_268 : decode cX10_byKind 268 = .ok (.iconst 1, 1) := by decide +kernel
theorem dX10_byKind_269 : decode cX10_byKind 269 = .ok (.iload 4, 2) := by decide +kernel
theorem dX10_byKind_271 : decode cX10_byKind 271 = .ok (.iconst 1, 1) := by decide +kernel
theorem dX10_byKind_272 : decode cX10_byKind 272 = .ok (.iadd, 1) := by decide +kernel
theorem dX10_byKind_273 : decode cX10_byKind 273 = .ok (.invokevirtual 291, 3) := by decide +kernel
theorem dX10_byKind_276 : decode cX10_byKind 276 = .ok (.ireturn, 1) := by decide +kernel
theorem dX10_byKind_277 : decode cX10_byKind 277 = .ok (.aload_n 0, 1) := by decide +kernel
theorem dX10_byKind_278 : decode cX10_byKind 278 = .ok (.iload 6, 2) := by decide +kernel
theorem dX10_byKind_280 : decode cX10_byKind 280 = .ok (.iload_n 2, 1) := by decide +kernel
theorem dX10_byKind_281 : decode cX10_byKind 281 = .ok (.iconst 2, 1) := by decide +kernel
theorem dX10_byKind_282 : decode cX10_byKind 282 = .ok (.iload 4, 2) := by decide +kernel
theorem dX10_byKind_284 : decode cX10_byKind 284 = .ok (.invokevirtual 291, 3) := by decide +kernel
theorem dX10_byKind_287 : decode cX10_byKind 287 = .ok (.aload_n 0, 1) := by decide +kernel
theorem dX10_byKind_288 : decode cX10_byKind 288 = .ok (.iload_n 2, 1) := by decide +kernel
theorem dX10_byKind_289 : decode cX10_byKind 289 = .ok (.iconst 0, 1) := by decide +kernel
theorem dX10_byKind_290 : decode cX10_byKind 290 = .ok (.iconst 2, 1) := by decide +kernel
theorem dX10_byKind_291 : decode cX10_byKind 291 = .ok (.invokevirtual 297, 3) := by decide +kernel
theorem dX10_byKind_294 : decode cX10_byKind 294 = .ok (.isub, 1) := by decide +kernel
theorem dX10_byKind_295 : decode cX10_byKind 295 = .ok (.ireturn, 1) := by decide +kernel
theorem dX10_byKind_296 : decode cX10_byKind 296 = .ok (.aload_n 0, 1) := by decide +kernel
theorem dX10_byKind_297 : decode cX10_byKind 297 = .ok (.iload 6, 2) := by decide +kernel
theorem dX10_byKind_299 : decode cX10_byKind 299 = .ok (.iload_n 2, 1) := by decide +kernel
theorem dX10_byKind_300 : decode cX10_byKind 300 = .ok (.iconst 3, 1) := by decide +kernel
theorem dX10_byKind_301 : decode cX10_byKind 301 = .ok (.iload 4, 2) := by decide +kernel
theorem dX10_byKind_303 : decode cX10_byKind 303 = .ok (.invokevirtual 291, 3) := by decide +kernel
theorem dX10_byKind_306 : decode cX10_byKind 306 = .ok (.iconst 5, 1) := by decide +kernel
theorem dX10_byKind_307 : decode cX10_byKind 307 = .ok (.ixor, 1) := by decide +kernel
theorem dX10_byKind_308 : decode cX10_byKind 308 = .ok (.ireturn, 1) := by decide +kernel
theorem dX10_byKind_309 : decode cX10_byKind 309 = .ok (.aload_n 0, 1) := by decide +kernel
theorem dX10_byKind_310 : decode cX10_byKind 310 = .ok (.iload 6, 2) := by decide +kernel
theorem dX10_byKind_312 : decode cX10_byKind 312 = .ok (.iload_n 2, 1) := by decide +kernel
theorem dX10_byKind_313 : decode cX10_byKind 313 = .ok (.iconst 0, 1) := by decide +kernel
theorem dX10_byKind_314 : decode cX10_byKind 314 = .ok (.iload 4, 2) := by decide +kernel
theorem dX10_byKind_316 : decode cX10_byKind 316 = .ok (.invokevirtual 291, 3) := by decide +kernel
theorem dX10_byKind_319 : decode cX10_byKind 319 = .ok (.iconst 2, 1) := by decide +kernel
theorem dX10_byKind_320 : decode cX10_byKind 320 = .ok (.imul, 1) := by decide +kernel
theorem dX10_byKind_321 : decode cX10_byKind 321 = .ok (.ireturn, 1) := by decide +kernel
theorem dX10_byKind_322 : decode cX10_byKind 322 = .ok (.aload_n 0, 1) := by decide +kernel
theorem dX10_byKind_323 : decode cX10_byKind 323 = .ok (.iload 6, 2) := by decide +kernel
theorem dX10_byKind_325 : decode cX10_byKind 325 = .ok (.iload_n 2, 1) := by decide +kernel
theorem dX10_byKind_326 : decode cX10_byKind 326 = .ok (.iconst 1, 1) := by decide +kernel
theorem dX10_byKind_327 : decode cX10_byKind 327 = .ok (.iload 4, 2) := by decide +kernel
theorem dX10_byKind_329 : decode cX10_byKind 329 = .ok (.invokevirtual 291, 3) := by decide +kernel
theorem dX10_byKind_332 : decode cX10_byKind 332 = .ok (.aload_n 0, 1) := by decide +kernel
theorem dX10_byKind_333 : decode cX10_byKind 333 = .ok (.iload_n 2, 1) := by decide +kernel
theorem dX10_byKind_334 : decode cX10_byKind 334 = .ok (.iconst 2, 1) := by decide +kernel
theorem dX10_byKind_335 : decode cX10_byKind 335 = .ok (.iconst 2, 1) := by decide +kernel
theorem dX10_byKind_336 : decode cX10_byKind 336 = .ok (.invokevirtual 297, 3) := by decide +kernel
theorem dX10_byKind_339 : decode cX10_byKind 339 = .ok (.iadd, 1) := by decide +kernel
theorem dX10_byKind_340 : decode cX10_byKind 340 = .ok (.ireturn, 1) := by decide +kernel
theorem dX10_byKind_341 : decode cX10_byKind 341 = .ok (.aload_n 0, 1) := by decide +kernel
theorem dX10_byKind_342 : decode cX10_byKind 342 = .ok (.iload 6, 2) := by decide +kernel
theorem dX10_byKind_344 : decode cX10_byKind 344 = .ok (.iload_n 2, 1) := by decide +kernel
theorem dX10_byKind_345 : decode cX10_byKind 345 = .ok (.iconst 3, 1) := by decide +kernel
theorem dX10_byKind_346 : decode cX10_byKind 346 = .ok (.iload 4, 2) := by decide +kernel
theorem dX10_byKind_348 : decode cX10_byKind 348 = .ok (.invokevirtual 291, 3) := by decide +kernel
theorem dX10_byKind_351 : decode cX10_byKind 351 = .ok (.iconst 1, 1) := by decide +kernel
theorem dX10_byKind_352 : decode cX10_byKind 352 = .ok (.isub, 1) := by decide +kernel
theorem dX10_byKind_353 : decode cX10_byKind 353 = .ok (.ireturn, 1) := by decide +kernel
theorem dX10_act_0 : decode cX10_act 0 = .ok (.aload_n 0, 1) := by decide +kernel
theorem dX10_act_1 : decode cX10_act 1 = .ok (.iconst 0, 1) := by decide +kernel
theorem dX10_act_2 : decode cX10_act 2 = .ok (.putfield 294, 3) := by decide +kernel
theorem dX10_act_5 : decode cX10_act 5 = .ok (.iload_n 1, 1) := by decide +kernel
theorem dX10_act_6 : decode cX10_act 6 = .ok (.iconst 0, 1) := by decide +kernel
theorem dX10_act_7 : decode cX10_act 7 = .ok (.aload_n 0, 1) := by decide +kernel
theorem dX10_act_8 : decode cX10_act 8 = .ok (.getfield 288, 3) := by decide +kernel
theorem dX10_act_11 : decode cX10_act 11 = .ok (.iconst 1, 1) := by decide +kernel
theorem dX10_act_12 : decode cX10_act 12 = .ok (.isub, 1) := by decide +kernel
theorem dX10_act_13 : decode cX10_act 13 = .ok (.invokestatic 106, 3) := by decide +kernel
theorem dX10_act_16 : decode cX10_act 16 = .ok (.ifCond .eq 22, 3) := by decide +kernel
theorem dX10_act_19 : decode cX10_act 19 = .ok (.iload_n 2, 1) := by decide +kernel
theorem dX10_act_20 : decode cX10_act 20 = .ok (.iconst 0, 1) := by decide +kernel
theorem dX10_act_21 : decode cX10_act 21 = .ok (.iconst 3, 1) := by decide +kernel
theorem dX10_act_22 : decode cX10_act 22 = .ok (.invokestatic 106, 3) := by decide +kernel
theorem dX10_act_25 : decode cX10_act 25 = .ok (.ifCond .eq 13, 3) := by decide +kernel
theorem dX10_act_28 : decode cX10_act 28 = .ok (.aload_n 0, 1) := by decide +kernel
theorem dX10_act_29 : decode cX10_act 29 = .ok (.iload_n 1, 1) := by decide +kernel
theorem dX10_act_30 : decode cX10_act 30 = .ok (.iload_n 2, 1) := by decide +kernel
theorem dX10_act_31 : decode cX10_act 31 = .ok (.iload_n 3, 1) := by decide +kernel
theorem dX10_act_32 : decode cX10_act 32 = .ok (.invokevirtual 297, 3) := by decide +kernel
theorem dX10_act_35 : decode cX10_act 35 = .ok (.goto 4, 3) := by decide +kernel
theorem dX10_act_38 : decode cX10_act 38 = .ok (.iconst 0, 1) := by decide +kernel
theorem dX10_act_39 : decode cX10_act 39 = .ok (.ireturn, 1) := by decide +kernel
theorem dX10_trace_0 : decode cX10_trace 0 = .ok (.iload_n 1, 1) := by decide +kernel
theorem dX10_trace_1 : decode cX10_trace 1 = .ok (.iconst 0, 1) := by decide +kernel
theorem dX10_trace_2 : decode cX10_trace 2 = .ok (.bipush 24, 2) := by decide +kernel
theorem dX10_trace_4 : decode cX10_trace 4 = .ok (.aload_n 0, 1) := by decide +kernel
theorem dX10_trace_5 : decode cX10_trace 5 = .ok (.getfield 294, 3) := by decide +kernel
theorem dX10_trace_8 : decode cX10_trace 8 = .ok (.invokestatic 94, 3) := by decide +kernel
theorem dX10_trace_11 : decode cX10_trace 11 = .ok (.iconst 1, 1) := by decide +kernel
theorem dX10_trace_12 : decode cX10_trace 12 = .ok (.isub, 1) := by decide +kernel
theorem dX10_trace_13 : decode cX10_trace 13 = .ok (.invokestatic 106, 3) := by decide +kernel
theorem dX10_trace_16 : decode cX10_trace 16 = .ok (.ifCond .eq 12, 3) := by decide +kernel
theorem dX10_trace_19 : decode cX10_trace 19 = .ok (.aload_n 0, 1) := by decide +kernel
theorem dX10_trace_20 : decode cX10_trace 20 = .ok (.getfield 91, 3) := by decide +kernel
theorem dX10_trace_23 : decode cX10_trace 23 = .ok (.iload_n 1, 1) := by decide +kernel
theorem dX10_trace_24 : decode cX10_trace 24 = .ok (.iaload, 1) := by decide +kernel
theorem dX10_trace_25 : decode cX10_trace 25 = .ok (.goto 4, 3) := by decide +kernel
theorem dX10_trace_28 : decode cX10_trace 28 = .ok (.iconst (-1), 1) := by decide +kernel
theorem dX10_trace_29 : decode cX10_trace 29 = .ok (.ireturn, 1) := by decide +kernel
theorem dX10_keep_0 : decode cX10_keep 0 = .ok (.iload_n 1, 1) := by decide +kernel
theorem dX10_keep_1 : decode cX10_keep 1 = .ok (.invokestatic 250, 3) := by decide +kernel
theorem dX10_keep_4 : decode cX10_keep 4 = .ok (.ifCond .eq 17, 3) := by decide +kernel
theorem dX10_keep_7 : decode cX10_keep 7 = .ok (.iload_n 2, 1) := by decide +kernel
theorem dX10_keep_8 : decode cX10_keep 8 = .ok (.iconst (-1), 1) := by decide +kernel
theorem dX10_keep_9 : decode cX10_keep 9 = .ok (.aload_n 0, 1) := by decide +kernel
theorem dX10_keep_10 : decode cX10_keep 10 = .ok (.getfield 288, 3) := by decide +kernel
theorem dX10_keep_13 : decode cX10_keep 13 = .ok (.iconst 1, 1) := by decide +kernel
theorem dX10_keep_14 : decode cX10_keep 14 = .ok (.isub, 1) := by decide +kernel
theorem dX10_keep_15 : decode cX10_keep 15 = .ok (.invokestatic 106, 3) := by decide +kernel
theorem dX10_keep_18 : decode cX10_keep 18 = .ok (.ifCond .ne 5, 3) := by decide +kernel
theorem dX10_keep_21 : decode cX10_keep 21 = .ok (.iconst (-1), 1) := by decide +kernel
theorem dX10_keep_22 : decode cX10_keep 22 = .ok (.ireturn, 1) := by decide +kernel
theorem dX10_keep_23 : decode cX10_keep 23 = .ok (.aload_n 0, 1) := by decide +kernel
theorem dX10_keep_24 : decode cX10_keep 24 = .ok (.getfield 60, 3) := by decide +kernel
theorem dX10_keep_27 : decode cX10_keep 27 = .ok (.iload_n 1, 1) := by decide +kernel
theorem dX10_keep_28 : decode cX10_keep 28 = .ok (.iload_n 2, 1) := by decide +kernel
theorem dX10_keep_29 : decode cX10_keep 29 = .ok (.iconst (-1), 1) := by decide +kernel
theorem dX10_keep_30 : decode cX10_keep 30 = .ok (.if_icmp .ne 7, 3) := by decide +kernel
theorem dX10_keep_33 : decode cX10_keep 33 = .ok (.iconst (-1), 1) := by decide +kernel
theorem dX10_keep_34 : decode cX10_keep 34 = .ok (.goto 7, 3) := by decide +kernel
theorem dX10_keep_37 : decode cX10_keep 37 = .ok (.bipush 10, 2) := by decide +kernel
theorem dX10_keep_39 : decode cX10_keep 39 = .ok (.iload_n 2, 1) := by decide +kernel
theorem dX10_keep_40 : decode cX10_keep 40 = .ok (.iadd, 1) := by decide +kernel
theorem dX10_keep_41 : decode cX10_keep 41 = .ok (.iastore, 1) := by decide +kernel
theorem dX10_keep_42 : decode cX10_keep 42 = .ok (.iconst 1, 1) := by decide +kernel
theorem dX10_keep_43 : decode cX10_keep 43 = .ok (.ireturn, 1) := by decide +kernel
theorem dX10_row_0 : decode cX10_row 0 = .ok (.iload_n 1, 1) := by decide +kernel
theorem dX10_row_1 : decode cX10_row 1 = .ok (.invokestatic 250, 3) := by decide +kernel
theorem dX10_row_4 : decode cX10_row 4 = .ok (.ifCond .eq 18, 3) := by decide +kernel
theorem dX10_row_7 : decode cX10_row 7 = .ok (.iload_n 2, 1) := by decide +kernel
theorem dX10_row_8 : decode cX10_row 8 = .ok (.iconst 0, 1) := by decide +kernel
theorem dX10_row_9 : decode cX10_row 9 = .ok (.iconst 4, 1) := by decide +kernel
theorem dX10_row_10 : decode cX10_row 10 = .ok (.invokestatic 106, 3) := by decide +kernel
theorem dX10_row_13 : decode cX10_row 13 = .ok (.ifCond .eq 9, 3) := by decide +kernel
theorem dX10_row_16 : decode cX10_row 16 = .ok (.iload_n 3, 1) := by decide +kernel
theorem dX10_row_17 : decode cX10_row 17 = .ok (.bipush 60, 2) := by decide +kernel
theorem dX10_row_19 : decode cX10_row 19 = .ok (.if_icmp .le 5, 3) := by decide +kernel
theorem dX10_row_22 : decode cX10_row 22 = .ok (.iconst (-1), 1) := by decide +kernel
theorem dX10_row_23 : decode cX10_row 23 = .ok (.ireturn, 1) := by decide +kernel
theorem dX10_row_24 : decode cX10_row 24 = .ok (.iload_n 3, 1) := by decide +kernel
theorem dX10_row_25 : decode cX10_row 25 = .ok (.ifCond .ge 6, 3) := by decide +kernel
theorem dX10_row_28 : decode cX10_row 28 = .ok (.bipush (-14), 2) := by decide +kernel
theorem dX10_row_30 : decode cX10_row 30 = .ok (.ireturn, 1) := by decide +kernel
theorem dX10_row_31 : decode cX10_row 31 = .ok (.aload_n 0, 1) := by decide +kernel
theorem dX10_row_32 : decode cX10_row 32 = .ok (.getfield 60, 3) := by decide +kernel
theorem dX10_row_35 : decode cX10_row 35 = .ok (.iload_n 1, 1) := by decide +kernel
theorem dX10_row_36 : decode cX10_row 36 = .ok (.iload_n 2, 1) := by decide +kernel
theorem dX10_row_37 : decode cX10_row 37 = .ok (.iastore, 1) := by decide +kernel
theorem dX10_row_38 : decode cX10_row 38 = .ok (.aload_n 0, 1) := by decide +kernel
theorem dX10_row_39 : decode cX10_row 39 = .ok (.getfield 63, 3) := by decide +kernel
theorem dX10_row_42 : decode cX10_row 42 = .ok (.iload_n 1, 1) := by decide +kernel
theorem dX10_row_43 : decode cX10_row 43 = .ok (.iload_n 3, 1) := by decide +kernel
theorem dX10_row_44 : decode cX10_row 44 = .ok (.iastore, 1) := by decide +kernel
theorem dX10_row_45 : decode cX10_row 45 = .ok (.iconst 0, 1) := by decide +kernel
theorem dX10_row_46 : decode cX10_row 46 = .ok (.istore 4, 2) := by decide +kernel
theorem dX10_row_48 : decode cX10_row 48 = .ok (.iload 4, 2) := by decide +kernel
theorem dX10_row_50 : decode cX10_row 50 = .ok (.bipush 60, 2) := by decide +kernel
theorem dX10_row_52 : decode cX10_row 52 = .ok (.if_icmp .ge 22, 3) := by decide +kernel
theorem dX10_row_55 : decode cX10_row 55 = .ok (.aload_n 0, 1) := by decide +kernel
theorem dX10_row_56 : decode cX10_row 56 = .ok (.getfield 66, 3) := by decide +kernel
theorem dX10_row_59 : decode cX10_row 59 = .ok (.bipush 60, 2) := by decide +kernel
theorem dX10_row_61 : decode cX10_row 61 = .ok (.iload_n 1, 1) := by decide +kernel
theorem dX10_row_62 : decode cX10_row 62 = .ok (.imul, 1) := by decide +kernel
theorem dX10_row_63 : decode cX10_row 63 = .ok (.iload 4, 2) := by decide +kernel
theorem dX10_row_65 : decode cX10_row 65 = .ok (.iadd, 1) := by decide +kernel
theorem dX10_row_66 : decode cX10_row 66 = .ok (.lconst 0, 1) := by decide +kernel
theorem dX10_row_67 : decode cX10_row 67 = .ok (.lastore, 1) := by decide +kernel
theorem dX10_row_68 : decode cX10_row 68 = .ok (.iinc 4 1, 3) := by decide +kernel
theorem dX10_row_71 : decode cX10_row 71 = .ok (.goto (-23), 3) := by decide +kernel
theorem dX10_row_74 : decode cX10_row 74 = .ok (.iconst 1, 1) := by decide +kernel
theorem dX10_row_75 : decode cX10_row 75 = .ok (.ireturn, 1) := by decide +kernel
theorem dX10_rowAt_0 : decode cX10_rowAt 0 = .ok (.iload_n 1, 1) := by decide +kernel
theorem dX10_rowAt_1 : decode cX10_rowAt 1 = .ok (.invokestatic 250, 3) := by decide +kernel
theorem dX10_rowAt_4 : decode cX10_rowAt 4 = .ok (.ifCond .ne 7, 3) := by decide +kernel
theorem dX10_rowAt_7 : decode cX10_rowAt 7 = .ok (.iconst (-1), 1) := by decide +kernel
theorem dX10_rowAt_8 : decode cX10_rowAt 8 = .ok (.goto 55, 3) := by decide +kernel
theorem dX10_rowAt_11 : decode cX10_rowAt 11 = .ok (.aload_n 0, 1) := by decide +kernel
theorem dX10_rowAt_12 : decode cX10_rowAt 12 = .ok (.getfield 60, 3) := by decide +kernel
theorem dX10_rowAt_15 : decode cX10_rowAt 15 = .ok (.iload_n 1, 1) := by decide +kernel
theorem dX10_rowAt_16 : decode cX10_rowAt 16 = .ok (.iaload, 1) := by decide +kernel
theorem dX10_rowAt_17 : decode cX10_rowAt 17 = .ok (.iconst (-1), 1) := by decide +kernel
theorem dX10_rowAt_18 : decode cX10_rowAt 18 = .ok (.if_icmp .ne 8, 3) := by decide +kernel
theorem dX10_rowAt_21 : decode cX10_rowAt 21 = .ok (.bipush (-11), 2) := by decide +kernel
theorem dX10_rowAt_23 : decode cX10_rowAt 23 = .ok (.goto 40, 3) := by decide +kernel
theorem dX10_rowAt_26 : decode cX10_rowAt 26 = .ok (.aload_n 0, 1) := by decide +kernel
theorem dX10_rowAt_27 : decode cX10_rowAt 27 = .ok (.getfield 60, 3) := by decide +kernel
theorem dX10_rowAt_30 : decode cX10_rowAt 30 = .ok (.iload_n 1, 1) := by decide +kernel
theorem dX10_rowAt_31 : decode cX10_rowAt 31 = .ok (.iaload, 1) := by decide +kernel
theorem dX10_rowAt_32 : decode cX10_rowAt 32 = .ok (.iconst 4, 1) := by decide +kernel
theorem dX10_rowAt_33 : decode cX10_rowAt 33 = .ok (.if_icmp .le 8, 3) := by decide +kernel
theorem dX10_rowAt_36 : decode cX10_rowAt 36 = .ok (.bipush (-12), 2) := by decide +kernel
theorem dX10_rowAt_38 : decode cX10_rowAt 38 = .ok (.goto 25, 3) := by decide +kernel
theorem dX10_rowAt_41 : decode cX10_rowAt 41 = .ok (.iload_n 2, 1) := by decide +kernel
theorem dX10_rowAt_42 : decode cX10_rowAt 42 = .ok (.iconst 0, 1) := by decide +kernel
theorem dX10_rowAt_43 : decode cX10_rowAt 43 = .ok (.aload_n 0, 1) := by decide +kernel
theorem dX10_rowAt_44 : decode cX10_rowAt 44 = .ok (.getfield 63, 3) := by decide +kernel
theorem dX10_rowAt_47 : decode cX10_rowAt 47 = .ok (.iload_n 1, 1) := by decide +kernel
theorem dX10_rowAt_48 : decode cX10_rowAt 48 = .ok (.iaload, 1) := by decide +kernel
theorem dX10_rowAt_49 : decode cX10_rowAt 49 = .ok (.iconst 1, 1) := by decide +kernel
theorem dX10_rowAt_50 : decode cX10_rowAt 50 = .ok (.isub, 1) := by decide +kernel
theorem dX10_rowAt_51 : decode cX10_rowAt 51 = .ok (.invokestatic 106, 3) := by decide +kernel
theorem dX10_rowAt_54 : decode cX10_rowAt 54 = .ok (.ifCond .ne 8, 3) := by decide +kernel
theorem dX10_rowAt_57 : decode cX10_rowAt 57 = .ok (.bipush (-13), 2) := by decide +kernel
theorem dX10_rowAt_59 : decode cX10_rowAt 59 = .ok (.goto 4, 3) := by decide +kernel
theorem dX10_rowAt_62 : decode cX10_rowAt 62 = .ok (.iconst 1, 1) := by decide +kernel
theorem dX10_rowAt_63 : decode cX10_rowAt 63 = .ok (.ireturn, 1) := by decide +kernel
theorem dX10_put_0 : decode cX10_put 0 = .ok (.aload_n 0, 1) := by decide +kernel
theorem dX10_put_1 : decode cX10_put 1 = .ok (.iload_n 1, 1) := by decide +kernel
theorem dX10_put_2 : decode cX10_put 2 = .ok (.iload_n 2, 1) := by decide +kernel
theorem dX10_put_3 : decode cX10_put 3 = .ok (.invokevirtual 300, 3) := by decide +kernel
theorem dX10_put_6 : decode cX10_put 6 = .ok (.istore 5, 2) := by decide +kernel
theorem dX10_put_8 : decode cX10_put 8 = .ok (.iload 5, 2) := by decide +kernel
theorem dX10_put_10 : decode cX10_put 10 = .ok (.iconst 1, 1) := by decide +kernel
theorem dX10_put_11 : decode cX10_put 11 = .ok (.if_icmp .ge 6, 3) := by decide +kernel
theorem dX10_put_14 : decode cX10_put 14 = .ok (.iload 5, 2) := by decide +kernel
theorem dX10_put_16 : decode cX10_put 16 = .ok (.ireturn, 1) := by decide +kernel
theorem dX10_put_17 : decode cX10_put 17 = .ok (.aload_n 0, 1) := by decide +kernel
theorem dX10_put_18 : decode cX10_put 18 = .ok (.getfield 60, 3) := by decide +kernel
theorem dX10_put_21 : decode cX10_put 21 = .ok (.iload_n 1, 1) := by decide +kernel
theorem dX10_put_22 : decode cX10_put 22 = .ok (.iaload, 1) := by decide +kernel
theorem dX10_put_23 : decode cX10_put 23 = .ok (.istore 6, 2) := by decide +kernel
theorem dX10_put_25 : decode cX10_put 25 = .ok (.aload_n 0, 1) := by decide +kernel
theorem dX10_put_26 : decode cX10_put 26 = .ok (.getfield 66, 3) := by decide +kernel
theorem dX10_put_29 : decode cX10_put 29 = .ok (.bipush 60, 2) := by decide +kernel
theorem dX10_put_31 : decode cX10_put 31 = .ok (.iload_n 1, 1) := by decide +kernel
theorem dX10_put_32 : decode cX10_put 32 = .ok (.imul, 1) := by decide +kernel
theorem dX10_put_33 : decode cX10_put 33 = .ok (.iload_n 2, 1) := by decide +kernel
theorem dX10_put_34 : decode cX10_put 34 = .ok (.iadd, 1) := by decide +kernel
theorem dX10_put_35 : decode cX10_put 35 = .ok (.iload 6, 2) := by decide +kernel
theorem dX10_put_37 : decode cX10_put 37 = .ok (.ifCond .ne 10, 3) := by decide +kernel
theorem dX10_put_40 : decode cX10_put 40 = .ok (.lload_n 3, 1) := by decide +kernel
theorem dX10_put_41 : decode cX10_put 41 = .ok (.l2i, 1) := by decide +kernel
theorem dX10_put_42 : decode cX10_put 42 = .ok (.i2b, 1) := by decide +kernel
theorem dX10_put_43 : decode cX10_put 43 = .ok (.i2l, 1) := by decide +kernel
theorem dX10_put_44 : decode cX10_put 44 = .ok (.goto 49, 3) := by decide +kernel
theorem dX10_put_47 : decode cX10_put 47 = .ok (.iload 6, 2) := by decide +kernel
theorem dX10_put_49 : decode cX10_put 49 = .ok (.iconst 1, 1) := by decide +kernel
theorem dX10_put_50 : decode cX10_put 50 = .ok (.if_icmp .ne 10, 3) := by decide +kernel
theorem dX10_put_53 : decode cX10_put 53 = .ok (.lload_n 3, 1) := by decide +kernel
theorem dX10_put_54 : decode cX10_put 54 = .ok (.l2i, 1) := by decide +kernel
theorem dX10_put_55 : decode cX10_put 55 = .ok (.i2s, 1) := by decide +kernel
theorem dX10_put_56 : decode cX10_put 56 = .ok (.i2l, 1) := by decide +kernel
theorem dX10_put_57 : decode cX10_put 57 = .ok (.goto 36, 3) := by decide +kernel
theorem dX10_put_60 : decode cX10_put 60 = .ok (.iload 6, 2) := by decide +kernel
theorem dX10_put_62 : decode cX10_put 62 = .ok (.iconst 2, 1) := by decide +kernel
theorem dX10_put_63 : decode cX10_put 63 = .ok (.if_icmp .ne 9, 3) := by decide +kernel
theorem dX10_put_66 : decode cX10_put 66 = .ok (.lload_n 3, 1) := by decide +kernel
theorem dX10_put_67 : decode cX10_put 67 = .ok (.l2i, 1) := by decide +kernel
theorem dX10_put_68 : decode cX10_put 68 = .ok (.i2l, 1) := by decide +kernel
theorem dX10_put_69 : decode cX10_put 69 = .ok (.goto 24, 3) := by decide +kernel
theorem dX10_put_72 : decode cX10_put 72 = .ok (.iload 6, 2) := by decide +kernel
theorem dX10_put_74 : decode cX10_put 74 = .ok (.iconst 3, 1) := by decide +kernel
theorem dX10_put_75 : decode cX10_put 75 = .ok (.if_icmp .ne 7, 3) := by decide +kernel
theorem dX10_put_78 : decode cX10_put 78 = .ok (.lload_n 3, 1) := by decide +kernel
theorem dX10_put_79 : decode cX10_put 79 = .ok (.goto 14, 3) := by decide +kernel
theorem dX10_put_82 : decode cX10_put 82 = .ok (.lload_n 3, 1) := by decide +kernel
theorem dX10_put_83 : decode cX10_put 83 = .ok (.lconst 0, 1) := by decide +kernel
theorem dX10_put_84 : decode cX10_put 84 = .ok (.lcmp, 1) := by decide +kernel
theorem dX10_put_85 : decode cX10_put 85 = .ok (.ifCond .eq 7, 3) := by decide +kernel
theorem dX10_put_88 : decode cX10_put 88 = .ok (.lconst 1, 1) := by decide +kernel
theorem dX10_put_89 : decode cX10_put 89 = .ok (.goto 4, 3) := by decide +kernel
theorem dX10_put_92 : decode cX10_put 92 = .ok (.lconst 0, 1) := by decide +kernel
theorem dX10_put_93 : decode cX10_put 93 = .ok (.lastore, 1) := by decide +kernel
theorem dX10_put_94 : decode cX10_put 94 = .ok (.iconst 1, 1) := by decide +kernel
theorem dX10_put_95 : decode cX10_put 95 = .ok (.ireturn, 1) := by decide +kernel
theorem dX10_element_0 : decode cX10_element 0 = .ok (.aload_n 0, 1) := by decide +kernel
theorem dX10_element_1 : decode cX10_element 1 = .ok (.iload_n 1, 1) := by decide +kernel
theorem dX10_element_2 : decode cX10_element 2 = .ok (.iload_n 2, 1) := by decide +kernel
theorem dX10_element_3 : decode cX10_element 3 = .ok (.invokevirtual 300, 3) := by decide +kernel
theorem dX10_element_6 : decode cX10_element 6 = .ok (.iconst 1, 1) := by decide +kernel
theorem dX10_element_7 : decode cX10_element 7 = .ok (.if_icmp .ne 17, 3) := by decide +kernel
theorem dX10_element_10 : decode cX10_element 10 = .ok (.aload_n 0, 1) := by decide +kernel
theorem dX10_element_11 : decode cX10_element 11 = .ok (.getfield 66, 3) := by decide +kernel
theorem dX10_element_14 : decode cX10_element 14 = .ok (.bipush 60, 2) := by decide +kernel
theorem dX10_element_16 : decode cX10_element 16 = .ok (.iload_n 1, 1) := by decide +kernel
theorem dX10_element_17 : decode cX10_element 17 = .ok (.imul, 1) := by decide +kernel
theorem dX10_element_18 : decode cX10_element 18 = .ok (.iload_n 2, 1) := by decide +kernel
theorem dX10_element_19 : decode cX10_element 19 = .ok (.iadd, 1) := by decide +kernel
theorem dX10_element_20 : decode cX10_element 20 = .ok (.laload, 1) := by decide +kernel
theorem dX10_element_21 : decode cX10_element 21 = .ok (.goto 6, 3) := by decide +kernel
theorem dX10_element_24 : decode cX10_element 24 = .ok (.ldc2_w 305, 3) := by decide +kernel
theorem dX10_element_27 : decode cX10_element 27 = .ok (.lreturn, 1) := by decide +kernel
theorem dX10_shift_0 : decode cX10_shift 0 = .ok (.iload_n 1, 1) := by decide +kernel
theorem dX10_shift_1 : decode cX10_shift 1 = .ok (.invokestatic 250, 3) := by decide +kernel
theorem dX10_shift_4 : decode cX10_shift 4 = .ok (.ifCond .eq 10, 3) := by decide +kernel
theorem dX10_shift_7 : decode cX10_shift 7 = .ok (.iload_n 3, 1) := by decide +kernel
theorem dX10_shift_8 : decode cX10_shift 8 = .ok (.invokestatic 250, 3) := by decide +kernel
theorem dX10_shift_11 : decode cX10_shift 11 = .ok (.ifCond .ne 5, 3) := by decide +kernel
theorem dX10_shift_14 : decode cX10_shift 14 = .ok (.iconst (-1), 1) := by decide +kernel
theorem dX10_shift_15 : decode cX10_shift 15 = .ok (.ireturn, 1) := by decide +kernel
theorem dX10_shift_16 : decode cX10_shift 16 = .ok (.aload_n 0, 1) := by decide +kernel
theorem dX10_shift_17 : decode cX10_shift 17 = .ok (.getfield 60, 3) := by decide +kernel
theorem dX10_shift_20 : decode cX10_shift 20 = .ok (.iload_n 1, 1) := by decide +kernel
theorem dX10_shift_21 : decode cX10_shift 21 = .ok (.iaload, 1) := by decide +kernel
theorem dX10_shift_22 : decode cX10_shift 22 = .ok (.iconst (-1), 1) := by decide +kernel
theorem dX10_shift_23 : decode cX10_shift 23 = .ok (.if_icmp .eq 13, 3) := by decide +kernel
theorem dX10_shift_26 : decode cX10_shift 26 = .ok (.aload_n 0, 1) := by decide +kernel
theorem dX10_shift_27 : decode cX10_shift 27 = .ok (.getfield 60, 3) := by decide +kernel
theorem dX10_shift_30 : decode cX10_shift 30 = .ok (.iload_n 3, 1) := by decide +kernel
theorem dX10_shift_31 : decode cX10_shift 31 = .ok (.iaload, 1) := by decide +kernel
theorem dX10_shift_32 : decode cX10_shift 32 = .ok (.iconst (-1), 1) := by decide +kernel
theorem dX10_shift_33 : decode cX10_shift 33 = .ok (.if_icmp .ne 6, 3) := by decide +kernel
theorem dX10_shift_36 : decode cX10_shift 36 = .ok (.bipush (-11), 2) := by decide +kernel
theorem dX10_shift_38 : decode cX10_shift 38 = .ok (.ireturn, 1) := by decide +kernel
theorem dX10_shift_39 : decode cX10_shift 39 = .ok (.aload_n 0, 1) := by decide +kernel
theorem dX10_shift_40 : decode cX10_shift 40 = .ok (.getfield 60, 3) := by decide +kernel
theorem dX10_shift_43 : decode cX10_shift 43 = .ok (.iload_n 1, 1) := by decide +kernel
theorem dX10_shift_44 : decode cX10_shift 44 = .ok (.iaload, 1) := by decide +kernel
theorem dX10_shift_45 : decode cX10_shift 45 = .ok (.iconst 4, 1) := by decide +kernel
theorem dX10_shift_46 : decode cX10_shift 46 = .ok (.if_icmp .gt 18, 3) := by decide +kernel
theorem dX10_shift_49 : decode cX10_shift 49 = .ok (.aload_n 0, 1) := by decide +kernel
theorem dX10_shift_50 : decode cX10_shift 50 = .ok (.getfield 60, 3) := by decide +kernel
theorem dX10_shift_53 : decode cX10_shift 53 = .ok (.iload_n 1, 1) := by decide +kernel
theorem dX10_shift_54 : decode cX10_shift 54 = .ok (.iaload, 1) := by decide +kernel
theorem dX10_shift_55 : decode cX10_shift 55 = .ok (.aload_n 0, 1) := by decide +kernel
theorem dX10_shift_56 : decode cX10_shift 56 = .ok (.getfield 60, 3) := by decide +kernel
theorem dX10_shift_59 : decode cX10_shift 59 = .ok (.iload_n 3, 1) := by decide +kernel
theorem dX10_shift_60 : decode cX10_shift 60 = .ok (.iaload, 1) := by decide +kernel
theorem dX10_shift_61 : decode cX10_shift 61 = .ok (.if_icmp .eq 6, 3) := by decide +kernel
theorem dX10_shift_64 : decode cX10_shift 64 = .ok (.bipush (-12), 2) := by decide +kernel
theorem dX10_shift_66 : decode cX10_shift 66 = .ok (.ireturn, 1) := by decide +kernel
theorem dX10_shift_67 : decode cX10_shift 67 = .ok (.iload 5, 2) := by decide +kernel
theorem dX10_shift_69 : decode cX10_shift 69 = .ok (.ifCond .lt 39, 3) := by decide +kernel
theorem dX10_shift_72 : decode cX10_shift 72 = .ok (.iload_n 2, 1) := by decide +kernel
theorem dX10_shift_73 : decode cX10_shift 73 = .ok (.ifCond .lt 35, 3) := by decide +kernel
theorem dX10_shift_76 : decode cX10_shift 76 = .ok (.iload 4, 2) := by decide +kernel
theorem dX10_shift_78 : decode cX10_shift 78 = .ok (.ifCond .lt 30, 3) := by decide +kernel
theorem dX10_shift_81 : decode cX10_shift 81 = .ok (.iload 5, 2) := by decide +kernel
theorem dX10_shift_83 : decode cX10_shift 83 = .ok (.aload_n 0, 1) := by decide +kernel
theorem dX10_shift_84 : decode cX10_shift 84 = .ok (.getfield 63, 3) := by decide +kernel
theorem dX10_shift_87 : decode cX10_shift 87 = .ok (.iload_n 1, 1) := by decide +kernel
theorem dX10_shift_88 : decode cX10_shift 88 = .ok (.iaload, 1) := by decide +kernel
theorem dX10_shift_89 : decode cX10_shift 89 = .ok (.iload_n 2, 1) := by decide +kernel
theorem dX10_shift_90 : decode cX10_shift 90 = .ok (.isub, 1) := by decide +kernel
theorem dX10_shift_91 : decode cX10_shift 91 = .ok (.if_icmp .gt 17, 3) := by decide +kernel
theorem dX10_shift_94 : decode cX10_shift 94 = .ok (.iload 5, 2) := by decide +kernel
theorem dX10_shift_96 : decode cX10_shift 96 = .ok (.aload_n 0, 1) := by decide +kernel
theorem dX10_shift_97 : decode cX10_shift 97 = .ok (.getfield 63, 3) := by decide +kernel
theorem dX10_shift_100 : decode cX10_shift 100 = .ok (.iload_n 3, 1) := by decide +kernel
theorem dX10_shift_101 : decode cX10_shift 101 = .ok (.iaload, 1) := by decide +kernel
theorem dX10_shift_102 : decode cX10_shift 102 = .ok (.iload 4, 2) := by decide +kernel
theorem dX10_shift_104 : decode cX10_shift 104 = .ok (.isub, 1) := by decide +kernel
theorem dX10_shift_105 : decode cX10_shift 105 = .ok (.if_icmp .le 6, 3) := by decide +kernel
theorem dX10_shift_108 : decode cX10_shift 108 = .ok (.bipush (-13), 2) := by decide +kernel
theorem dX10_shift_110 : decode cX10_shift 110 = .ok (.ireturn, 1) := by decide +kernel
theorem dX10_shift_111 : decode cX10_shift 111 = .ok (.iconst 0, 1) := by decide +kernel
theorem dX10_shift_112 : decode cX10_shift 112 = .ok (.istore 6, 2) := by decide +kernel
theorem dX10_shift_114 : decode cX10_shift 114 = .ok (.iload 6, 2) := by decide +kernel
theorem dX10_shift_116 : decode cX10_shift 116 = .ok (.iload 5, 2) := by decide +kernel
theorem dX10_shift_118 : decode cX10_shift 118 = .ok (.if_icmp .ge 30, 3) := by decide +kernel
theorem dX10_shift_121 : decode cX10_shift 121 = .ok (.aload_n 0, 1) := by decide +kernel
theorem dX10_shift_122 : decode cX10_shift 122 = .ok (.getfield 70, 3) := by decide +kernel
theorem dX10_shift_125 : decode cX10_shift 125 = .ok (.iload 6, 2) := by decide +kernel
theorem dX10_shift_127 : decode cX10_shift 127 = .ok (.aload_n 0, 1) := by decide +kernel
theorem dX10_shift_128 : decode cX10_shift 128 = .ok (.getfield 66, 3) := by decide +kernel
theorem dX10_shift_131 : decode cX10_shift 131 = .ok (.bipush 60, 2) := by decide +kernel
theorem dX10_shift_133 : decode cX10_shift 133 = .ok (.iload_n 1, 1) := by decide +kernel
theorem dX10_shift_134 : decode cX10_shift 134 = .ok (.imul, 1) := by decide +kernel
theorem dX10_shift_135 : decode cX10_shift 135 = .ok (.iload_n 2, 1) := by decide +kernel
theorem dX10_shift_136 : decode cX10_shift 136 = .ok (.iadd, 1) := by decide +kernel
theorem dX10_shift_137 : decode cX10_shift 137 = .ok (.iload 6, 2) := by decide +kernel
theorem dX10_shift_139 : decode cX10_shift 139 = .ok (.iadd, 1) := by decide +kernel
theorem dX10_shift_140 : decode cX10_shift 140 = .ok (.laload, 1) := by decide +kernel
theorem dX10_shift_141 : decode cX10_shift 141 = .ok (.lastore, 1) := by decide +kernel
theorem dX10_shift_142 : decode cX10_shift 142 = .ok (.iinc 6 1, 3) := by decide +kernel
theorem dX10_shift_145 : decode cX10_shift 145 = .ok (.goto (-31), 3) := by decide +kernel
theorem dX10_shift_148 : decode cX10_shift 148 = .ok (.iconst 0, 1) := by decide +kernel
theorem dX10_shift_149 : decode cX10_shift 149 = .ok (.istore 6, 2) := by decide +kernel
theorem dX10_shift_151 : decode cX10_shift 151 = .ok (.iload 6, 2) := by decide +kernel
theorem dX10_shift_153 : decode cX10_shift 153 = .ok (.iload 5, 2) := by decide +kernel
theorem dX10_shift_155 : decode cX10_shift 155 = .ok (.if_icmp .ge 31, 3) := by decide +kernel
theorem dX10_shift_158 : decode cX10_shift 158 = .ok (.aload_n 0, 1) := by decide +kernel
theorem dX10_shift_159 : decode cX10_shift 159 = .ok (.getfield 66, 3) := by decide +kernel
theorem dX10_shift_162 : decode cX10_shift 162 = .ok (.bipush 60, 2) := by decide +kernel
theorem dX10_shift_164 : decode cX10_shift 164 = .ok (.iload_n 3, 1) := by decide +kernel
theorem dX10_shift_165 : decode cX10_shift 165 = .ok (.imul, 1) := by decide +kernel
theorem dX10_shift_166 : decode cX10_shift 166 = .ok (.iload 4, 2) := by decide +kernel
theorem dX10_shift_168 : decode cX10_shift 168 = .ok (.iadd, 1) := by decide +kernel
theorem dX10_shift_169 : decode cX10_shift 169 = .ok (.iload 6, 2) := by decide +kernel
theorem dX10_shift_171 : decode cX10_shift 171 = .ok (.iadd, 1) := by decide +kernel
theorem dX10_shift_172 : decode cX10_shift 172 = .ok (.aload_n 0, 1) := by decide +kernel
theorem dX10_shift_173 : decode cX10_shift 173 = .ok (.getfield 70, 3) := by decide +kernel
theorem dX10_shift_176 : decode cX10_shift 176 = .ok (.iload 6, 2) := by decide +kernel
theorem dX10_shift_178 : decode cX10_shift 178 = .ok (.laload, 1) := by decide +kernel
theorem dX10_shift_179 : decode cX10_shift 179 = .ok (.lastore, 1) := by decide +kernel
theorem dX10_shift_180 : decode cX10_shift 180 = .ok (.iinc 6 1, 3) := by decide +kernel
theorem dX10_shift_183 : decode cX10_shift 183 = .ok (.goto (-32), 3) := by decide +kernel
theorem dX10_shift_186 : decode cX10_shift 186 = .ok (.iload 5, 2) := by decide +kernel
theorem dX10_shift_188 : decode cX10_shift 188 = .ok (.ireturn, 1) := by decide +kernel
theorem dX10_taken_0 : decode cX10_taken 0 = .ok (.iload_n 1, 1) := by decide +kernel
theorem dX10_taken_1 : decode cX10_taken 1 = .ok (.invokestatic 250, 3) := by decide +kernel
theorem dX10_taken_4 : decode cX10_taken 4 = .ok (.ifCond .eq 13, 3) := by decide +kernel
theorem dX10_taken_7 : decode cX10_taken 7 = .ok (.iload_n 2, 1) := by decide +kernel
theorem dX10_taken_8 : decode cX10_taken 8 = .ok (.iconst 0, 1) := by decide +kernel
theorem dX10_taken_9 : decode cX10_taken 9 = .ok (.bipush 7, 2) := by decide +kernel
theorem dX10_taken_11 : decode cX10_taken 11 = .ok (.invokestatic 106, 3) := by decide +kernel
theorem dX10_taken_14 : decode cX10_taken 14 = .ok (.ifCond .ne 5, 3) := by decide +kernel
theorem dX10_taken_17 : decode cX10_taken 17 = .ok (.iconst (-1), 1) := by decide +kernel
theorem dX10_taken_18 : decode cX10_taken 18 = .ok (.ireturn, 1) := by decide +kernel
theorem dX10_taken_19 : decode cX10_taken 19 = .ok (.aload_n 0, 1) := by decide +kernel
theorem dX10_taken_20 : decode cX10_taken 20 = .ok (.getfield 60, 3) := by decide +kernel
theorem dX10_taken_23 : decode cX10_taken 23 = .ok (.iload_n 1, 1) := by decide +kernel
theorem dX10_taken_24 : decode cX10_taken 24 = .ok (.iaload, 1) := by decide +kernel
theorem dX10_taken_25 : decode cX10_taken 25 = .ok (.bipush 10, 2) := by decide +kernel
theorem dX10_taken_27 : decode cX10_taken 27 = .ok (.if_icmp .ge 21, 3) := by decide +kernel
theorem dX10_taken_30 : decode cX10_taken 30 = .ok (.aload_n 0, 1) := by decide +kernel
theorem dX10_taken_31 : decode cX10_taken 31 = .ok (.getfield 60, 3) := by decide +kernel
theorem dX10_taken_34 : decode cX10_taken 34 = .ok (.iload_n 1, 1) := by decide +kernel
theorem dX10_taken_35 : decode cX10_taken 35 = .ok (.iaload, 1) := by decide +kernel
theorem dX10_taken_36 : decode cX10_taken 36 = .ok (.iconst (-1), 1) := by decide +kernel
theorem dX10_taken_37 : decode cX10_taken 37 = .ok (.if_icmp .ne 8, 3) := by decide +kernel
theorem dX10_taken_40 : decode cX10_taken 40 = .ok (.bipush (-11), 2) := by decide +kernel
theorem dX10_taken_42 : decode cX10_taken 42 = .ok (.goto 5, 3) := by decide +kernel
theorem dX10_taken_45 : decode cX10_taken 45 = .ok (.bipush (-12), 2) := by decide +kernel
theorem dX10_taken_47 : decode cX10_taken 47 = .ok (.ireturn, 1) := by decide +kernel
theorem dX10_taken_48 : decode cX10_taken 48 = .ok (.aload_n 0, 1) := by decide +kernel
theorem dX10_taken_49 : decode cX10_taken 49 = .ok (.getfield 88, 3) := by decide +kernel
theorem dX10_taken_52 : decode cX10_taken 52 = .ok (.aload_n 0, 1) := by decide +kernel
theorem dX10_taken_53 : decode cX10_taken 53 = .ok (.getfield 60, 3) := by decide +kernel
theorem dX10_taken_56 : decode cX10_taken 56 = .ok (.iload_n 1, 1) := by decide +kernel
theorem dX10_taken_57 : decode cX10_taken 57 = .ok (.iaload, 1) := by decide +kernel
theorem dX10_taken_58 : decode cX10_taken 58 = .ok (.bipush 10, 2) := by decide +kernel
theorem dX10_taken_60 : decode cX10_taken 60 = .ok (.isub, 1) := by decide +kernel
theorem dX10_taken_61 : decode cX10_taken 61 = .ok (.iaload, 1) := by decide +kernel
theorem dX10_taken_62 : decode cX10_taken 62 = .ok (.istore_n 3, 1) := by decide +kernel
theorem dX10_taken_63 : decode cX10_taken 63 = .ok (.iload_n 3, 1) := by decide +kernel
theorem dX10_taken_64 : decode cX10_taken 64 = .ok (.istore 4, 2) := by decide +kernel
theorem dX10_taken_66 : decode cX10_taken 66 = .ok (.iload 4, 2) := by decide +kernel
theorem dX10_taken_68 : decode cX10_taken 68 = .ok (.iconst (-1), 1) := by decide +kernel
theorem dX10_taken_69 : decode cX10_taken 69 = .ok (.if_icmp .eq 21, 3) := by decide +kernel
theorem dX10_taken_72 : decode cX10_taken 72 = .ok (.iload 4, 2) := by decide +kernel
theorem dX10_taken_74 : decode cX10_taken 74 = .ok (.iload_n 2, 1) := by decide +kernel
theorem dX10_taken_75 : decode cX10_taken 75 = .ok (.if_icmp .eq 15, 3) := by decide +kernel
theorem dX10_taken_78 : decode cX10_taken 78 = .ok (.aload_n 0, 1) := by decide +kernel
theorem dX10_taken_79 : decode cX10_taken 79 = .ok (.getfield 82, 3) := by decide +kernel
theorem dX10_taken_82 : decode cX10_taken 82 = .ok (.iload 4, 2) := by decide +kernel
theorem dX10_taken_84 : decode cX10_taken 84 = .ok (.iaload, 1) := by decide +kernel
theorem dX10_taken_85 : decode cX10_taken 85 = .ok (.istore 4, 2) := by decide +kernel
theorem dX10_taken_87 : decode cX10_taken 87 = .ok (.goto (-21), 3) := by decide +kernel
theorem dX10_taken_90 : decode cX10_taken 90 = .ok (.iload 4, 2) := by decide +kernel
theorem dX10_taken_92 : decode cX10_taken 92 = .ok (.iconst (-1), 1) := by decide +kernel
theorem dX10_taken_93 : decode cX10_taken 93 = .ok (.if_icmp .ne 8, 3) := by decide +kernel
theorem dX10_taken_96 : decode cX10_taken 96 = .ok (.bipush (-12), 2) := by decide +kernel
theorem dX10_taken_98 : decode cX10_taken 98 = .ok (.goto 4, 3) := by decide +kernel
theorem dX10_taken_101 : decode cX10_taken 101 = .ok (.iload_n 3, 1) := by decide +kernel
theorem dX10_taken_102 : decode cX10_taken 102 = .ok (.ireturn, 1) := by decide +kernel
theorem dX10_count_0 : decode cX10_count 0 = .ok (.iload_n 1, 1) := by decide +kernel
theorem dX10_count_1 : decode cX10_count 1 = .ok (.tableswitch 69 0 5 #[39, 44, 49, 54, 59, 64], 39) := by decide +kernel
theorem dX10_count_40 : decode cX10_count 40 = .ok (.aload_n 0, 1) := by decide +kernel
theorem dX10_count_41 : decode cX10_count 41 = .ok (.getfield 103, 3) := by decide +kernel
theorem dX10_count_44 : decode cX10_count 44 = .ok (.ireturn, 1) := by decide +kernel
theorem dX10_count_45 : decode cX10_count 45 = .ok (.aload_n 0, 1) := by decide +kernel
theorem dX10_count_46 : decode cX10_count 46 = .ok (.getfield 121, 3) := by decide +kernel
theorem dX10_count_49 : decode cX10_count 49 = .ok (.ireturn, 1) := by decide +kernel
theorem dX10_count_50 : decode cX10_count 50 = .ok (.aload_n 0, 1) := by decide +kernel
theorem dX10_count_51 : decode cX10_count 51 = .ok (.getfield 141, 3) := by decide +kernel
theorem dX10_count_54 : decode cX10_count 54 = .ok (.ireturn, 1) := by decide +kernel
theorem dX10_count_55 : decode cX10_count 55 = .ok (.aload_n 0, 1) := by decide +kernel
theorem dX10_count_56 : decode cX10_count 56 = .ok (.getfield 135, 3) := by decide +kernel
theorem dX10_count_59 : decode cX10_count 59 = .ok (.ireturn, 1) := by decide +kernel
theorem dX10_count_60 : decode cX10_count 60 = .ok (.aload_n 0, 1) := by decide +kernel
theorem dX10_count_61 : decode cX10_count 61 = .ok (.getfield 288, 3) := by decide +kernel
theorem dX10_count_64 : decode cX10_count 64 = .ok (.ireturn, 1) := by decide +kernel
theorem dX10_count_65 : decode cX10_count 65 = .ok (.aload_n 0, 1) := by decide +kernel
theorem dX10_count_66 : decode cX10_count 66 = .ok (.getfield 294, 3) := by decide +kernel
theorem dX10_count_69 : decode cX10_count 69 = .ok (.ireturn, 1) := by decide +kernel
theorem dX10_count_70 : decode cX10_count 70 = .ok (.iconst (-1), 1) := by decide +kernel
theorem dX10_count_71 : decode cX10_count 71 = .ok (.ireturn, 1) := by decide +kernel
theorem dL_law_0 : decode cL_law 0 = .ok (.new 7, 3) := by decide +kernel
theorem dL_law_3 : decode cL_law 3 = .ok (.dup, 1) := by decide +kernel
theorem dL_law_4 : decode cL_law 4 = .ok (.invokespecial 9, 3) := by decide +kernel
theorem dL_law_7 : decode cL_law 7 = .ok (.astore_n 1, 1) := by decide +kernel
theorem dL_law_8 : decode cL_law 8 = .ok (.new 10, 3) := by decide +kernel
theorem dL_law_11 : decode cL_law 11 = .ok (.dup, 1) := by decide +kernel
theorem dL_law_12 : decode cL_law 12 = .ok (.invokespecial 12, 3) := by decide +kernel
theorem dL_law_15 : decode cL_law 15 = .ok (.astore_n 2, 1) := by decide +kernel
theorem dL_law_16 : decode cL_law 16 = .ok (.iconst 0, 1) := by decide +kernel
theorem dL_law_17 : decode cL_law 17 = .ok (.istore_n 3, 1) := by decide +kernel
theorem dL_law_18 : decode cL_law 18 = .ok (.iload_n 3, 1) := by decide +kernel
theorem dL_law_19 : decode cL_law 19 = .ok (.aload_n 0, 1) := by decide +kernel
theorem dL_law_20 : decode cL_law 20 = .ok (.arraylength, 1) := by decide +kernel
theorem dL_law_21 : decode cL_law 21 = .ok (.bipush 6, 2) := by decide +kernel
theorem dL_law_23 : decode cL_law 23 = .ok (.isub, 1) := by decide +kernel
theorem dL_law_24 : decode cL_law 24 = .ok (.if_icmp .gt 1468, 3) := by decide +kernel
theorem dL_law_27 : decode cL_law 27 = .ok (.aload_n 0, 1) := by decide +kernel
theorem dL_law_28 : decode cL_law 28 = .ok (.iload_n 3, 1) := by decide +kernel
theorem dL_law_29 : decode cL_law 29 = .ok (.iaload, 1) := by decide +kernel
theorem dL_law_30 : decode cL_law 30 = .ok (.bipush 63, 2) := by decide +kernel
theorem dL_law_32 : decode cL_law 32 = .ok (.iand, 1) := by decide +kernel
theorem dL_law_33 : decode cL_law 33 = .ok (.tableswitch 1453 0 40 #[179, 212, 255, 298, 341, 374, 397, 410, 453, 476, 509, 542, 575, 598, 631, 674, 697, 720, 743, 786, 809, 852, 895, 928, 941, 954, 987, 1010, 1023, 1036, 1049, 1062, 1085, 1128, 1151, 1184, 1227, 1300, 1334, 1397, 1430], 179) := by decide +kernel
theorem dL_law_212 : decode cL_law 212 = .ok (.aload_n 1, 1) := by decide +kernel
theorem dL_law_213 : decode cL_law 213 = .ok (.aload_n 0, 1) := by decide +kernel
theorem dL_law_214 : decode cL_law 214 = .ok (.iload_n 3, 1) := by decide +kernel
theorem dL_law_215 : decode cL_law 215 = .ok (.iconst 1, 1) := by decide +kernel
theorem dL_law_216 : decode cL_law 216 = .ok (.iadd, 1) := by decide +kernel
theorem dL_law_217 : decode cL_law 217 = .ok (.iaload, 1) := by decide +kernel
theorem dL_law_218 : decode cL_law 218 = .ok (.aload_n 0, 1) := by decide +kernel
theorem dL_law_219 : decode cL_law 219 = .ok (.iload_n 3, 1) := by decide +kernel
theorem dL_law_220 : decode cL_law 220 = .ok (.iconst 2, 1) := by decide +kernel
theorem dL_law_221 : decode cL_law 221 = .ok (.iadd, 1) := by decide +kernel
theorem dL_law_222 : decode cL_law 222 = .ok (.iaload, 1) := by decide +kernel
theorem dL_law_223 : decode cL_law 223 = .ok (.invokevirtual 13, 3) := by decide +kernel
theorem dL_law_226 : decode cL_law 226 = .ok (.aload_n 2, 1) := by decide +kernel
theorem dL_law_227 : decode cL_law 227 = .ok (.aload_n 0, 1) := by decide +kernel
theorem dL_law_228 : decode cL_law 228 = .ok (.iload_n 3, 1) := by decide +kernel
theorem dL_law_229 : decode cL_law 229 = .ok (.iconst 1, 1) := by decide +kernel
theorem dL_law_230 : decode cL_law 230 = .ok (.iadd, 1) := by decide +kernel
theorem dL_law_231 : decode cL_law 231 = .ok (.iaload, 1) := by decide +kernel
theorem dL_law_232 : decode cL_law 232 = .ok (.aload_n 0, 1) := by decide +kernel
theorem dL_law_233 : decode cL_law 233 = .ok (.iload_n 3, 1) := by decide +kernel
theorem dL_law_234 : decode cL_law 234 = .ok (.iconst 2, 1) := by decide +kernel
theorem dL_law_235 : decode cL_law 235 = .ok (.iadd, 1) := by decide +kernel
theorem dL_law_236 : decode cL_law 236 = .ok (.iaload, 1) := by decide +kernel
theorem dL_law_237 : decode cL_law 237 = .ok (.invokevirtual 17, 3) := by decide +kernel
theorem dL_law_240 : decode cL_law 240 = .ok (.if_icmp .eq 1246, 3) := by decide +kernel
theorem dL_law_243 : decode cL_law 243 = .ok (.iconst 0, 1) := by decide +kernel
theorem dL_law_244 : decode cL_law 244 = .ok (.ireturn, 1) := by decide +kernel
theorem dL_law_245 : decode cL_law 245 = .ok (.aload_n 1, 1) := by decide +kernel
theorem dL_law_246 : decode cL_law 246 = .ok (.aload_n 0, 1) := by decide +kernel
theorem dL_law_247 : decode cL_law 247 = .ok (.iload_n 3, 1) := by decide +kernel
theorem dL_law_248 : decode cL_law 248 = .ok (.iconst 1, 1) := by decide +kernel
theorem dL_law_249 : decode cL_law 249 = .ok (.iadd, 1) := by decide +kernel
theorem dL_law_250 : decode cL_law 250 = .ok (.iaload, 1) := by decide +kernel
theorem dL_law_251 : decode cL_law 251 = .ok (.aload_n 0, 1) := by decide +kernel
theorem dL_law_252 : decode cL_law 252 = .ok (.iload_n 3, 1) := by decide +kernel
theorem dL_law_253 : decode cL_law 253 = .ok (.iconst 2, 1) := by decide +kernel
theorem dL_law_254 : decode cL_law 254 = .ok (.iadd, 1) := by decide +kernel
theorem dL_law_255 : decode cL_law 255 = .ok (.iaload, 1) := by decide +kernel
theorem dL_law_256 : decode cL_law 256 = .ok (.aload_n 0, 1) := by decide +kernel
theorem dL_law_257 : decode cL_law 257 = .ok (.iload_n 3, 1) := by decide +kernel
theorem dL_law_258 : decode cL_law 258 = .ok (.iconst 3, 1) := by decide +kernel
theorem dL_law_259 : decode cL_law 259 = .ok (.iadd, 1) := by decide +kernel
theorem dL_law_260 : decode cL_law 260 = .ok (.iaload, 1) := by decide +kernel
theorem dL_law_261 : decode cL_law 261 = .ok (.invokevirtual 18, 3) := by decide +kernel
theorem dL_law_264 : decode cL_law 264 = .ok (.aload_n 2, 1) := by decide +kernel
theorem dL_law_265 : decode cL_law 265 = .ok (.aload_n 0, 1) := by decide +kernel
theorem dL_law_266 : decode cL_law 266 = .ok (.iload_n 3, 1) := by decide +kernel
theorem dL_law_267 : decode cL_law 267 = .ok (.iconst 1, 1) := by decide +kernel
theorem dL_law_268 : decode cL_law 268 = .ok (.iadd, 1) := by decide +kernel
theorem dL_law_269 : decode cL_law 269 = .ok (.iaload, 1) := by decide +kernel
theorem dL_law_270 : decode cL_law 270 = .ok (.aload_n 0, 1) := by decide +kernel
theorem dL_law_271 : decode cL_law 271 = .ok (.iload_n 3, 1) := by decide +kernel
theorem dL_law_272 : decode cL_law 272 = .ok (.iconst 2, 1) := by decide +kernel
theorem dL_law_273 : decode cL_law 273 = .ok (.iadd, 1) := by decide +kernel
theorem dL_law_274 : decode cL_law 274 = .ok (.iaload, 1) := by decide +kernel
theorem dL_law_275 : decode cL_law 275 = .ok (.aload_n 0, 1) := by decide +kernel
theorem dL_law_276 : decode cL_law 276 = .ok (.iload_n 3, 1) := by decide +kernel
theorem dL_law_277 : decode cL_law 277 = .ok (.iconst 3, 1) := by decide +kernel
theorem dL_law_278 : decode cL_law 278 = .ok (.iadd, 1) := by decide +kernel
theorem dL_law_279 : decode cL_law 279 = .ok (.iaload, 1) := by decide +kernel
theorem dL_law_280 : decode cL_law 280 = .ok (.invokevirtual 22, 3) := by decide +kernel
theorem dL_law_283 : decode cL_law 283 = .ok (.if_icmp .eq 1203, 3) := by decide +kernel
theorem dL_law_286 : decode cL_law 286 = .ok (.iconst 0, 1) := by decide +kernel
theorem dL_law_287 : decode cL_law 287 = .ok (.ireturn, 1) := by decide +kernel
theorem dL_law_288 : decode cL_law 288 = .ok (.aload_n 1, 1) := by decide +kernel
theorem dL_law_289 : decode cL_law 289 = .ok (.aload_n 0, 1) := by decide +kernel
theorem dL_law_290 : decode cL_law 290 = .ok (.iload_n 3, 1) := by decide +kernel
theorem dL_law_291 : decode cL_law 291 = .ok (.iconst 1, 1) := by decide +kernel
theorem dL_law_292 : decode cL_law 292 = .ok (.iadd, 1) := by decide +kernel
theorem dL_law_293 : decode cL_law 293 = .ok (.iaload, 1) := by decide +kernel
theorem dL_law_294 : decode cL_law 294 = .ok (.aload_n 0, 1) := by decide +kernel
theorem dL_law_295 : decode cL_law 295 = .ok (.iload_n 3, 1) := by decide +kernel
theorem dL_law_296 : decode cL_law 296 = .ok (.iconst 2, 1) := by decide +kernel
theorem dL_law_297 : decode cL_law 297 = .ok (.iadd, 1) := by decide +kernel
theorem dL_law_298 : decode cL_law 298 = .ok (.iaload, 1) := by decide +kernel
theorem dL_law_299 : decode cL_law 299 = .ok (.aload_n 0, 1) := by decide +kernel
theorem dL_law_300 : decode cL_law 300 = .ok (.iload_n 3, 1) := by decide +kernel
theorem dL_law_301 : decode cL_law 301 = .ok (.iconst 3, 1) := by decide +kernel
theorem dL_law_302 : decode cL_law 302 = .ok (.iadd, 1) := by decide +kernel
theorem dL_law_303 : decode cL_law 303 = .ok (.iaload, 1) := by decide +kernel
theorem dL_law_304 : decode cL_law 304 = .ok (.invokevirtual 23, 3) := by decide +kernel
theorem dL_law_307 : decode cL_law 307 = .ok (.aload_n 2, 1) := by decide +kernel
theorem dL_law_308 : decode cL_law 308 = .ok (.aload_n 0, 1) := by decide +kernel
theorem dL_law_309 : decode cL_law 309 = .ok (.iload_n 3, 1) := by decide +kernel
theorem dL_law_310 : decode cL_law 310 = .ok (.iconst 1, 1) := by decide +kernel
theorem dL_law_311 : decode cL_law 311 = .ok (.iadd, 1) := by decide +kernel
theorem dL_law_312 : decode cL_law 312 = .ok (.iaload, 1) := by decide +kernel
theorem dL_law_313 : decode cL_law 313 = .ok (.aload_n 0, 1) := by decide +kernel
theorem dL_law_314 : decode cL_law 314 = .ok (.iload_n 3, 1) := by decide +kernel
theorem dL_law_315 : decode cL_law 315 = .ok (.iconst 2, 1) := by decide +kernel
theorem dL_law_316 : decode cL_law 316 = .ok (.iadd, 1) := by decide +kernel
theorem dL_law_317 : decode cL_law 317 = .ok (.iaload, 1) := by decide +kernel
theorem dL_law_318 : decode cL_law 318 = .ok (.aload_n 0, 1) := by decide +kernel
theorem dL_law_319 : decode cL_law 319 = .ok (.iload_n 3, 1) := by decide +kernel
theorem dL_law_320 : decode cL_law 320 = .ok (.iconst 3, 1) := by decide +kernel
theorem dL_law_321 : decode cL_law 321 = .ok (.iadd, 1) := by decide +kernel
theorem dL_law_322 : decode cL_law 322 = .ok (.iaload, 1) := by decide +kernel
theorem dL_law_323 : decode cL_law 323 = .ok (.invokevirtual 26, 3) := by decide +kernel
theorem dL_law_326 : decode cL_law 326 = .ok (.if_icmp .eq 1160, 3) := by decide +kernel
theorem dL_law_329 : decode cL_law 329 = .ok (.iconst 0, 1) := by decide +kernel
theorem dL_law_330 : decode cL_law 330 = .ok (.ireturn, 1) := by decide +kernel
theorem dL_law_331 : decode cL_law 331 = .ok (.aload_n 1, 1) := by decide +kernel
theorem dL_law_332 : decode cL_law 332 = .ok (.aload_n 0, 1) := by decide +kernel
theorem dL_law_333 : decode cL_law 333 = .ok (.iload_n 3, 1) := by decide +kernel
theorem dL_law_334 : decode cL_law 334 = .ok (.iconst 1, 1) := by decide +kernel
theorem dL_law_335 : decode cL_law 335 = .ok (.iadd, 1) := by decide +kernel
theorem dL_law_336 : decode cL_law 336 = .ok (.iaload, 1) := by decide +kernel
theorem dL_law_337 : decode cL_law 337 = .ok (.aload_n 0, 1) := by decide +kernel
theorem dL_law_338 : decode cL_law 338 = .ok (.iload_n 3, 1) := by decide +kernel
theorem dL_law_339 : decode cL_law 339 = .ok (.iconst 2, 1) := by decide +kernel
theorem dL_law_340 : decode cL_law 340 = .ok (.iadd, 1) := by decide +kernel
theorem dL_law_341 : decode cL_law 341 = .ok (.iaload, 1) := by decide +kernel
theorem dL_law_342 : decode cL_law 342 = .ok (.aload_n 0, 1) := by decide +kernel
theorem dL_law_343 : decode cL_law 343 = .ok (.iload_n 3, 1) := by decide +kernel
theorem dL_law_344 : decode cL_law 344 = .ok (.iconst 3, 1) := by decide +kernel
theorem dL_law_345 : decode cL_law 345 = .ok (.iadd, 1) := by decide +kernel
theorem dL_law_346 : decode cL_law 346 = .ok (.iaload, 1) := by decide +kernel
theorem dL_law_347 : decode cL_law 347 = .ok (.invokevirtual 27, 3) := by decide +kernel
theorem dL_law_350 : decode cL_law 350 = .ok (.aload_n 2, 1) := by decide +kernel
theorem dL_law_351 : decode cL_law 351 = .ok (.aload_n 0, 1) := by decide +kernel
theorem dL_law_352 : decode cL_law 352 = .ok (.iload_n 3, 1) := by decide +kernel
theorem dL_law_353 : decode cL_law 353 = .ok (.iconst 1, 1) := by decide +kernel
theorem dL_law_354 : decode cL_law 354 = .ok (.iadd, 1) := by decide +kernel
theorem dL_law_355 : decode cL_law 355 = .ok (.iaload, 1) := by decide +kernel
theorem dL_law_356 : decode cL_law 356 = .ok (.aload_n 0, 1) := by decide +kernel
theorem dL_law_357 : decode cL_law 357 = .ok (.iload_n 3, 1) := by decide +kernel
theorem dL_law_358 : decode cL_law 358 = .ok (.iconst 2, 1) := by decide +kernel
theorem dL_law_359 : decode cL_law 359 = .ok (.iadd, 1) := by decide +kernel
theorem dL_law_360 : decode cL_law 360 = .ok (.iaload, 1) := by decide +kernel
theorem dL_law_361 : decode cL_law 361 = .ok (.aload_n 0, 1) := by decide +kernel
theorem dL_law_362 : decode cL_law 362 = .ok (.iload_n 3, 1) := by decide +kernel
theorem dL_law_363 : decode cL_law 363 = .ok (.iconst 3, 1) := by decide +kernel
theorem dL_law_364 : decode cL_law 364 = .ok (.iadd, 1) := by decide +kernel
theorem dL_law_365 : decode cL_law 365 = .ok (.iaload, 1) := by decide +kernel
theorem dL_law_366 : decode cL_law 366 = .ok (.invokevirtual 30, 3) := by decide +kernel
theorem dL_law_369 : decode cL_law 369 = .ok (.if_icmp .eq 1117, 3) := by decide +kernel
theorem dL_law_372 : decode cL_law 372 = .ok (.iconst 0, 1) := by decide +kernel
theorem dL_law_373 : decode cL_law 373 = .ok (.ireturn, 1) := by decide +kernel
theorem dL_law_374 : decode cL_law 374 = .ok (.aload_n 1, 1) := by decide +kernel
theorem dL_law_375 : decode cL_law 375 = .ok (.aload_n 0, 1) := by decide +kernel
theorem dL_law_376 : decode cL_law 376 = .ok (.iload_n 3, 1) := by decide +kernel
theorem dL_law_377 : decode cL_law 377 = .ok (.iconst 1, 1) := by decide +kernel
theorem dL_law_378 : decode cL_law 378 = .ok (.iadd, 1) := by decide +kernel
theorem dL_law_379 : decode cL_law 379 = .ok (.iaload, 1) := by decide +kernel
theorem dL_law_380 : decode cL_law 380 = .ok (.aload_n 0, 1) := by decide +kernel
theorem dL_law_381 : decode cL_law 381 = .ok (.iload_n 3, 1) := by decide +kernel
theorem dL_law_382 : decode cL_law 382 = .ok (.iconst 2, 1) := by decide +kernel
theorem dL_law_383 : decode cL_law 383 = .ok (.iadd, 1) := by decide +kernel
theorem dL_law_384 : decode cL_law 384 = .ok (.iaload, 1) := by decide +kernel
theorem dL_law_385 : decode cL_law 385 = .ok (.invokevirtual 31, 3) := by decide +kernel
theorem dL_law_388 : decode cL_law 388 = .ok (.aload_n 2, 1) := by decide +kernel
theorem dL_law_389 : decode cL_law 389 = .ok (.aload_n 0, 1) := by decide +kernel
theorem dL_law_390 : decode cL_law 390 = .ok (.iload_n 3, 1) := by decide +kernel
theorem dL_law_391 : decode cL_law 391 = .ok (.iconst 1, 1) := by decide +kernel
theorem dL_law_392 : decode cL_law 392 = .ok (.iadd, 1) := by decide +kernel
theorem dL_law_393 : decode cL_law 393 = .ok (.iaload, 1) := by decide +kernel
theorem dL_law_394 : decode cL_law 394 = .ok (.aload_n 0, 1) := by decide +kernel
theorem dL_law_395 : decode cL_law 395 = .ok (.iload_n 3, 1) := by decide +kernel
theorem dL_law_396 : decode cL_law 396 = .ok (.iconst 2, 1) := by decide +kernel
theorem dL_law_397 : decode cL_law 397 = .ok (.iadd, 1) := by decide +kernel
theorem dL_law_398 : decode cL_law 398 = .ok (.iaload, 1) := by decide +kernel
theorem dL_law_399 : decode cL_law 399 = .ok (.invokevirtual 34, 3) := by decide +kernel
theorem dL_law_402 : decode cL_law 402 = .ok (.if_icmp .eq 1084, 3) := by decide +kernel
theorem dL_law_405 : decode cL_law 405 = .ok (.iconst 0, 1) := by decide +kernel
theorem dL_law_406 : decode cL_law 406 = .ok (.ireturn, 1) := by decide +kernel
theorem dL_law_407 : decode cL_law 407 = .ok (.aload_n 1, 1) := by decide +kernel
theorem dL_law_408 : decode cL_law 408 = .ok (.aload_n 0, 1) := by decide +kernel
theorem dL_law_409 : decode cL_law 409 = .ok (.iload_n 3, 1) := by decide +kernel
theorem dL_law_410 : decode cL_law 410 = .ok (.iconst 1, 1) := by decide +kernel
theorem dL_law_411 : decode cL_law 411 = .ok (.iadd, 1) := by decide +kernel
theorem dL_law_412 : decode cL_law 412 = .ok (.iaload, 1) := by decide +kernel
theorem dL_law_413 : decode cL_law 413 = .ok (.invokevirtual 35, 3) := by decide +kernel
theorem dL_law_416 : decode cL_law 416 = .ok (.aload_n 2, 1) := by decide +kernel
theorem dL_law_417 : decode cL_law 417 = .ok (.aload_n 0, 1) := by decide +kernel
theorem dL_law_418 : decode cL_law 418 = .ok (.iload_n 3, 1) := by decide +kernel
theorem dL_law_419 : decode cL_law 419 = .ok (.iconst 1, 1) := by decide +kernel
theorem dL_law_420 : decode cL_law 420 = .ok (.iadd, 1) := by decide +kernel
theorem dL_law_421 : decode cL_law 421 = .ok (.iaload, 1) := by decide +kernel
theorem dL_law_422 : decode cL_law 422 = .ok (.invokevirtual 39, 3) := by decide +kernel
theorem dL_law_425 : decode cL_law 425 = .ok (.if_icmp .eq 1061, 3) := by decide +kernel
theorem dL_law_428 : decode cL_law 428 = .ok (.iconst 0, 1) := by decide +kernel
theorem dL_law_429 : decode cL_law 429 = .ok (.ireturn, 1) := by decide +kernel
theorem dL_law_430 : decode cL_law 430 = .ok (.aload_n 1, 1) := by decide +kernel
theorem dL_law_431 : decode cL_law 431 = .ok (.invokevirtual 40, 3) := by decide +kernel
theorem dL_law_434 : decode cL_law 434 = .ok (.aload_n 2, 1) := by decide +kernel
theorem dL_law_435 : decode cL_law 435 = .ok (.invokevirtual 44, 3) := by decide +kernel
theorem dL_law_438 : decode cL_law 438 = .ok (.if_icmp .eq 1048, 3) := by decide +kernel
theorem dL_law_441 : decode cL_law 441 = .ok (.iconst 0, 1) := by decide +kernel
theorem dL_law_442 : decode cL_law 442 = .ok (.ireturn, 1) := by decide +kernel
theorem dL_law_443 : decode cL_law 443 = .ok (.aload_n 1, 1) := by decide +kernel
theorem dL_law_444 : decode cL_law 444 = .ok (.aload_n 0, 1) := by decide +kernel
theorem dL_law_445 : decode cL_law 445 = .ok (.iload_n 3, 1) := by decide +kernel
theorem dL_law_446 : decode cL_law 446 = .ok (.iconst 1, 1) := by decide +kernel
theorem dL_law_447 : decode cL_law 447 = .ok (.iadd, 1) := by decide +kernel
theorem dL_law_448 : decode cL_law 448 = .ok (.iaload, 1) := by decide +kernel
theorem dL_law_449 : decode cL_law 449 = .ok (.aload_n 0, 1) := by decide +kernel
theorem dL_law_450 : decode cL_law 450 = .ok (.iload_n 3, 1) := by decide +kernel
theorem dL_law_451 : decode cL_law 451 = .ok (.iconst 2, 1) := by decide +kernel
theorem dL_law_452 : decode cL_law 452 = .ok (.iadd, 1) := by decide +kernel
theorem dL_law_453 : decode cL_law 453 = .ok (.iaload, 1) := by decide +kernel
theorem dL_law_454 : decode cL_law 454 = .ok (.aload_n 0, 1) := by decide +kernel
theorem dL_law_455 : decode cL_law 455 = .ok (.iload_n 3, 1) := by decide +kernel
theorem dL_law_456 : decode cL_law 456 = .ok (.iconst 3, 1) := by decide +kernel
theorem dL_law_457 : decode cL_law 457 = .ok (.iadd, 1) := by decide +kernel
theorem dL_law_458 : decode cL_law 458 = .ok (.iaload, 1) := by decide +kernel
theorem dL_law_459 : decode cL_law 459 = .ok (.invokevirtual 45, 3) := by decide +kernel
theorem dL_law_462 : decode cL_law 462 = .ok (.aload_n 2, 1) := by decide +kernel
theorem dL_law_463 : decode cL_law 463 = .ok (.aload_n 0, 1) := by decide +kernel
theorem dL_law_464 : decode cL_law 464 = .ok (.iload_n 3, 1) := by decide +kernel
theorem dL_law_465 : decode cL_law 465 = .ok (.iconst 1, 1) := by decide +kernel
theorem dL_law_466 : decode cL_law 466 = .ok (.iadd, 1) := by decide +kernel
theorem dL_law_467 : decode cL_law 467 = .ok (.iaload, 1) := by decide +kernel
theorem dL_law_468 : decode cL_law 468 = .ok (.aload_n 0, 1) := by decide +kernel
theorem dL_law_469 : decode cL_law 469 = .ok (.iload_n 3, 1) := by decide +kernel
theorem dL_law_470 : decode cL_law 470 = .ok (.iconst 2, 1) := by decide +kernel
theorem dL_law_471 : decode cL_law 471 = .ok (.iadd, 1) := by decide +kernel
theorem dL_law_472 : decode cL_law 472 = .ok (.iaload, 1) := by decide +kernel
theorem dL_law_473 : decode cL_law 473 = .ok (.aload_n 0, 1) := by decide +kernel
theorem dL_law_474 : decode cL_law 474 = .ok (.iload_n 3, 1) := by decide +kernel
theorem dL_law_475 : decode cL_law 475 = .ok (.iconst 3, 1) := by decide +kernel
theorem dL_law_476 : decode cL_law 476 = .ok (.iadd, 1) := by decide +kernel
theorem dL_law_477 : decode cL_law 477 = .ok (.iaload, 1) := by decide +kernel
theorem dL_law_478 : decode cL_law 478 = .ok (.invokevirtual 48, 3) := by decide +kernel
theorem dL_law_481 : decode cL_law 481 = .ok (.if_icmp .eq 1005, 3) := by decide +kernel
theorem dL_law_484 : decode cL_law 484 = .ok (.iconst 0, 1) := by decide +kernel
theorem dL_law_485 : decode cL_law 485 = .ok (.ireturn, 1) := by decide +kernel
theorem dL_law_486 : decode cL_law 486 = .ok (.aload_n 1, 1) := by decide +kernel
theorem dL_law_487 : decode cL_law 487 = .ok (.aload_n 0, 1) := by decide +kernel
theorem dL_law_488 : decode cL_law 488 = .ok (.iload_n 3, 1) := by decide +kernel
theorem dL_law_489 : decode cL_law 489 = .ok (.iconst 1, 1) := by decide +kernel
theorem dL_law_490 : decode cL_law 490 = .ok (.iadd, 1) := by decide +kernel
theorem dL_law_491 : decode cL_law 491 = .ok (.iaload, 1) := by decide +kernel
theorem dL_law_492 : decode cL_law 492 = .ok (.invokevirtual 49, 3) := by decide +kernel
theorem dL_law_495 : decode cL_law 495 = .ok (.aload_n 2, 1) := by decide +kernel
theorem dL_law_496 : decode cL_law 496 = .ok (.aload_n 0, 1) := by decide +kernel
theorem dL_law_497 : decode cL_law 497 = .ok (.iload_n 3, 1) := by decide +kernel
theorem dL_law_498 : decode cL_law 498 = .ok (.iconst 1, 1) := by decide +kernel
theorem dL_law_499 : decode cL_law 499 = .ok (.iadd, 1) := by decide +kernel
theorem dL_law_500 : decode cL_law 500 = .ok (.iaload, 1) := by decide +kernel
theorem dL_law_501 : decode cL_law 501 = .ok (.invokevirtual 52, 3) := by decide +kernel
theorem dL_law_504 : decode cL_law 504 = .ok (.if_icmp .eq 982, 3) := by decide +kernel
theorem dL_law_507 : decode cL_law 507 = .ok (.iconst 0, 1) := by decide +kernel
theorem dL_law_508 : decode cL_law 508 = .ok (.ireturn, 1) := by decide +kernel
theorem dL_law_509 : decode cL_law 509 = .ok (.aload_n 1, 1) := by decide +kernel
theorem dL_law_510 : decode cL_law 510 = .ok (.aload_n 0, 1) := by decide +kernel
theorem dL_law_511 : decode cL_law 511 = .ok (.iload_n 3, 1) := by decide +kernel
theorem dL_law_512 : decode cL_law 512 = .ok (.iconst 1, 1) := by decide +kernel
theorem dL_law_513 : decode cL_law 513 = .ok (.iadd, 1) := by decide +kernel
theorem dL_law_514 : decode cL_law 514 = .ok (.iaload, 1) := by decide +kernel
theorem dL_law_515 : decode cL_law 515 = .ok (.aload_n 0, 1) := by decide +kernel
theorem dL_law_516 : decode cL_law 516 = .ok (.iload_n 3, 1) := by decide +kernel
theorem dL_law_517 : decode cL_law 517 = .ok (.iconst 2, 1) := by decide +kernel
theorem dL_law_518 : decode cL_law 518 = .ok (.iadd, 1) := by decide +kernel
theorem dL_law_519 : decode cL_law 519 = .ok (.iaload, 1) := by decide +kernel
theorem dL_law_520 : decode cL_law 520 = .ok (.invokevirtual 53, 3) := by decide +kernel
theorem dL_law_523 : decode cL_law 523 = .ok (.aload_n 2, 1) := by decide +kernel
theorem dL_law_524 : decode cL_law 524 = .ok (.aload_n 0, 1) := by decide +kernel
theorem dL_law_525 : decode cL_law 525 = .ok (.iload_n 3, 1) := by decide +kernel
theorem dL_law_526 : decode cL_law 526 = .ok (.iconst 1, 1) := by decide +kernel
theorem dL_law_527 : decode cL_law 527 = .ok (.iadd, 1) := by decide +kernel
theorem dL_law_528 : decode cL_law 528 = .ok (.iaload, 1) := by decide +kernel
theorem dL_law_529 : decode cL_law 529 = .ok (.aload_n 0, 1) := by decide +kernel
theorem dL_law_530 : decode cL_law 530 = .ok (.iload_n 3, 1) := by decide +kernel
theorem dL_law_531 : decode cL_law 531 = .ok (.iconst 2, 1) := by decide +kernel
theorem dL_law_532 : decode cL_law 532 = .ok (.iadd, 1) := by decide +kernel
theorem dL_law_533 : decode cL_law 533 = .ok (.iaload, 1) := by decide +kernel
theorem dL_law_534 : decode cL_law 534 = .ok (.invokevirtual 56, 3) := by decide +kernel
theorem dL_law_537 : decode cL_law 537 = .ok (.if_icmp .eq 949, 3) := by decide +kernel
theorem dL_law_540 : decode cL_law 540 = .ok (.iconst 0, 1) := by decide +kernel
theorem dL_law_541 : decode cL_law 541 = .ok (.ireturn, 1) := by decide +kernel
theorem dL_law_542 : decode cL_law 542 = .ok (.aload_n 1, 1) := by decide +kernel
theorem dL_law_543 : decode cL_law 543 = .ok (.aload_n 0, 1) := by decide +kernel
theorem dL_law_544 : decode cL_law 544 = .ok (.iload_n 3, 1) := by decide +kernel
theorem dL_law_545 : decode cL_law 545 = .ok (.iconst 1, 1) := by decide +kernel
theorem dL_law_546 : decode cL_law 546 = .ok (.iadd, 1) := by decide +kernel
theorem dL_law_547 : decode cL_law 547 = .ok (.iaload, 1) := by decide +kernel
theorem dL_law_548 : decode cL_law 548 = .ok (.aload_n 0, 1) := by decide +kernel
theorem dL_law_549 : decode cL_law 549 = .ok (.iload_n 3, 1) := by decide +kernel
theorem dL_law_550 : decode cL_law 550 = .ok (.iconst 2, 1) := by decide +kernel
theorem dL_law_551 : decode cL_law 551 = .ok (.iadd, 1) := by decide +kernel
theorem dL_law_552 : decode cL_law 552 = .ok (.iaload, 1) := by decide +kernel
theorem dL_law_553 : decode cL_law 553 = .ok (.invokevirtual 57, 3) := by decide +kernel
theorem dL_law_556 : decode cL_law 556 = .ok (.aload_n 2, 1) := by decide +kernel
theorem dL_law_557 : decode cL_law 557 = .ok (.aload_n 0, 1) := by decide +kernel
theorem dL_law_558 : decode cL_law 558 = .ok (.iload_n 3, 1) := by decide +kernel
theorem dL_law_559 : decode cL_law 559 = .ok (.iconst 1, 1) := by decide +kernel
theorem dL_law_560 : decode cL_law 560 = .ok (.iadd, 1) := by decide +kernel
theorem dL_law_561 : decode cL_law 561 = .ok (.iaload, 1) := by decide +kernel
theorem dL_law_562 : decode cL_law 562 = .ok (.aload_n 0, 1) := by decide +kernel
theorem dL_law_563 : decode cL_law 563 = .ok (.iload_n 3, 1) := by decide +kernel
theorem dL_law_564 : decode cL_law 564 = .ok (.iconst 2, 1) := by decide +kernel
theorem dL_law_565 : decode cL_law 565 = .ok (.iadd, 1) := by decide +kernel
theorem dL_law_566 : decode cL_law 566 = .ok (.iaload, 1) := by decide +kernel
theorem dL_law_567 : decode cL_law 567 = .ok (.invokevirtual 60, 3) := by decide +kernel
theorem dL_law_570 : decode cL_law 570 = .ok (.if_icmp .eq 916, 3) := by decide +kernel
theorem dL_law_573 : decode cL_law 573 = .ok (.iconst 0, 1) := by decide +kernel
theorem dL_law_574 : decode cL_law 574 = .ok (.ireturn, 1) := by decide +kernel
theorem dL_law_575 : decode cL_law 575 = .ok (.aload_n 1, 1) := by decide +kernel
theorem dL_law_576 : decode cL_law 576 = .ok (.aload_n 0, 1) := by decide +kernel
theorem dL_law_577 : decode cL_law 577 = .ok (.iload_n 3, 1) := by decide +kernel
theorem dL_law_578 : decode cL_law 578 = .ok (.iconst 1, 1) := by decide +kernel
theorem dL_law_579 : decode cL_law 579 = .ok (.iadd, 1) := by decide +kernel
theorem dL_law_580 : decode cL_law 580 = .ok (.iaload, 1) := by decide +kernel
theorem dL_law_581 : decode cL_law 581 = .ok (.aload_n 0, 1) := by decide +kernel
theorem dL_law_582 : decode cL_law 582 = .ok (.iload_n 3, 1) := by decide +kernel
theorem dL_law_583 : decode cL_law 583 = .ok (.iconst 2, 1) := by decide +kernel
theorem dL_law_584 : decode cL_law 584 = .ok (.iadd, 1) := by decide +kernel
theorem dL_law_585 : decode cL_law 585 = .ok (.iaload, 1) := by decide +kernel
theorem dL_law_586 : decode cL_law 586 = .ok (.invokevirtual 61, 3) := by decide +kernel
theorem dL_law_589 : decode cL_law 589 = .ok (.aload_n 2, 1) := by decide +kernel
theorem dL_law_590 : decode cL_law 590 = .ok (.aload_n 0, 1) := by decide +kernel
theorem dL_law_591 : decode cL_law 591 = .ok (.iload_n 3, 1) := by decide +kernel
theorem dL_law_592 : decode cL_law 592 = .ok (.iconst 1, 1) := by decide +kernel
theorem dL_law_593 : decode cL_law 593 = .ok (.iadd, 1) := by decide +kernel
theorem dL_law_594 : decode cL_law 594 = .ok (.iaload, 1) := by decide +kernel
theorem dL_law_595 : decode cL_law 595 = .ok (.aload_n 0, 1) := by decide +kernel
theorem dL_law_596 : decode cL_law 596 = .ok (.iload_n 3, 1) := by decide +kernel
theorem dL_law_597 : decode cL_law 597 = .ok (.iconst 2, 1) := by decide +kernel
theorem dL_law_598 : decode cL_law 598 = .ok (.iadd, 1) := by decide +kernel
theorem dL_law_599 : decode cL_law 599 = .ok (.iaload, 1) := by decide +kernel
theorem dL_law_600 : decode cL_law 600 = .ok (.invokevirtual 64, 3) := by decide +kernel
theorem dL_law_603 : decode cL_law 603 = .ok (.if_icmp .eq 883, 3) := by decide +kernel
theorem dL_law_606 : decode cL_law 606 = .ok (.iconst 0, 1) := by decide +kernel
theorem dL_law_607 : decode cL_law 607 = .ok (.ireturn, 1) := by decide +kernel
theorem dL_law_608 : decode cL_law 608 = .ok (.aload_n 1, 1) := by decide +kernel
theorem dL_law_609 : decode cL_law 609 = .ok (.aload_n 0, 1) := by decide +kernel
theorem dL_law_610 : decode cL_law 610 = .ok (.iload_n 3, 1) := by decide +kernel
theorem dL_law_611 : decode cL_law 611 = .ok (.iconst 1, 1) := by decide +kernel
theorem dL_law_612 : decode cL_law 612 = .ok (.iadd, 1) := by decide +kernel
theorem dL_law_613 : decode cL_law 613 = .ok (.iaload, 1) := by decide +kernel
theorem dL_law_614 : decode cL_law 614 = .ok (.invokevirtual 65, 3) := by decide +kernel
theorem dL_law_617 : decode cL_law 617 = .ok (.aload_n 2, 1) := by decide +kernel
theorem dL_law_618 : decode cL_law 618 = .ok (.aload_n 0, 1) := by decide +kernel
theorem dL_law_619 : decode cL_law 619 = .ok (.iload_n 3, 1) := by decide +kernel
theorem dL_law_620 : decode cL_law 620 = .ok (.iconst 1, 1) := by decide +kernel
theorem dL_law_621 : decode cL_law 621 = .ok (.iadd, 1) := by decide +kernel
theorem dL_law_622 : decode cL_law 622 = .ok (.iaload, 1) := by decide +kernel
theorem dL_law_623 : decode cL_law 623 = .ok (.invokevirtual 68, 3) := by decide +kernel
theorem dL_law_626 : decode cL_law 626 = .ok (.if_icmp .eq 860, 3) := by decide +kernel
theorem dL_law_629 : decode cL_law 629 = .ok (.iconst 0, 1) := by decide +kernel
theorem dL_law_630 : decode cL_law 630 = .ok (.ireturn, 1) := by decide +kernel
theorem dL_law_631 : decode cL_law 631 = .ok (.aload_n 1, 1) := by decide +kernel
theorem dL_law_632 : decode cL_law 632 = .ok (.aload_n 0, 1) := by decide +kernel
theorem dL_law_633 : decode cL_law 633 = .ok (.iload_n 3, 1) := by decide +kernel
theorem dL_law_634 : decode cL_law 634 = .ok (.iconst 1, 1) := by decide +kernel
theorem dL_law_635 : decode cL_law 635 = .ok (.iadd, 1) := by decide +kernel
theorem dL_law_636 : decode cL_law 636 = .ok (.iaload, 1) := by decide +kernel
theorem dL_law_637 : decode cL_law 637 = .ok (.aload_n 0, 1) := by decide +kernel
theorem dL_law_638 : decode cL_law 638 = .ok (.iload_n 3, 1) := by decide +kernel
theorem dL_law_639 : decode cL_law 639 = .ok (.iconst 2, 1) := by decide +kernel
theorem dL_law_640 : decode cL_law 640 = .ok (.iadd, 1) := by decide +kernel
theorem dL_law_641 : decode cL_law 641 = .ok (.iaload, 1) := by decide +kernel
theorem dL_law_642 : decode cL_law 642 = .ok (.invokevirtual 69, 3) := by decide +kernel
theorem dL_law_645 : decode cL_law 645 = .ok (.aload_n 2, 1) := by decide +kernel
theorem dL_law_646 : decode cL_law 646 = .ok (.aload_n 0, 1) := by decide +kernel
theorem dL_law_647 : decode cL_law 647 = .ok (.iload_n 3, 1) := by decide +kernel
theorem dL_law_648 : decode cL_law 648 = .ok (.iconst 1, 1) := by decide +kernel
theorem dL_law_649 : decode cL_law 649 = .ok (.iadd, 1) := by decide +kernel
theorem dL_law_650 : decode cL_law 650 = .ok (.iaload, 1) := by decide +kernel
theorem dL_law_651 : decode cL_law 651 = .ok (.aload_n 0, 1) := by decide +kernel
theorem dL_law_652 : decode cL_law 652 = .ok (.iload_n 3, 1) := by decide +kernel
theorem dL_law_653 : decode cL_law 653 = .ok (.iconst 2, 1) := by decide +kernel
theorem dL_law_654 : decode cL_law 654 = .ok (.iadd, 1) := by decide +kernel
theorem dL_law_655 : decode cL_law 655 = .ok (.iaload, 1) := by decide +kernel
theorem dL_law_656 : decode cL_law 656 = .ok (.invokevirtual 72, 3) := by decide +kernel
theorem dL_law_659 : decode cL_law 659 = .ok (.if_icmp .eq 827, 3) := by decide +kernel
theorem dL_law_662 : decode cL_law 662 = .ok (.iconst 0, 1) := by decide +kernel
theorem dL_law_663 : decode cL_law 663 = .ok (.ireturn, 1) := by decide +kernel
theorem dL_law_664 : decode cL_law 664 = .ok (.aload_n 1, 1) := by decide +kernel
theorem dL_law_665 : decode cL_law 665 = .ok (.aload_n 0, 1) := by decide +kernel
theorem dL_law_666 : decode cL_law 666 = .ok (.iload_n 3, 1) := by decide +kernel
theorem dL_law_667 : decode cL_law 667 = .ok (.iconst 1, 1) := by decide +kernel
theorem dL_law_668 : decode cL_law 668 = .ok (.iadd, 1) := by decide +kernel
theorem dL_law_669 : decode cL_law 669 = .ok (.iaload, 1) := by decide +kernel
theorem dL_law_670 : decode cL_law 670 = .ok (.aload_n 0, 1) := by decide +kernel
theorem dL_law_671 : decode cL_law 671 = .ok (.iload_n 3, 1) := by decide +kernel
theorem dL_law_672 : decode cL_law 672 = .ok (.iconst 2, 1) := by decide +kernel
theorem dL_law_673 : decode cL_law 673 = .ok (.iadd, 1) := by decide +kernel
theorem dL_law_674 : decode cL_law 674 = .ok (.iaload, 1) := by decide +kernel
theorem dL_law_675 : decode cL_law 675 = .ok (.aload_n 0, 1) := by decide +kernel
theorem dL_law_676 : decode cL_law 676 = .ok (.iload_n 3, 1) := by decide +kernel
theorem dL_law_677 : decode cL_law 677 = .ok (.iconst 3, 1) := by decide +kernel
theorem dL_law_678 : decode cL_law 678 = .ok (.iadd, 1) := by decide +kernel
theorem dL_law_679 : decode cL_law 679 = .ok (.iaload, 1) := by decide +kernel
theorem dL_law_680 : decode cL_law 680 = .ok (.invokevirtual 73, 3) := by decide +kernel
theorem dL_law_683 : decode cL_law 683 = .ok (.aload_n 2, 1) := by decide +kernel
theorem dL_law_684 : decode cL_law 684 = .ok (.aload_n 0, 1) := by decide +kernel
theorem dL_law_685 : decode cL_law 685 = .ok (.iload_n 3, 1) := by decide +kernel
theorem dL_law_686 : decode cL_law 686 = .ok (.iconst 1, 1) := by decide +kernel
theorem dL_law_687 : decode cL_law 687 = .ok (.iadd, 1) := by decide +kernel
theorem dL_law_688 : decode cL_law 688 = .ok (.iaload, 1) := by decide +kernel
theorem dL_law_689 : decode cL_law 689 = .ok (.aload_n 0, 1) := by decide +kernel
theorem dL_law_690 : decode cL_law 690 = .ok (.iload_n 3, 1) := by decide +kernel
theorem dL_law_691 : decode cL_law 691 = .ok (.iconst 2, 1) := by decide +kernel
theorem dL_law_692 : decode cL_law 692 = .ok (.iadd, 1) := by decide +kernel
theorem dL_law_693 : decode cL_law 693 = .ok (.iaload, 1) := by decide +kernel
theorem dL_law_694 : decode cL_law 694 = .ok (.aload_n 0, 1) := by decide +kernel
theorem dL_law_695 : decode cL_law 695 = .ok (.iload_n 3, 1) := by decide +kernel
theorem dL_law_696 : decode cL_law 696 = .ok (.iconst 3, 1) := by decide +kernel
theorem dL_law_697 : decode cL_law 697 = .ok (.iadd, 1) := by decide +kernel
theorem dL_law_698 : decode cL_law 698 = .ok (.iaload, 1) := by decide +kernel
theorem dL_law_699 : decode cL_law 699 = .ok (.invokevirtual 76, 3) := by decide +kernel
theorem dL_law_702 : decode cL_law 702 = .ok (.if_icmp .eq 784, 3) := by decide +kernel
theorem dL_law_705 : decode cL_law 705 = .ok (.iconst 0, 1) := by decide +kernel
theorem dL_law_706 : decode cL_law 706 = .ok (.ireturn, 1) := by decide +kernel
theorem dL_law_707 : decode cL_law 707 = .ok (.aload_n 1, 1) := by decide +kernel
theorem dL_law_708 : decode cL_law 708 = .ok (.aload_n 0, 1) := by decide +kernel
theorem dL_law_709 : decode cL_law 709 = .ok (.iload_n 3, 1) := by decide +kernel
theorem dL_law_710 : decode cL_law 710 = .ok (.iconst 1, 1) := by decide +kernel
theorem dL_law_711 : decode cL_law 711 = .ok (.iadd, 1) := by decide +kernel
theorem dL_law_712 : decode cL_law 712 = .ok (.iaload, 1) := by decide +kernel
theorem dL_law_713 : decode cL_law 713 = .ok (.invokevirtual 77, 3) := by decide +kernel
theorem dL_law_716 : decode cL_law 716 = .ok (.aload_n 2, 1) := by decide +kernel
theorem dL_law_717 : decode cL_law 717 = .ok (.aload_n 0, 1) := by decide +kernel
theorem dL_law_718 : decode cL_law 718 = .ok (.iload_n 3, 1) := by decide +kernel
theorem dL_law_719 : decode cL_law 719 = .ok (.iconst 1, 1) := by decide +kernel
theorem dL_law_720 : decode cL_law 720 = .ok (.iadd, 1) := by decide +kernel
theorem dL_law_721 : decode cL_law 721 = .ok (.iaload, 1) := by decide +kernel
theorem dL_law_722 : decode cL_law 722 = .ok (.invokevirtual 80, 3) := by decide +kernel
theorem dL_law_725 : decode cL_law 725 = .ok (.if_icmp .eq 761, 3) := by decide +kernel
theorem dL_law_728 : decode cL_law 728 = .ok (.iconst 0, 1) := by decide +kernel
theorem dL_law_729 : decode cL_law 729 = .ok (.ireturn, 1) := by decide +kernel
theorem dL_law_730 : decode cL_law 730 = .ok (.aload_n 1, 1) := by decide +kernel
theorem dL_law_731 : decode cL_law 731 = .ok (.aload_n 0, 1) := by decide +kernel
theorem dL_law_732 : decode cL_law 732 = .ok (.iload_n 3, 1) := by decide +kernel
theorem dL_law_733 : decode cL_law 733 = .ok (.iconst 1, 1) := by decide +kernel
theorem dL_law_734 : decode cL_law 734 = .ok (.iadd, 1) := by decide +kernel
theorem dL_law_735 : decode cL_law 735 = .ok (.iaload, 1) := by decide +kernel
theorem dL_law_736 : decode cL_law 736 = .ok (.invokevirtual 81, 3) := by decide +kernel
theorem dL_law_739 : decode cL_law 739 = .ok (.aload_n 2, 1) := by decide +kernel
theorem dL_law_740 : decode cL_law 740 = .ok (.aload_n 0, 1) := by decide +kernel
theorem dL_law_741 : decode cL_law 741 = .ok (.iload_n 3, 1) := by decide +kernel
theorem dL_law_742 : decode cL_law 742 = .ok (.iconst 1, 1) := by decide +kernel
theorem dL_law_743 : decode cL_law 743 = .ok (.iadd, 1) := by decide +kernel
theorem dL_law_744 : decode cL_law 744 = .ok (.iaload, 1) := by decide +kernel
theorem dL_law_745 : decode cL_law 745 = .ok (.invokevirtual 84, 3) := by decide +kernel
theorem dL_law_748 : decode cL_law 748 = .ok (.if_icmp .eq 738, 3) := by decide +kernel
theorem dL_law_751 : decode cL_law 751 = .ok (.iconst 0, 1) := by decide +kernel
theorem dL_law_752 : decode cL_law 752 = .ok (.ireturn, 1) := by decide +kernel
theorem dL_law_753 : decode cL_law 753 = .ok (.aload_n 1, 1) := by decide +kernel
theorem dL_law_754 : decode cL_law 754 = .ok (.aload_n 0, 1) := by decide +kernel
theorem dL_law_755 : decode cL_law 755 = .ok (.iload_n 3, 1) := by decide +kernel
theorem dL_law_756 : decode cL_law 756 = .ok (.iconst 1, 1) := by decide +kernel
theorem dL_law_757 : decode cL_law 757 = .ok (.iadd, 1) := by decide +kernel
theorem dL_law_758 : decode cL_law 758 = .ok (.iaload, 1) := by decide +kernel
theorem dL_law_759 : decode cL_law 759 = .ok (.invokevirtual 85, 3) := by decide +kernel
theorem dL_law_762 : decode cL_law 762 = .ok (.aload_n 2, 1) := by decide +kernel
theorem dL_law_763 : decode cL_law 763 = .ok (.aload_n 0, 1) := by decide +kernel
theorem dL_law_764 : decode cL_law 764 = .ok (.iload_n 3, 1) := by decide +kernel
theorem dL_law_765 : decode cL_law 765 = .ok (.iconst 1, 1) := by decide +kernel
theorem dL_law_766 : decode cL_law 766 = .ok (.iadd, 1) := by decide +kernel
theorem dL_law_767 : decode cL_law 767 = .ok (.iaload, 1) := by decide +kernel
theorem dL_law_768 : decode cL_law 768 = .ok (.invokevirtual 88, 3) := by decide +kernel
theorem dL_law_771 : decode cL_law 771 = .ok (.if_icmp .eq 715, 3) := by decide +kernel
theorem dL_law_774 : decode cL_law 774 = .ok (.iconst 0, 1) := by decide +kernel
theorem dL_law_775 : decode cL_law 775 = .ok (.ireturn, 1) := by decide +kernel
theorem dL_law_776 : decode cL_law 776 = .ok (.aload_n 1, 1) := by decide +kernel
theorem dL_law_777 : decode cL_law 777 = .ok (.aload_n 0, 1) := by decide +kernel
theorem dL_law_778 : decode cL_law 778 = .ok (.iload_n 3, 1) := by decide +kernel
theorem dL_law_779 : decode cL_law 779 = .ok (.iconst 1, 1) := by decide +kernel
theorem dL_law_780 : decode cL_law 780 = .ok (.iadd, 1) := by decide +kernel
theorem dL_law_781 : decode cL_law 781 = .ok (.iaload, 1) := by decide +kernel
theorem dL_law_782 : decode cL_law 782 = .ok (.aload_n 0, 1) := by decide +kernel
theorem dL_law_783 : decode cL_law 783 = .ok (.iload_n 3, 1) := by decide +kernel
theorem dL_law_784 : decode cL_law 784 = .ok (.iconst 2, 1) := by decide +kernel
theorem dL_law_785 : decode cL_law 785 = .ok (.iadd, 1) := by decide +kernel
theorem dL_law_786 : decode cL_law 786 = .ok (.iaload, 1) := by decide +kernel
theorem dL_law_787 : decode cL_law 787 = .ok (.aload_n 0, 1) := by decide +kernel
theorem dL_law_788 : decode cL_law 788 = .ok (.iload_n 3, 1) := by decide +kernel
theorem dL_law_789 : decode cL_law 789 = .ok (.iconst 3, 1) := by decide +kernel
theorem dL_law_790 : decode cL_law 790 = .ok (.iadd, 1) := by decide +kernel
theorem dL_law_791 : decode cL_law 791 = .ok (.iaload, 1) := by decide +kernel
theorem dL_law_792 : decode cL_law 792 = .ok (.invokevirtual 89, 3) := by decide +kernel
theorem dL_law_795 : decode cL_law 795 = .ok (.aload_n 2, 1) := by decide +kernel
theorem dL_law_796 : decode cL_law 796 = .ok (.aload_n 0, 1) := by decide +kernel
theorem dL_law_797 : decode cL_law 797 = .ok (.iload_n 3, 1) := by decide +kernel
theorem dL_law_798 : decode cL_law 798 = .ok (.iconst 1, 1) := by decide +kernel
theorem dL_law_799 : decode cL_law 799 = .ok (.iadd, 1) := by decide +kernel
theorem dL_law_800 : decode cL_law 800 = .ok (.iaload, 1) := by decide +kernel
theorem dL_law_801 : decode cL_law 801 = .ok (.aload_n 0, 1) := by decide +kernel
theorem dL_law_802 : decode cL_law 802 = .ok (.iload_n 3, 1) := by decide +kernel
theorem dL_law_803 : decode cL_law 803 = .ok (.iconst 2, 1) := by decide +kernel
theorem dL_law_804 : decode cL_law 804 = .ok (.iadd, 1) := by decide +kernel
theorem dL_law_805 : decode cL_law 805 = .ok (.iaload, 1) := by decide +kernel
theorem dL_law_806 : decode cL_law 806 = .ok (.aload_n 0, 1) := by decide +kernel
theorem dL_law_807 : decode cL_law 807 = .ok (.iload_n 3, 1) := by decide +kernel
theorem dL_law_808 : decode cL_law 808 = .ok (.iconst 3, 1) := by decide +kernel
theorem dL_law_809 : decode cL_law 809 = .ok (.iadd, 1) := by decide +kernel
theorem dL_law_810 : decode cL_law 810 = .ok (.iaload, 1) := by decide +kernel
theorem dL_law_811 : decode cL_law 811 = .ok (.invokevirtual 92, 3) := by decide +kernel
theorem dL_law_814 : decode cL_law 814 = .ok (.if_icmp .eq 672, 3) := by decide +kernel
theorem dL_law_817 : decode cL_law 817 = .ok (.iconst 0, 1) := by decide +kernel
theorem dL_law_818 : decode cL_law 818 = .ok (.ireturn, 1) := by decide +kernel
theorem dL_law_819 : decode cL_law 819 = .ok (.aload_n 1, 1) := by decide +kernel
theorem dL_law_820 : decode cL_law 820 = .ok (.aload_n 0, 1) := by decide +kernel
theorem dL_law_821 : decode cL_law 821 = .ok (.iload_n 3, 1) := by decide +kernel
theorem dL_law_822 : decode cL_law 822 = .ok (.iconst 1, 1) := by decide +kernel
theorem dL_law_823 : decode cL_law 823 = .ok (.iadd, 1) := by decide +kernel
theorem dL_law_824 : decode cL_law 824 = .ok (.iaload, 1) := by decide +kernel
theorem dL_law_825 : decode cL_law 825 = .ok (.invokevirtual 93, 3) := by decide +kernel
theorem dL_law_828 : decode cL_law 828 = .ok (.aload_n 2, 1) := by decide +kernel
theorem dL_law_829 : decode cL_law 829 = .ok (.aload_n 0, 1) := by decide +kernel
theorem dL_law_830 : decode cL_law 830 = .ok (.iload_n 3, 1) := by decide +kernel
theorem dL_law_831 : decode cL_law 831 = .ok (.iconst 1, 1) := by decide +kernel
theorem dL_law_832 : decode cL_law 832 = .ok (.iadd, 1) := by decide +kernel
theorem dL_law_833 : decode cL_law 833 = .ok (.iaload, 1) := by decide +kernel
theorem dL_law_834 : decode cL_law 834 = .ok (.invokevirtual 96, 3) := by decide +kernel
theorem dL_law_837 : decode cL_law 837 = .ok (.if_icmp .eq 649, 3) := by decide +kernel
theorem dL_law_840 : decode cL_law 840 = .ok (.iconst 0, 1) := by decide +kernel
theorem dL_law_841 : decode cL_law 841 = .ok (.ireturn, 1) := by decide +kernel
theorem dL_law_842 : decode cL_law 842 = .ok (.aload_n 1, 1) := by decide +kernel
theorem dL_law_843 : decode cL_law 843 = .ok (.aload_n 0, 1) := by decide +kernel
theorem dL_law_844 : decode cL_law 844 = .ok (.iload_n 3, 1) := by decide +kernel
theorem dL_law_845 : decode cL_law 845 = .ok (.iconst 1, 1) := by decide +kernel
theorem dL_law_846 : decode cL_law 846 = .ok (.iadd, 1) := by decide +kernel
theorem dL_law_847 : decode cL_law 847 = .ok (.iaload, 1) := by decide +kernel
theorem dL_law_848 : decode cL_law 848 = .ok (.aload_n 0, 1) := by decide +kernel
theorem dL_law_849 : decode cL_law 849 = .ok (.iload_n 3, 1) := by decide +kernel
theorem dL_law_850 : decode cL_law 850 = .ok (.iconst 2, 1) := by decide +kernel
theorem dL_law_851 : decode cL_law 851 = .ok (.iadd, 1) := by decide +kernel
theorem dL_law_852 : decode cL_law 852 = .ok (.iaload, 1) := by decide +kernel
theorem dL_law_853 : decode cL_law 853 = .ok (.aload_n 0, 1) := by decide +kernel
theorem dL_law_854 : decode cL_law 854 = .ok (.iload_n 3, 1) := by decide +kernel
theorem dL_law_855 : decode cL_law 855 = .ok (.iconst 3, 1) := by decide +kernel
theorem dL_law_856 : decode cL_law 856 = .ok (.iadd, 1) := by decide +kernel
theorem dL_law_857 : decode cL_law 857 = .ok (.iaload, 1) := by decide +kernel
theorem dL_law_858 : decode cL_law 858 = .ok (.invokevirtual 97, 3) := by decide +kernel
theorem dL_law_861 : decode cL_law 861 = .ok (.aload_n 2, 1) := by decide +kernel
theorem dL_law_862 : decode cL_law 862 = .ok (.aload_n 0, 1) := by decide +kernel
theorem dL_law_863 : decode cL_law 863 = .ok (.iload_n 3, 1) := by decide +kernel
theorem dL_law_864 : decode cL_law 864 = .ok (.iconst 1, 1) := by decide +kernel
theorem dL_law_865 : decode cL_law 865 = .ok (.iadd, 1) := by decide +kernel
theorem dL_law_866 : decode cL_law 866 = .ok (.iaload, 1) := by decide +kernel
theorem dL_law_867 : decode cL_law 867 = .ok (.aload_n 0, 1) := by decide +kernel
theorem dL_law_868 : decode cL_law 868 = .ok (.iload_n 3, 1) := by decide +kernel
theorem dL_law_869 : decode cL_law 869 = .ok (.iconst 2, 1) := by decide +kernel
theorem dL_law_870 : decode cL_law 870 = .ok (.iadd, 1) := by decide +kernel
theorem dL_law_871 : decode cL_law 871 = .ok (.iaload, 1) := by decide +kernel
theorem dL_law_872 : decode cL_law 872 = .ok (.aload_n 0, 1) := by decide +kernel
theorem dL_law_873 : decode cL_law 873 = .ok (.iload_n 3, 1) := by decide +kernel
theorem dL_law_874 : decode cL_law 874 = .ok (.iconst 3, 1) := by decide +kernel
theorem dL_law_875 : decode cL_law 875 = .ok (.iadd, 1) := by decide +kernel
theorem dL_law_876 : decode cL_law 876 = .ok (.iaload, 1) := by decide +kernel
theorem dL_law_877 : decode cL_law 877 = .ok (.invokevirtual 100, 3) := by decide +kernel
theorem dL_law_880 : decode cL_law 880 = .ok (.if_icmp .eq 606, 3) := by decide +kernel
theorem dL_law_883 : decode cL_law 883 = .ok (.iconst 0, 1) := by decide +kernel
theorem dL_law_884 : decode cL_law 884 = .ok (.ireturn, 1) := by decide +kernel
theorem dL_law_885 : decode cL_law 885 = .ok (.aload_n 1, 1) := by decide +kernel
theorem dL_law_886 : decode cL_law 886 = .ok (.aload_n 0, 1) := by decide +kernel
theorem dL_law_887 : decode cL_law 887 = .ok (.iload_n 3, 1) := by decide +kernel
theorem dL_law_888 : decode cL_law 888 = .ok (.iconst 1, 1) := by decide +kernel
theorem dL_law_889 : decode cL_law 889 = .ok (.iadd, 1) := by decide +kernel
theorem dL_law_890 : decode cL_law 890 = .ok (.iaload, 1) := by decide +kernel
theorem dL_law_891 : decode cL_law 891 = .ok (.aload_n 0, 1) := by decide +kernel
theorem dL_law_892 : decode cL_law 892 = .ok (.iload_n 3, 1) := by decide +kernel
theorem dL_law_893 : decode cL_law 893 = .ok (.iconst 2, 1) := by decide +kernel
theorem dL_law_894 : decode cL_law 894 = .ok (.iadd, 1) := by decide +kernel
theorem dL_law_895 : decode cL_law 895 = .ok (.iaload, 1) := by decide +kernel
theorem dL_law_896 : decode cL_law 896 = .ok (.aload_n 0, 1) := by decide +kernel
theorem dL_law_897 : decode cL_law 897 = .ok (.iload_n 3, 1) := by decide +kernel
theorem dL_law_898 : decode cL_law 898 = .ok (.iconst 3, 1) := by decide +kernel
theorem dL_law_899 : decode cL_law 899 = .ok (.iadd, 1) := by decide +kernel
theorem dL_law_900 : decode cL_law 900 = .ok (.iaload, 1) := by decide +kernel
theorem dL_law_901 : decode cL_law 901 = .ok (.invokevirtual 101, 3) := by decide +kernel
theorem dL_law_904 : decode cL_law 904 = .ok (.aload_n 2, 1) := by decide +kernel
theorem dL_law_905 : decode cL_law 905 = .ok (.aload_n 0, 1) := by decide +kernel
theorem dL_law_906 : decode cL_law 906 = .ok (.iload_n 3, 1) := by decide +kernel
theorem dL_law_907 : decode cL_law 907 = .ok (.iconst 1, 1) := by decide +kernel
theorem dL_law_908 : decode cL_law 908 = .ok (.iadd, 1) := by decide +kernel
theorem dL_law_909 : decode cL_law 909 = .ok (.iaload, 1) := by decide +kernel
theorem dL_law_910 : decode cL_law 910 = .ok (.aload_n 0, 1) := by decide +kernel
theorem dL_law_911 : decode cL_law 911 = .ok (.iload_n 3, 1) := by decide +kernel
theorem dL_law_912 : decode cL_law 912 = .ok (.iconst 2, 1) := by decide +kernel
theorem dL_law_913 : decode cL_law 913 = .ok (.iadd, 1) := by decide +kernel
theorem dL_law_914 : decode cL_law 914 = .ok (.iaload, 1) := by decide +kernel
theorem dL_law_915 : decode cL_law 915 = .ok (.aload_n 0, 1) := by decide +kernel
theorem dL_law_916 : decode cL_law 916 = .ok (.iload_n 3, 1) := by decide +kernel
theorem dL_law_917 : decode cL_law 917 = .ok (.iconst 3, 1) := by decide +kernel
theorem dL_law_918 : decode cL_law 918 = .ok (.iadd, 1) := by decide +kernel
theorem dL_law_919 : decode cL_law 919 = .ok (.iaload, 1) := by decide +kernel
theorem dL_law_920 : decode cL_law 920 = .ok (.invokevirtual 104, 3) := by decide +kernel
theorem dL_law_923 : decode cL_law 923 = .ok (.if_icmp .eq 563, 3) := by decide +kernel
theorem dL_law_926 : decode cL_law 926 = .ok (.iconst 0, 1) := by decide +kernel
theorem dL_law_927 : decode cL_law 927 = .ok (.ireturn, 1) := by decide +kernel
theorem dL_law_928 : decode cL_law 928 = .ok (.aload_n 1, 1) := by decide +kernel
theorem dL_law_929 : decode cL_law 929 = .ok (.aload_n 0, 1) := by decide +kernel
theorem dL_law_930 : decode cL_law 930 = .ok (.iload_n 3, 1) := by decide +kernel
theorem dL_law_931 : decode cL_law 931 = .ok (.iconst 1, 1) := by decide +kernel
theorem dL_law_932 : decode cL_law 932 = .ok (.iadd, 1) := by decide +kernel
theorem dL_law_933 : decode cL_law 933 = .ok (.iaload, 1) := by decide +kernel
theorem dL_law_934 : decode cL_law 934 = .ok (.aload_n 0, 1) := by decide +kernel
theorem dL_law_935 : decode cL_law 935 = .ok (.iload_n 3, 1) := by decide +kernel
theorem dL_law_936 : decode cL_law 936 = .ok (.iconst 2, 1) := by decide +kernel
theorem dL_law_937 : decode cL_law 937 = .ok (.iadd, 1) := by decide +kernel
theorem dL_law_938 : decode cL_law 938 = .ok (.iaload, 1) := by decide +kernel
theorem dL_law_939 : decode cL_law 939 = .ok (.invokevirtual 105, 3) := by decide +kernel
theorem dL_law_942 : decode cL_law 942 = .ok (.aload_n 2, 1) := by decide +kernel
theorem dL_law_943 : decode cL_law 943 = .ok (.aload_n 0, 1) := by decide +kernel
theorem dL_law_944 : decode cL_law 944 = .ok (.iload_n 3, 1) := by decide +kernel
theorem dL_law_945 : decode cL_law 945 = .ok (.iconst 1, 1) := by decide +kernel
theorem dL_law_946 : decode cL_law 946 = .ok (.iadd, 1) := by decide +kernel
theorem dL_law_947 : decode cL_law 947 = .ok (.iaload, 1) := by decide +kernel
theorem dL_law_948 : decode cL_law 948 = .ok (.aload_n 0, 1) := by decide +kernel
theorem dL_law_949 : decode cL_law 949 = .ok (.iload_n 3, 1) := by decide +kernel
theorem dL_law_950 : decode cL_law 950 = .ok (.iconst 2, 1) := by decide +kernel
theorem dL_law_951 : decode cL_law 951 = .ok (.iadd, 1) := by decide +kernel
theorem dL_law_952 : decode cL_law 952 = .ok (.iaload, 1) := by decide +kernel
theorem dL_law_953 : decode cL_law 953 = .ok (.invokevirtual 108, 3) := by decide +kernel
theorem dL_law_956 : decode cL_law 956 = .ok (.if_icmp .eq 530, 3) := by decide +kernel
theorem dL_law_959 : decode cL_law 959 = .ok (.iconst 0, 1) := by decide +kernel
theorem dL_law_960 : decode cL_law 960 = .ok (.ireturn, 1) := by decide +kernel
theorem dL_law_961 : decode cL_law 961 = .ok (.aload_n 1, 1) := by decide +kernel
theorem dL_law_962 : decode cL_law 962 = .ok (.invokevirtual 109, 3) := by decide +kernel
theorem dL_law_965 : decode cL_law 965 = .ok (.aload_n 2, 1) := by decide +kernel
theorem dL_law_966 : decode cL_law 966 = .ok (.invokevirtual 112, 3) := by decide +kernel
theorem dL_law_969 : decode cL_law 969 = .ok (.if_icmp .eq 517, 3) := by decide +kernel
theorem dL_law_972 : decode cL_law 972 = .ok (.iconst 0, 1) := by decide +kernel
theorem dL_law_973 : decode cL_law 973 = .ok (.ireturn, 1) := by decide +kernel
theorem dL_law_974 : decode cL_law 974 = .ok (.aload_n 1, 1) := by decide +kernel
theorem dL_law_975 : decode cL_law 975 = .ok (.invokevirtual 113, 3) := by decide +kernel
theorem dL_law_978 : decode cL_law 978 = .ok (.aload_n 2, 1) := by decide +kernel
theorem dL_law_979 : decode cL_law 979 = .ok (.invokevirtual 116, 3) := by decide +kernel
theorem dL_law_982 : decode cL_law 982 = .ok (.if_icmp .eq 504, 3) := by decide +kernel
theorem dL_law_985 : decode cL_law 985 = .ok (.iconst 0, 1) := by decide +kernel
theorem dL_law_986 : decode cL_law 986 = .ok (.ireturn, 1) := by decide +kernel
theorem dL_law_987 : decode cL_law 987 = .ok (.aload_n 1, 1) := by decide +kernel
theorem dL_law_988 : decode cL_law 988 = .ok (.aload_n 0, 1) := by decide +kernel
theorem dL_law_989 : decode cL_law 989 = .ok (.iload_n 3, 1) := by decide +kernel
theorem dL_law_990 : decode cL_law 990 = .ok (.iconst 1, 1) := by decide +kernel
theorem dL_law_991 : decode cL_law 991 = .ok (.iadd, 1) := by decide +kernel
theorem dL_law_992 : decode cL_law 992 = .ok (.iaload, 1) := by decide +kernel
theorem dL_law_993 : decode cL_law 993 = .ok (.aload_n 0, 1) := by decide +kernel
theorem dL_law_994 : decode cL_law 994 = .ok (.iload_n 3, 1) := by decide +kernel
theorem dL_law_995 : decode cL_law 995 = .ok (.iconst 2, 1) := by decide +kernel
theorem dL_law_996 : decode cL_law 996 = .ok (.iadd, 1) := by decide +kernel
theorem dL_law_997 : decode cL_law 997 = .ok (.iaload, 1) := by decide +kernel
theorem dL_law_998 : decode cL_law 998 = .ok (.invokevirtual 117, 3) := by decide +kernel
theorem dL_law_1001 : decode cL_law 1001 = .ok (.aload_n 2, 1) := by decide +kernel
theorem dL_law_1002 : decode cL_law 1002 = .ok (.aload_n 0, 1) := by decide +kernel
theorem dL_law_1003 : decode cL_law 1003 = .ok (.iload_n 3, 1) := by decide +kernel
theorem dL_law_1004 : decode cL_law 1004 = .ok (.iconst 1, 1) := by decide +kernel
theorem dL_law_1005 : decode cL_law 1005 = .ok (.iadd, 1) := by decide +kernel
theorem dL_law_1006 : decode cL_law 1006 = .ok (.iaload, 1) := by decide +kernel
theorem dL_law_1007 : decode cL_law 1007 = .ok (.aload_n 0, 1) := by decide +kernel
theorem dL_law_1008 : decode cL_law 1008 = .ok (.iload_n 3, 1) := by decide +kernel
theorem dL_law_1009 : decode cL_law 1009 = .ok (.iconst 2, 1) := by decide +kernel
theorem dL_law_1010 : decode cL_law 1010 = .ok (.iadd, 1) := by decide +kernel
theorem dL_law_1011 : decode cL_law 1011 = .ok (.iaload, 1) := by decide +kernel
theorem dL_law_1012 : decode cL_law 1012 = .ok (.invokevirtual 120, 3) := by decide +kernel
theorem dL_law_1015 : decode cL_law 1015 = .ok (.if_icmp .eq 471, 3) := by decide +kernel
theorem dL_law_1018 : decode cL_law 1018 = .ok (.iconst 0, 1) := by decide +kernel
theorem dL_law_1019 : decode cL_law 1019 = .ok (.ireturn, 1) := by decide +kernel
theorem dL_law_1020 : decode cL_law 1020 = .ok (.aload_n 1, 1) := by decide +kernel
theorem dL_law_1021 : decode cL_law 1021 = .ok (.aload_n 0, 1) := by decide +kernel
theorem dL_law_1022 : decode cL_law 1022 = .ok (.iload_n 3, 1) := by decide +kernel
theorem dL_law_1023 : decode cL_law 1023 = .ok (.iconst 1, 1) := by decide +kernel
theorem dL_law_1024 : decode cL_law 1024 = .ok (.iadd, 1) := by decide +kernel
theorem dL_law_1025 : decode cL_law 1025 = .ok (.iaload, 1) := by decide +kernel
theorem dL_law_1026 : decode cL_law 1026 = .ok (.invokevirtual 121, 3) := by decide +kernel
theorem dL_law_1029 : decode cL_law 1029 = .ok (.aload_n 2, 1) := by decide +kernel
theorem dL_law_1030 : decode cL_law 1030 = .ok (.aload_n 0, 1) := by decide +kernel
theorem dL_law_1031 : decode cL_law 1031 = .ok (.iload_n 3, 1) := by decide +kernel
theorem dL_law_1032 : decode cL_law 1032 = .ok (.iconst 1, 1) := by decide +kernel
theorem dL_law_1033 : decode cL_law 1033 = .ok (.iadd, 1) := by decide +kernel
theorem dL_law_1034 : decode cL_law 1034 = .ok (.iaload, 1) := by decide +kernel
theorem dL_law_1035 : decode cL_law 1035 = .ok (.invokevirtual 124, 3) := by decide +kernel
theorem dL_law_1038 : decode cL_law 1038 = .ok (.if_icmp .eq 448, 3) := by decide +kernel
theorem dL_law_1041 : decode cL_law 1041 = .ok (.iconst 0, 1) := by decide +kernel
theorem dL_law_1042 : decode cL_law 1042 = .ok (.ireturn, 1) := by decide +kernel
theorem dL_law_1043 : decode cL_law 1043 = .ok (.aload_n 1, 1) := by decide +kernel
theorem dL_law_1044 : decode cL_law 1044 = .ok (.invokevirtual 125, 3) := by decide +kernel
theorem dL_law_1047 : decode cL_law 1047 = .ok (.aload_n 2, 1) := by decide +kernel
theorem dL_law_1048 : decode cL_law 1048 = .ok (.invokevirtual 128, 3) := by decide +kernel
theorem dL_law_1051 : decode cL_law 1051 = .ok (.if_icmp .eq 435, 3) := by decide +kernel
theorem dL_law_1054 : decode cL_law 1054 = .ok (.iconst 0, 1) := by decide +kernel
theorem dL_law_1055 : decode cL_law 1055 = .ok (.ireturn, 1) := by decide +kernel
theorem dL_law_1056 : decode cL_law 1056 = .ok (.aload_n 1, 1) := by decide +kernel
theorem dL_law_1057 : decode cL_law 1057 = .ok (.invokevirtual 129, 3) := by decide +kernel
theorem dL_law_1060 : decode cL_law 1060 = .ok (.aload_n 2, 1) := by decide +kernel
theorem dL_law_1061 : decode cL_law 1061 = .ok (.invokevirtual 132, 3) := by decide +kernel
theorem dL_law_1064 : decode cL_law 1064 = .ok (.if_icmp .eq 422, 3) := by decide +kernel
theorem dL_law_1067 : decode cL_law 1067 = .ok (.iconst 0, 1) := by decide +kernel
theorem dL_law_1068 : decode cL_law 1068 = .ok (.ireturn, 1) := by decide +kernel
theorem dL_law_1069 : decode cL_law 1069 = .ok (.aload_n 1, 1) := by decide +kernel
theorem dL_law_1070 : decode cL_law 1070 = .ok (.invokevirtual 133, 3) := by decide +kernel
theorem dL_law_1073 : decode cL_law 1073 = .ok (.aload_n 2, 1) := by decide +kernel
theorem dL_law_1074 : decode cL_law 1074 = .ok (.invokevirtual 136, 3) := by decide +kernel
theorem dL_law_1077 : decode cL_law 1077 = .ok (.if_icmp .eq 409, 3) := by decide +kernel
theorem dL_law_1080 : decode cL_law 1080 = .ok (.iconst 0, 1) := by decide +kernel
theorem dL_law_1081 : decode cL_law 1081 = .ok (.ireturn, 1) := by decide +kernel
theorem dL_law_1082 : decode cL_law 1082 = .ok (.aload_n 1, 1) := by decide +kernel
theorem dL_law_1083 : decode cL_law 1083 = .ok (.invokevirtual 137, 3) := by decide +kernel
theorem dL_law_1086 : decode cL_law 1086 = .ok (.aload_n 2, 1) := by decide +kernel
theorem dL_law_1087 : decode cL_law 1087 = .ok (.invokevirtual 140, 3) := by decide +kernel
theorem dL_law_1090 : decode cL_law 1090 = .ok (.if_icmp .eq 396, 3) := by decide +kernel
theorem dL_law_1093 : decode cL_law 1093 = .ok (.iconst 0, 1) := by decide +kernel
theorem dL_law_1094 : decode cL_law 1094 = .ok (.ireturn, 1) := by decide +kernel
theorem dL_law_1095 : decode cL_law 1095 = .ok (.aload_n 1, 1) := by decide +kernel
theorem dL_law_1096 : decode cL_law 1096 = .ok (.aload_n 0, 1) := by decide +kernel
theorem dL_law_1097 : decode cL_law 1097 = .ok (.iload_n 3, 1) := by decide +kernel
theorem dL_law_1098 : decode cL_law 1098 = .ok (.iconst 1, 1) := by decide +kernel
theorem dL_law_1099 : decode cL_law 1099 = .ok (.iadd, 1) := by decide +kernel
theorem dL_law_1100 : decode cL_law 1100 = .ok (.iaload, 1) := by decide +kernel
theorem dL_law_1101 : decode cL_law 1101 = .ok (.invokevirtual 141, 3) := by decide +kernel
theorem dL_law_1104 : decode cL_law 1104 = .ok (.aload_n 2, 1) := by decide +kernel
theorem dL_law_1105 : decode cL_law 1105 = .ok (.aload_n 0, 1) := by decide +kernel
theorem dL_law_1106 : decode cL_law 1106 = .ok (.iload_n 3, 1) := by decide +kernel
theorem dL_law_1107 : decode cL_law 1107 = .ok (.iconst 1, 1) := by decide +kernel
theorem dL_law_1108 : decode cL_law 1108 = .ok (.iadd, 1) := by decide +kernel
theorem dL_law_1109 : decode cL_law 1109 = .ok (.iaload, 1) := by decide +kernel
theorem dL_law_1110 : decode cL_law 1110 = .ok (.invokevirtual 144, 3) := by decide +kernel
theorem dL_law_1113 : decode cL_law 1113 = .ok (.if_icmp .eq 373, 3) := by decide +kernel
theorem dL_law_1116 : decode cL_law 1116 = .ok (.iconst 0, 1) := by decide +kernel
theorem dL_law_1117 : decode cL_law 1117 = .ok (.ireturn, 1) := by decide +kernel
theorem dL_law_1118 : decode cL_law 1118 = .ok (.aload_n 1, 1) := by decide +kernel
theorem dL_law_1119 : decode cL_law 1119 = .ok (.aload_n 0, 1) := by decide +kernel
theorem dL_law_1120 : decode cL_law 1120 = .ok (.iload_n 3, 1) := by decide +kernel
theorem dL_law_1121 : decode cL_law 1121 = .ok (.iconst 1, 1) := by decide +kernel
theorem dL_law_1122 : decode cL_law 1122 = .ok (.iadd, 1) := by decide +kernel
theorem dL_law_1123 : decode cL_law 1123 = .ok (.iaload, 1) := by decide +kernel
theorem dL_law_1124 : decode cL_law 1124 = .ok (.aload_n 0, 1) := by decide +kernel
theorem dL_law_1125 : decode cL_law 1125 = .ok (.iload_n 3, 1) := by decide +kernel
theorem dL_law_1126 : decode cL_law 1126 = .ok (.iconst 2, 1) := by decide +kernel
theorem dL_law_1127 : decode cL_law 1127 = .ok (.iadd, 1) := by decide +kernel
theorem dL_law_1128 : decode cL_law 1128 = .ok (.iaload, 1) := by decide +kernel
theorem dL_law_1129 : decode cL_law 1129 = .ok (.aload_n 0, 1) := by decide +kernel
theorem dL_law_1130 : decode cL_law 1130 = .ok (.iload_n 3, 1) := by decide +kernel
theorem dL_law_1131 : decode cL_law 1131 = .ok (.iconst 3, 1) := by decide +kernel
theorem dL_law_1132 : decode cL_law 1132 = .ok (.iadd, 1) := by decide +kernel
theorem dL_law_1133 : decode cL_law 1133 = .ok (.iaload, 1) := by decide +kernel
theorem dL_law_1134 : decode cL_law 1134 = .ok (.invokevirtual 145, 3) := by decide +kernel
theorem dL_law_1137 : decode cL_law 1137 = .ok (.aload_n 2, 1) := by decide +kernel
theorem dL_law_1138 : decode cL_law 1138 = .ok (.aload_n 0, 1) := by decide +kernel
theorem dL_law_1139 : decode cL_law 1139 = .ok (.iload_n 3, 1) := by decide +kernel
theorem dL_law_1140 : decode cL_law 1140 = .ok (.iconst 1, 1) := by decide +kernel
theorem dL_law_1141 : decode cL_law 1141 = .ok (.iadd, 1) := by decide +kernel
theorem dL_law_1142 : decode cL_law 1142 = .ok (.iaload, 1) := by decide +kernel
theorem dL_law_1143 : decode cL_law 1143 = .ok (.aload_n 0, 1) := by decide +kernel
theorem dL_law_1144 : decode cL_law 1144 = .ok (.iload_n 3, 1) := by decide +kernel
theorem dL_law_1145 : decode cL_law 1145 = .ok (.iconst 2, 1) := by decide +kernel
theorem dL_law_1146 : decode cL_law 1146 = .ok (.iadd, 1) := by decide +kernel
theorem dL_law_1147 : decode cL_law 1147 = .ok (.iaload, 1) := by decide +kernel
theorem dL_law_1148 : decode cL_law 1148 = .ok (.aload_n 0, 1) := by decide +kernel
theorem dL_law_1149 : decode cL_law 1149 = .ok (.iload_n 3, 1) := by decide +kernel
theorem dL_law_1150 : decode cL_law 1150 = .ok (.iconst 3, 1) := by decide +kernel
theorem dL_law_1151 : decode cL_law 1151 = .ok (.iadd, 1) := by decide +kernel
theorem dL_law_1152 : decode cL_law 1152 = .ok (.iaload, 1) := by decide +kernel
theorem dL_law_1153 : decode cL_law 1153 = .ok (.invokevirtual 148, 3) := by decide +kernel
theorem dL_law_1156 : decode cL_law 1156 = .ok (.if_icmp .eq 330, 3) := by decide +kernel
theorem dL_law_1159 : decode cL_law 1159 = .ok (.iconst 0, 1) := by decide +kernel
theorem dL_law_1160 : decode cL_law 1160 = .ok (.ireturn, 1) := by decide +kernel
theorem dL_law_1161 : decode cL_law 1161 = .ok (.aload_n 1, 1) := by decide +kernel
theorem dL_law_1162 : decode cL_law 1162 = .ok (.aload_n 0, 1) := by decide +kernel
theorem dL_law_1163 : decode cL_law 1163 = .ok (.iload_n 3, 1) := by decide +kernel
theorem dL_law_1164 : decode cL_law 1164 = .ok (.iconst 1, 1) := by decide +kernel
theorem dL_law_1165 : decode cL_law 1165 = .ok (.iadd, 1) := by decide +kernel
theorem dL_law_1166 : decode cL_law 1166 = .ok (.iaload, 1) := by decide +kernel
theorem dL_law_1167 : decode cL_law 1167 = .ok (.invokevirtual 149, 3) := by decide +kernel
theorem dL_law_1170 : decode cL_law 1170 = .ok (.aload_n 2, 1) := by decide +kernel
theorem dL_law_1171 : decode cL_law 1171 = .ok (.aload_n 0, 1) := by decide +kernel
theorem dL_law_1172 : decode cL_law 1172 = .ok (.iload_n 3, 1) := by decide +kernel
theorem dL_law_1173 : decode cL_law 1173 = .ok (.iconst 1, 1) := by decide +kernel
theorem dL_law_1174 : decode cL_law 1174 = .ok (.iadd, 1) := by decide +kernel
theorem dL_law_1175 : decode cL_law 1175 = .ok (.iaload, 1) := by decide +kernel
theorem dL_law_1176 : decode cL_law 1176 = .ok (.invokevirtual 152, 3) := by decide +kernel
theorem dL_law_1179 : decode cL_law 1179 = .ok (.if_icmp .eq 307, 3) := by decide +kernel
theorem dL_law_1182 : decode cL_law 1182 = .ok (.iconst 0, 1) := by decide +kernel
theorem dL_law_1183 : decode cL_law 1183 = .ok (.ireturn, 1) := by decide +kernel
theorem dL_law_1184 : decode cL_law 1184 = .ok (.aload_n 1, 1) := by decide +kernel
theorem dL_law_1185 : decode cL_law 1185 = .ok (.aload_n 0, 1) := by decide +kernel
theorem dL_law_1186 : decode cL_law 1186 = .ok (.iload_n 3, 1) := by decide +kernel
theorem dL_law_1187 : decode cL_law 1187 = .ok (.iconst 1, 1) := by decide +kernel
theorem dL_law_1188 : decode cL_law 1188 = .ok (.iadd, 1) := by decide +kernel
theorem dL_law_1189 : decode cL_law 1189 = .ok (.iaload, 1) := by decide +kernel
theorem dL_law_1190 : decode cL_law 1190 = .ok (.aload_n 0, 1) := by decide +kernel
theorem dL_law_1191 : decode cL_law 1191 = .ok (.iload_n 3, 1) := by decide +kernel
theorem dL_law_1192 : decode cL_law 1192 = .ok (.iconst 2, 1) := by decide +kernel
theorem dL_law_1193 : decode cL_law 1193 = .ok (.iadd, 1) := by decide +kernel
theorem dL_law_1194 : decode cL_law 1194 = .ok (.iaload, 1) := by decide +kernel
theorem dL_law_1195 : decode cL_law 1195 = .ok (.invokevirtual 153, 3) := by decide +kernel
theorem dL_law_1198 : decode cL_law 1198 = .ok (.aload_n 2, 1) := by decide +kernel
theorem dL_law_1199 : decode cL_law 1199 = .ok (.aload_n 0, 1) := by decide +kernel
theorem dL_law_1200 : decode cL_law 1200 = .ok (.iload_n 3, 1) := by decide +kernel
theorem dL_law_1201 : decode cL_law 1201 = .ok (.iconst 1, 1) := by decide +kernel
theorem dL_law_1202 : decode cL_law 1202 = .ok (.iadd, 1) := by decide +kernel
theorem dL_law_1203 : decode cL_law 1203 = .ok (.iaload, 1) := by decide +kernel
theorem dL_law_1204 : decode cL_law 1204 = .ok (.aload_n 0, 1) := by decide +kernel
theorem dL_law_1205 : decode cL_law 1205 = .ok (.iload_n 3, 1) := by decide +kernel
theorem dL_law_1206 : decode cL_law 1206 = .ok (.iconst 2, 1) := by decide +kernel
theorem dL_law_1207 : decode cL_law 1207 = .ok (.iadd, 1) := by decide +kernel
theorem dL_law_1208 : decode cL_law 1208 = .ok (.iaload, 1) := by decide +kernel
theorem dL_law_1209 : decode cL_law 1209 = .ok (.invokevirtual 156, 3) := by decide +kernel
theorem dL_law_1212 : decode cL_law 1212 = .ok (.if_icmp .eq 274, 3) := by decide +kernel
theorem dL_law_1215 : decode cL_law 1215 = .ok (.iconst 0, 1) := by decide +kernel
theorem dL_law_1216 : decode cL_law 1216 = .ok (.ireturn, 1) := by decide +kernel
theorem dL_law_1217 : decode cL_law 1217 = .ok (.aload_n 1, 1) := by decide +kernel
theorem dL_law_1218 : decode cL_law 1218 = .ok (.aload_n 0, 1) := by decide +kernel
theorem dL_law_1219 : decode cL_law 1219 = .ok (.iload_n 3, 1) := by decide +kernel
theorem dL_law_1220 : decode cL_law 1220 = .ok (.iconst 1, 1) := by decide +kernel
theorem dL_law_1221 : decode cL_law 1221 = .ok (.iadd, 1) := by decide +kernel
theorem dL_law_1222 : decode cL_law 1222 = .ok (.iaload, 1) := by decide +kernel
theorem dL_law_1223 : decode cL_law 1223 = .ok (.aload_n 0, 1) := by decide +kernel
theorem dL_law_1224 : decode cL_law 1224 = .ok (.iload_n 3, 1) := by decide +kernel
theorem dL_law_1225 : decode cL_law 1225 = .ok (.iconst 2, 1) := by decide +kernel
theorem dL_law_1226 : decode cL_law 1226 = .ok (.iadd, 1) := by decide +kernel
theorem dL_law_1227 : decode cL_law 1227 = .ok (.iaload, 1) := by decide +kernel
theorem dL_law_1228 : decode cL_law 1228 = .ok (.aload_n 0, 1) := by decide +kernel
theorem dL_law_1229 : decode cL_law 1229 = .ok (.iload_n 3, 1) := by decide +kernel
theorem dL_law_1230 : decode cL_law 1230 = .ok (.iconst 3, 1) := by decide +kernel
theorem dL_law_1231 : decode cL_law 1231 = .ok (.iadd, 1) := by decide +kernel
theorem dL_law_1232 : decode cL_law 1232 = .ok (.iaload, 1) := by decide +kernel
theorem dL_law_1233 : decode cL_law 1233 = .ok (.invokevirtual 157, 3) := by decide +kernel
theorem dL_law_1236 : decode cL_law 1236 = .ok (.aload_n 2, 1) := by decide +kernel
theorem dL_law_1237 : decode cL_law 1237 = .ok (.aload_n 0, 1) := by decide +kernel
theorem dL_law_1238 : decode cL_law 1238 = .ok (.iload_n 3, 1) := by decide +kernel
theorem dL_law_1239 : decode cL_law 1239 = .ok (.iconst 1, 1) := by decide +kernel
theorem dL_law_1240 : decode cL_law 1240 = .ok (.iadd, 1) := by decide +kernel
theorem dL_law_1241 : decode cL_law 1241 = .ok (.iaload, 1) := by decide +kernel
theorem dL_law_1242 : decode cL_law 1242 = .ok (.aload_n 0, 1) := by decide +kernel
theorem dL_law_1243 : decode cL_law 1243 = .ok (.iload_n 3, 1) := by decide +kernel
theorem dL_law_1244 : decode cL_law 1244 = .ok (.iconst 2, 1) := by decide +kernel
theorem dL_law_1245 : decode cL_law 1245 = .ok (.iadd, 1) := by decide +kernel
theorem dL_law_1246 : decode cL_law 1246 = .ok (.iaload, 1) := by decide +kernel
theorem dL_law_1247 : decode cL_law 1247 = .ok (.aload_n 0, 1) := by decide +kernel
theorem dL_law_1248 : decode cL_law 1248 = .ok (.iload_n 3, 1) := by decide +kernel
theorem dL_law_1249 : decode cL_law 1249 = .ok (.iconst 3, 1) := by decide +kernel
theorem dL_law_1250 : decode cL_law 1250 = .ok (.iadd, 1) := by decide +kernel
theorem dL_law_1251 : decode cL_law 1251 = .ok (.iaload, 1) := by decide +kernel
theorem dL_law_1252 : decode cL_law 1252 = .ok (.invokevirtual 160, 3) := by decide +kernel
theorem dL_law_1255 : decode cL_law 1255 = .ok (.if_icmp .eq 231, 3) := by decide +kernel
theorem dL_law_1258 : decode cL_law 1258 = .ok (.iconst 0, 1) := by decide +kernel
theorem dL_law_1259 : decode cL_law 1259 = .ok (.ireturn, 1) := by decide +kernel
theorem dL_law_1260 : decode cL_law 1260 = .ok (.aload_n 1, 1) := by decide +kernel
theorem dL_law_1261 : decode cL_law 1261 = .ok (.aload_n 0, 1) := by decide +kernel
theorem dL_law_1262 : decode cL_law 1262 = .ok (.iload_n 3, 1) := by decide +kernel
theorem dL_law_1263 : decode cL_law 1263 = .ok (.iconst 1, 1) := by decide +kernel
theorem dL_law_1264 : decode cL_law 1264 = .ok (.iadd, 1) := by decide +kernel
theorem dL_law_1265 : decode cL_law 1265 = .ok (.iaload, 1) := by decide +kernel
theorem dL_law_1266 : decode cL_law 1266 = .ok (.aload_n 0, 1) := by decide +kernel
theorem dL_law_1267 : decode cL_law 1267 = .ok (.iload_n 3, 1) := by decide +kernel
theorem dL_law_1268 : decode cL_law 1268 = .ok (.iconst 2, 1) := by decide +kernel
theorem dL_law_1269 : decode cL_law 1269 = .ok (.iadd, 1) := by decide +kernel
theorem dL_law_1270 : decode cL_law 1270 = .ok (.iaload, 1) := by decide +kernel
theorem dL_law_1271 : decode cL_law 1271 = .ok (.aload_n 0, 1) := by decide +kernel
theorem dL_law_1272 : decode cL_law 1272 = .ok (.iload_n 3, 1) := by decide +kernel
theorem dL_law_1273 : decode cL_law 1273 = .ok (.iconst 3, 1) := by decide +kernel
theorem dL_law_1274 : decode cL_law 1274 = .ok (.iadd, 1) := by decide +kernel
theorem dL_law_1275 : decode cL_law 1275 = .ok (.iaload, 1) := by decide +kernel
theorem dL_law_1276 : decode cL_law 1276 = .ok (.i2l, 1) := by decide +kernel
theorem dL_law_1277 : decode cL_law 1277 = .ok (.bipush 32, 2) := by decide +kernel
theorem dL_law_1279 : decode cL_law 1279 = .ok (.lshl, 1) := by decide +kernel
theorem dL_law_1280 : decode cL_law 1280 = .ok (.aload_n 0, 1) := by decide +kernel
theorem dL_law_1281 : decode cL_law 1281 = .ok (.iload_n 3, 1) := by decide +kernel
theorem dL_law_1282 : decode cL_law 1282 = .ok (.iconst 4, 1) := by decide +kernel
theorem dL_law_1283 : decode cL_law 1283 = .ok (.iadd, 1) := by decide +kernel
theorem dL_law_1284 : decode cL_law 1284 = .ok (.iaload, 1) := by decide +kernel
theorem dL_law_1285 : decode cL_law 1285 = .ok (.i2l, 1) := by decide +kernel
theorem dL_law_1286 : decode cL_law 1286 = .ok (.ldc2_w 161, 3) := by decide +kernel
theorem dL_law_1289 : decode cL_law 1289 = .ok (.land, 1) := by decide +kernel
theorem dL_law_1290 : decode cL_law 1290 = .ok (.lor, 1) := by decide +kernel
theorem dL_law_1291 : decode cL_law 1291 = .ok (.invokevirtual 163, 3) := by decide +kernel
theorem dL_law_1294 : decode cL_law 1294 = .ok (.aload_n 2, 1) := by decide +kernel
theorem dL_law_1295 : decode cL_law 1295 = .ok (.aload_n 0, 1) := by decide +kernel
theorem dL_law_1296 : decode cL_law 1296 = .ok (.iload_n 3, 1) := by decide +kernel
theorem dL_law_1297 : decode cL_law 1297 = .ok (.iconst 1, 1) := by decide +kernel
theorem dL_law_1298 : decode cL_law 1298 = .ok (.iadd, 1) := by decide +kernel
theorem dL_law_1299 : decode cL_law 1299 = .ok (.iaload, 1) := by decide +kernel
theorem dL_law_1300 : decode cL_law 1300 = .ok (.aload_n 0, 1) := by decide +kernel
theorem dL_law_1301 : decode cL_law 1301 = .ok (.iload_n 3, 1) := by decide +kernel
theorem dL_law_1302 : decode cL_law 1302 = .ok (.iconst 2, 1) := by decide +kernel
theorem dL_law_1303 : decode cL_law 1303 = .ok (.iadd, 1) := by decide +kernel
theorem dL_law_1304 : decode cL_law 1304 = .ok (.iaload, 1) := by decide +kernel
theorem dL_law_1305 : decode cL_law 1305 = .ok (.aload_n 0, 1) := by decide +kernel
theorem dL_law_1306 : decode cL_law 1306 = .ok (.iload_n 3, 1) := by decide +kernel
theorem dL_law_1307 : decode cL_law 1307 = .ok (.iconst 3, 1) := by decide +kernel
theorem dL_law_1308 : decode cL_law 1308 = .ok (.iadd, 1) := by decide +kernel
theorem dL_law_1309 : decode cL_law 1309 = .ok (.iaload, 1) := by decide +kernel
theorem dL_law_1310 : decode cL_law 1310 = .ok (.i2l, 1) := by decide +kernel
theorem dL_law_1311 : decode cL_law 1311 = .ok (.bipush 32, 2) := by decide +kernel
theorem dL_law_1313 : decode cL_law 1313 = .ok (.lshl, 1) := by decide +kernel
theorem dL_law_1314 : decode cL_law 1314 = .ok (.aload_n 0, 1) := by decide +kernel
theorem dL_law_1315 : decode cL_law 1315 = .ok (.iload_n 3, 1) := by decide +kernel
theorem dL_law_1316 : decode cL_law 1316 = .ok (.iconst 4, 1) := by decide +kernel
theorem dL_law_1317 : decode cL_law 1317 = .ok (.iadd, 1) := by decide +kernel
theorem dL_law_1318 : decode cL_law 1318 = .ok (.iaload, 1) := by decide +kernel
theorem dL_law_1319 : decode cL_law 1319 = .ok (.i2l, 1) := by decide +kernel
theorem dL_law_1320 : decode cL_law 1320 = .ok (.ldc2_w 161, 3) := by decide +kernel
theorem dL_law_1323 : decode cL_law 1323 = .ok (.land, 1) := by decide +kernel
theorem dL_law_1324 : decode cL_law 1324 = .ok (.lor, 1) := by decide +kernel
theorem dL_law_1325 : decode cL_law 1325 = .ok (.invokevirtual 167, 3) := by decide +kernel
theorem dL_law_1328 : decode cL_law 1328 = .ok (.if_icmp .eq 158, 3) := by decide +kernel
theorem dL_law_1331 : decode cL_law 1331 = .ok (.iconst 0, 1) := by decide +kernel
theorem dL_law_1332 : decode cL_law 1332 = .ok (.ireturn, 1) := by decide +kernel
theorem dL_law_1333 : decode cL_law 1333 = .ok (.aload_n 1, 1) := by decide +kernel
theorem dL_law_1334 : decode cL_law 1334 = .ok (.aload_n 0, 1) := by decide +kernel
theorem dL_law_1335 : decode cL_law 1335 = .ok (.iload_n 3, 1) := by decide +kernel
theorem dL_law_1336 : decode cL_law 1336 = .ok (.iconst 1, 1) := by decide +kernel
theorem dL_law_1337 : decode cL_law 1337 = .ok (.iadd, 1) := by decide +kernel
theorem dL_law_1338 : decode cL_law 1338 = .ok (.iaload, 1) := by decide +kernel
theorem dL_law_1339 : decode cL_law 1339 = .ok (.aload_n 0, 1) := by decide +kernel
theorem dL_law_1340 : decode cL_law 1340 = .ok (.iload_n 3, 1) := by decide +kernel
theorem dL_law_1341 : decode cL_law 1341 = .ok (.iconst 2, 1) := by decide +kernel
theorem dL_law_1342 : decode cL_law 1342 = .ok (.iadd, 1) := by decide +kernel
theorem dL_law_1343 : decode cL_law 1343 = .ok (.iaload, 1) := by decide +kernel
theorem dL_law_1344 : decode cL_law 1344 = .ok (.invokevirtual 168, 3) := by decide +kernel
theorem dL_law_1347 : decode cL_law 1347 = .ok (.aload_n 2, 1) := by decide +kernel
theorem dL_law_1348 : decode cL_law 1348 = .ok (.aload_n 0, 1) := by decide +kernel
theorem dL_law_1349 : decode cL_law 1349 = .ok (.iload_n 3, 1) := by decide +kernel
theorem dL_law_1350 : decode cL_law 1350 = .ok (.iconst 1, 1) := by decide +kernel
theorem dL_law_1351 : decode cL_law 1351 = .ok (.iadd, 1) := by decide +kernel
theorem dL_law_1352 : decode cL_law 1352 = .ok (.iaload, 1) := by decide +kernel
theorem dL_law_1353 : decode cL_law 1353 = .ok (.aload_n 0, 1) := by decide +kernel
theorem dL_law_1354 : decode cL_law 1354 = .ok (.iload_n 3, 1) := by decide +kernel
theorem dL_law_1355 : decode cL_law 1355 = .ok (.iconst 2, 1) := by decide +kernel
theorem dL_law_1356 : decode cL_law 1356 = .ok (.iadd, 1) := by decide +kernel
theorem dL_law_1357 : decode cL_law 1357 = .ok (.iaload, 1) := by decide +kernel
theorem dL_law_1358 : decode cL_law 1358 = .ok (.invokevirtual 172, 3) := by decide +kernel
theorem dL_law_1361 : decode cL_law 1361 = .ok (.lcmp, 1) := by decide +kernel
theorem dL_law_1362 : decode cL_law 1362 = .ok (.ifCond .eq 124, 3) := by decide +kernel
theorem dL_law_1365 : decode cL_law 1365 = .ok (.iconst 0, 1) := by decide +kernel
theorem dL_law_1366 : decode cL_law 1366 = .ok (.ireturn, 1) := by decide +kernel
theorem dL_law_1367 : decode cL_law 1367 = .ok (.aload_n 1, 1) := by decide +kernel
theorem dL_law_1368 : decode cL_law 1368 = .ok (.aload_n 0, 1) := by decide +kernel
theorem dL_law_1369 : decode cL_law 1369 = .ok (.iload_n 3, 1) := by decide +kernel
theorem dL_law_1370 : decode cL_law 1370 = .ok (.iconst 1, 1) := by decide +kernel
theorem dL_law_1371 : decode cL_law 1371 = .ok (.iadd, 1) := by decide +kernel
theorem dL_law_1372 : decode cL_law 1372 = .ok (.iaload, 1) := by decide +kernel
theorem dL_law_1373 : decode cL_law 1373 = .ok (.aload_n 0, 1) := by decide +kernel
theorem dL_law_1374 : decode cL_law 1374 = .ok (.iload_n 3, 1) := by decide +kernel
theorem dL_law_1375 : decode cL_law 1375 = .ok (.iconst 2, 1) := by decide +kernel
theorem dL_law_1376 : decode cL_law 1376 = .ok (.iadd, 1) := by decide +kernel
theorem dL_law_1377 : decode cL_law 1377 = .ok (.iaload, 1) := by decide +kernel
theorem dL_law_1378 : decode cL_law 1378 = .ok (.aload_n 0, 1) := by decide +kernel
theorem dL_law_1379 : decode cL_law 1379 = .ok (.iload_n 3, 1) := by decide +kernel
theorem dL_law_1380 : decode cL_law 1380 = .ok (.iconst 3, 1) := by decide +kernel
theorem dL_law_1381 : decode cL_law 1381 = .ok (.iadd, 1) := by decide +kernel
theorem dL_law_1382 : decode cL_law 1382 = .ok (.iaload, 1) := by decide +kernel
theorem dL_law_1383 : decode cL_law 1383 = .ok (.aload_n 0, 1) := by decide +kernel
theorem dL_law_1384 : decode cL_law 1384 = .ok (.iload_n 3, 1) := by decide +kernel
theorem dL_law_1385 : decode cL_law 1385 = .ok (.iconst 4, 1) := by decide +kernel
theorem dL_law_1386 : decode cL_law 1386 = .ok (.iadd, 1) := by decide +kernel
theorem dL_law_1387 : decode cL_law 1387 = .ok (.iaload, 1) := by decide +kernel
theorem dL_law_1388 : decode cL_law 1388 = .ok (.aload_n 0, 1) := by decide +kernel
theorem dL_law_1389 : decode cL_law 1389 = .ok (.iload_n 3, 1) := by decide +kernel
theorem dL_law_1390 : decode cL_law 1390 = .ok (.iconst 5, 1) := by decide +kernel
theorem dL_law_1391 : decode cL_law 1391 = .ok (.iadd, 1) := by decide +kernel
theorem dL_law_1392 : decode cL_law 1392 = .ok (.iaload, 1) := by decide +kernel
theorem dL_law_1393 : decode cL_law 1393 = .ok (.invokevirtual 173, 3) := by decide +kernel
theorem dL_law_1396 : decode cL_law 1396 = .ok (.aload_n 2, 1) := by decide +kernel
theorem dL_law_1397 : decode cL_law 1397 = .ok (.aload_n 0, 1) := by decide +kernel
theorem dL_law_1398 : decode cL_law 1398 = .ok (.iload_n 3, 1) := by decide +kernel
theorem dL_law_1399 : decode cL_law 1399 = .ok (.iconst 1, 1) := by decide +kernel
theorem dL_law_1400 : decode cL_law 1400 = .ok (.iadd, 1) := by decide +kernel
theorem dL_law_1401 : decode cL_law 1401 = .ok (.iaload, 1) := by decide +kernel
theorem dL_law_1402 : decode cL_law 1402 = .ok (.aload_n 0, 1) := by decide +kernel
theorem dL_law_1403 : decode cL_law 1403 = .ok (.iload_n 3, 1) := by decide +kernel
theorem dL_law_1404 : decode cL_law 1404 = .ok (.iconst 2, 1) := by decide +kernel
theorem dL_law_1405 : decode cL_law 1405 = .ok (.iadd, 1) := by decide +kernel
theorem dL_law_1406 : decode cL_law 1406 = .ok (.iaload, 1) := by decide +kernel
theorem dL_law_1407 : decode cL_law 1407 = .ok (.aload_n 0, 1) := by decide +kernel
theorem dL_law_1408 : decode cL_law 1408 = .ok (.iload_n 3, 1) := by decide +kernel
theorem dL_law_1409 : decode cL_law 1409 = .ok (.iconst 3, 1) := by decide +kernel
theorem dL_law_1410 : decode cL_law 1410 = .ok (.iadd, 1) := by decide +kernel
theorem dL_law_1411 : decode cL_law 1411 = .ok (.iaload, 1) := by decide +kernel
theorem dL_law_1412 : decode cL_law 1412 = .ok (.aload_n 0, 1) := by decide +kernel
theorem dL_law_1413 : decode cL_law 1413 = .ok (.iload_n 3, 1) := by decide +kernel
theorem dL_law_1414 : decode cL_law 1414 = .ok (.iconst 4, 1) := by decide +kernel
theorem dL_law_1415 : decode cL_law 1415 = .ok (.iadd, 1) := by decide +kernel
theorem dL_law_1416 : decode cL_law 1416 = .ok (.iaload, 1) := by decide +kernel
theorem dL_law_1417 : decode cL_law 1417 = .ok (.aload_n 0, 1) := by decide +kernel
theorem dL_law_1418 : decode cL_law 1418 = .ok (.iload_n 3, 1) := by decide +kernel
theorem dL_law_1419 : decode cL_law 1419 = .ok (.iconst 5, 1) := by decide +kernel
theorem dL_law_1420 : decode cL_law 1420 = .ok (.iadd, 1) := by decide +kernel
theorem dL_law_1421 : decode cL_law 1421 = .ok (.iaload, 1) := by decide +kernel
theorem dL_law_1422 : decode cL_law 1422 = .ok (.invokevirtual 177, 3) := by decide +kernel
theorem dL_law_1425 : decode cL_law 1425 = .ok (.if_icmp .eq 61, 3) := by decide +kernel
theorem dL_law_1428 : decode cL_law 1428 = .ok (.iconst 0, 1) := by decide +kernel
theorem dL_law_1429 : decode cL_law 1429 = .ok (.ireturn, 1) := by decide +kernel
theorem dL_law_1430 : decode cL_law 1430 = .ok (.aload_n 1, 1) := by decide +kernel
theorem dL_law_1431 : decode cL_law 1431 = .ok (.aload_n 0, 1) := by decide +kernel
theorem dL_law_1432 : decode cL_law 1432 = .ok (.iload_n 3, 1) := by decide +kernel
theorem dL_law_1433 : decode cL_law 1433 = .ok (.iconst 1, 1) := by decide +kernel
theorem dL_law_1434 : decode cL_law 1434 = .ok (.iadd, 1) := by decide +kernel
theorem dL_law_1435 : decode cL_law 1435 = .ok (.iaload, 1) := by decide +kernel
theorem dL_law_1436 : decode cL_law 1436 = .ok (.aload_n 0, 1) := by decide +kernel
theorem dL_law_1437 : decode cL_law 1437 = .ok (.iload_n 3, 1) := by decide +kernel
theorem dL_law_1438 : decode cL_law 1438 = .ok (.iconst 2, 1) := by decide +kernel
theorem dL_law_1439 : decode cL_law 1439 = .ok (.iadd, 1) := by decide +kernel
theorem dL_law_1440 : decode cL_law 1440 = .ok (.iaload, 1) := by decide +kernel
theorem dL_law_1441 : decode cL_law 1441 = .ok (.invokevirtual 178, 3) := by decide +kernel
theorem dL_law_1444 : decode cL_law 1444 = .ok (.aload_n 2, 1) := by decide +kernel
theorem dL_law_1445 : decode cL_law 1445 = .ok (.aload_n 0, 1) := by decide +kernel
theorem dL_law_1446 : decode cL_law 1446 = .ok (.iload_n 3, 1) := by decide +kernel
theorem dL_law_1447 : decode cL_law 1447 = .ok (.iconst 1, 1) := by decide +kernel
theorem dL_law_1448 : decode cL_law 1448 = .ok (.iadd, 1) := by decide +kernel
theorem dL_law_1449 : decode cL_law 1449 = .ok (.iaload, 1) := by decide +kernel
theorem dL_law_1450 : decode cL_law 1450 = .ok (.aload_n 0, 1) := by decide +kernel
theorem dL_law_1451 : decode cL_law 1451 = .ok (.iload_n 3, 1) := by decide +kernel
theorem dL_law_1452 : decode cL_law 1452 = .ok (.iconst 2, 1) := by decide +kernel
theorem dL_law_1453 : decode cL_law 1453 = .ok (.iadd, 1) := by decide +kernel
theorem dL_law_1454 : decode cL_law 1454 = .ok (.iaload, 1) := by decide +kernel
theorem dL_law_1455 : decode cL_law 1455 = .ok (.invokevirtual 181, 3) := by decide +kernel
theorem dL_law_1458 : decode cL_law 1458 = .ok (.if_icmp .eq 28, 3) := by decide +kernel
theorem dL_law_1461 : decode cL_law 1461 = .ok (.iconst 0, 1) := by decide +kernel
theorem dL_law_1462 : decode cL_law 1462 = .ok (.ireturn, 1) := by decide +kernel
theorem dL_law_1463 : decode cL_law 1463 = .ok (.aload_n 1, 1) := by decide +kernel
theorem dL_law_1464 : decode cL_law 1464 = .ok (.aload_n 0, 1) := by decide +kernel
theorem dL_law_1465 : decode cL_law 1465 = .ok (.iload_n 3, 1) := by decide +kernel
theorem dL_law_1466 : decode cL_law 1466 = .ok (.iconst 1, 1) := by decide +kernel
theorem dL_law_1467 : decode cL_law 1467 = .ok (.iadd, 1) := by decide +kernel
theorem dL_law_1468 : decode cL_law 1468 = .ok (.iaload, 1) := by decide +kernel
theorem dL_law_1469 : decode cL_law 1469 = .ok (.invokevirtual 182, 3) := by decide +kernel
theorem dL_law_1472 : decode cL_law 1472 = .ok (.aload_n 2, 1) := by decide +kernel
theorem dL_law_1473 : decode cL_law 1473 = .ok (.aload_n 0, 1) := by decide +kernel
theorem dL_law_1474 : decode cL_law 1474 = .ok (.iload_n 3, 1) := by decide +kernel
theorem dL_law_1475 : decode cL_law 1475 = .ok (.iconst 1, 1) := by decide +kernel
theorem dL_law_1476 : decode cL_law 1476 = .ok (.iadd, 1) := by decide +kernel
theorem dL_law_1477 : decode cL_law 1477 = .ok (.iaload, 1) := by decide +kernel
theorem dL_law_1478 : decode cL_law 1478 = .ok (.invokevirtual 185, 3) := by decide +kernel
theorem dL_law_1481 : decode cL_law 1481 = .ok (.if_icmp .eq 5, 3) := by decide +kernel
theorem dL_law_1484 : decode cL_law 1484 = .ok (.iconst 0, 1) := by decide +kernel
theorem dL_law_1485 : decode cL_law 1485 = .ok (.ireturn, 1) := by decide +kernel
theorem dL_law_1486 : decode cL_law 1486 = .ok (.iinc 3 6, 3) := by decide +kernel
theorem dL_law_1489 : decode cL_law 1489 = .ok (.goto (-1471), 3) := by decide +kernel
theorem dL_law_1492 : decode cL_law 1492 = .ok (.iconst 1, 1) := by decide +kernel
theorem dL_law_1493 : decode cL_law 1493 = .ok (.ireturn, 1) := by decide +kernel

theorem d_Mo_init_273 : decode prog_9_method_1_code 273 = .ok (.sipush 1000, 3) := by decide +kernel
theorem d_Mo_init_276 : decode prog_9_method_1_code 276 = .ok (.iastore, 1) := by decide +kernel
theorem d_Mo_init_277 : decode prog_9_method_1_code 277 = .ok (.putfield 105, 3) := by decide +kernel
theorem d_Mo_init_280 : decode prog_9_method_1_code 280 = .ok (.aload_n 0, 1) := by decide +kernel
theorem d_Mo_init_281 : decode prog_9_method_1_code 281 = .ok (.iconst 4, 1) := by decide +kernel
theorem d_Mo_init_282 : decode prog_9_method_1_code 282 = .ok (.newarray .boolean, 2) := by decide +kernel
theorem d_Mo_init_284 : decode prog_9_method_1_code 284 = .ok (.putfield 108, 3) := by decide +kernel
theorem d_Mo_init_287 : decode prog_9_method_1_code 287 = .ok (.aload_n 0, 1) := by decide +kernel
theorem d_Mo_init_288 : decode prog_9_method_1_code 288 = .ok (.bipush 60, 2) := by decide +kernel
theorem d_Mo_init_290 : decode prog_9_method_1_code 290 = .ok (.newarray .int, 2) := by decide +kernel
theorem d_Mo_init_292 : decode prog_9_method_1_code 292 = .ok (.putfield 111, 3) := by decide +kernel
theorem d_Mo_init_295 : decode prog_9_method_1_code 295 = .ok (.aload_n 0, 1) := by decide +kernel
theorem d_Mo_init_296 : decode prog_9_method_1_code 296 = .ok (.bipush 60, 2) := by decide +kernel
theorem d_Mo_init_298 : decode prog_9_method_1_code 298 = .ok (.newarray .int, 2) := by decide +kernel
theorem d_Mo_init_300 : decode prog_9_method_1_code 300 = .ok (.putfield 114, 3) := by decide +kernel
theorem d_Mo_init_303 : decode prog_9_method_1_code 303 = .ok (.aload_n 0, 1) := by decide +kernel
theorem d_Mo_init_304 : decode prog_9_method_1_code 304 = .ok (.bipush 9, 2) := by decide +kernel
theorem d_Mo_init_306 : decode prog_9_method_1_code 306 = .ok (.newarray .int, 2) := by decide +kernel
theorem d_Mo_init_308 : decode prog_9_method_1_code 308 = .ok (.putfield 117, 3) := by decide +kernel
theorem d_Mo_init_311 : decode prog_9_method_1_code 311 = .ok (.aload_n 0, 1) := by decide +kernel
theorem d_Mo_init_312 : decode prog_9_method_1_code 312 = .ok (.bipush 9, 2) := by decide +kernel
theorem d_Mo_init_314 : decode prog_9_method_1_code 314 = .ok (.newarray .int, 2) := by decide +kernel
theorem d_Mo_init_316 : decode prog_9_method_1_code 316 = .ok (.putfield 120, 3) := by decide +kernel
theorem d_Mo_init_319 : decode prog_9_method_1_code 319 = .ok (.aload_n 0, 1) := by decide +kernel
theorem d_Mo_init_320 : decode prog_9_method_1_code 320 = .ok (.bipush 9, 2) := by decide +kernel
theorem d_Mo_init_322 : decode prog_9_method_1_code 322 = .ok (.newarray .int, 2) := by decide +kernel
theorem d_Mo_init_324 : decode prog_9_method_1_code 324 = .ok (.putfield 123, 3) := by decide +kernel
theorem d_Mo_init_327 : decode prog_9_method_1_code 327 = .ok (.aload_n 0, 1) := by decide +kernel
theorem d_Mo_init_328 : decode prog_9_method_1_code 328 = .ok (.bipush 9, 2) := by decide +kernel
theorem d_Mo_init_330 : decode prog_9_method_1_code 330 = .ok (.newarray .int, 2) := by decide +kernel
theorem d_Mo_init_332 : decode prog_9_method_1_code 332 = .ok (.putfield 126, 3) := by decide +kernel
theorem d_Mo_init_335 : decode prog_9_method_1_code 335 = .ok (.aload_n 0, 1) := by decide +kernel
theorem d_Mo_init_336 : decode prog_9_method_1_code 336 = .ok (.sipush 540, 3) := by decide +kernel
theorem d_Mo_init_339 : decode prog_9_method_1_code 339 = .ok (.newarray .int, 2) := by decide +kernel
theorem d_Mo_init_341 : decode prog_9_method_1_code 341 = .ok (.putfield 129, 3) := by decide +kernel
theorem d_Mo_init_344 : decode prog_9_method_1_code 344 = .ok (.aload_n 0, 1) := by decide +kernel
theorem d_Mo_init_345 : decode prog_9_method_1_code 345 = .ok (.sipush 540, 3) := by decide +kernel
theorem d_Mo_init_348 : decode prog_9_method_1_code 348 = .ok (.newarray .int, 2) := by decide +kernel
theorem d_Mo_init_350 : decode prog_9_method_1_code 350 = .ok (.putfield 132, 3) := by decide +kernel
theorem d_Mo_init_353 : decode prog_9_method_1_code 353 = .ok (.aload_n 0, 1) := by decide +kernel
theorem d_Mo_init_354 : decode prog_9_method_1_code 354 = .ok (.bipush 24, 2) := by decide +kernel
theorem d_Mo_init_356 : decode prog_9_method_1_code 356 = .ok (.newarray .int, 2) := by decide +kernel
theorem d_Mo_init_358 : decode prog_9_method_1_code 358 = .ok (.putfield 135, 3) := by decide +kernel
theorem d_Mo_init_361 : decode prog_9_method_1_code 361 = .ok (.aload_n 0, 1) := by decide +kernel
theorem d_Mo_init_362 : decode prog_9_method_1_code 362 = .ok (.getfield 7, 3) := by decide +kernel
theorem d_Mo_init_365 : decode prog_9_method_1_code 365 = .ok (.iconst 4, 1) := by decide +kernel
theorem d_Mo_init_366 : decode prog_9_method_1_code 366 = .ok (.iconst 1, 1) := by decide +kernel
theorem d_Mo_init_367 : decode prog_9_method_1_code 367 = .ok (.bastore, 1) := by decide +kernel
theorem d_Mo_init_368 : decode prog_9_method_1_code 368 = .ok (.return_, 1) := by decide +kernel
theorem d_Mo_isIn_0 : decode prog_9_method_2_code 0 = .ok (.iload_n 0, 1) := by decide +kernel
theorem d_Mo_isIn_1 : decode prog_9_method_2_code 1 = .ok (.iload_n 1, 1) := by decide +kernel
theorem d_Mo_isIn_2 : decode prog_9_method_2_code 2 = .ok (.if_icmp .lt (12), 3) := by decide +kernel
theorem d_Mo_isIn_5 : decode prog_9_method_2_code 5 = .ok (.iload_n 0, 1) := by decide +kernel
theorem d_Mo_isIn_6 : decode prog_9_method_2_code 6 = .ok (.iload_n 2, 1) := by decide +kernel
theorem d_Mo_isIn_7 : decode prog_9_method_2_code 7 = .ok (.if_icmp .gt (7), 3) := by decide +kernel
theorem d_Mo_isIn_10 : decode prog_9_method_2_code 10 = .ok (.iconst 1, 1) := by decide +kernel
theorem d_Mo_isIn_11 : decode prog_9_method_2_code 11 = .ok (.goto (4), 3) := by decide +kernel
theorem d_Mo_isIn_14 : decode prog_9_method_2_code 14 = .ok (.iconst 0, 1) := by decide +kernel
theorem d_Mo_isIn_15 : decode prog_9_method_2_code 15 = .ok (.ireturn, 1) := by decide +kernel
theorem d_Mo_send_0 : decode prog_9_method_3_code 0 = .ok (.aload_n 0, 1) := by decide +kernel
theorem d_Mo_send_1 : decode prog_9_method_3_code 1 = .ok (.getfield 7, 3) := by decide +kernel
theorem d_Mo_send_4 : decode prog_9_method_3_code 4 = .ok (.iload_n 1, 1) := by decide +kernel
theorem d_Mo_send_5 : decode prog_9_method_3_code 5 = .ok (.baload, 1) := by decide +kernel
theorem d_Mo_send_6 : decode prog_9_method_3_code 6 = .ok (.ifCond .eq (22), 3) := by decide +kernel
theorem d_Mo_send_9 : decode prog_9_method_3_code 9 = .ok (.aload_n 0, 1) := by decide +kernel
theorem d_Mo_send_10 : decode prog_9_method_3_code 10 = .ok (.getfield 17, 3) := by decide +kernel
theorem d_Mo_send_13 : decode prog_9_method_3_code 13 = .ok (.iload_n 1, 1) := by decide +kernel
theorem d_Mo_send_14 : decode prog_9_method_3_code 14 = .ok (.iaload, 1) := by decide +kernel
theorem d_Mo_send_15 : decode prog_9_method_3_code 15 = .ok (.aload_n 0, 1) := by decide +kernel
theorem d_Mo_send_16 : decode prog_9_method_3_code 16 = .ok (.getfield 138, 3) := by decide +kernel
theorem d_Mo_send_19 : decode prog_9_method_3_code 19 = .ok (.iadd, 1) := by decide +kernel
theorem d_Mo_send_20 : decode prog_9_method_3_code 20 = .ok (.iconst 5, 1) := by decide +kernel
theorem d_Mo_send_21 : decode prog_9_method_3_code 21 = .ok (.iadd, 1) := by decide +kernel
theorem d_Mo_send_22 : decode prog_9_method_3_code 22 = .ok (.sipush 300, 3) := by decide +kernel
theorem d_Mo_send_25 : decode prog_9_method_3_code 25 = .ok (.if_icmp .le (15), 3) := by decide +kernel
theorem d_Mo_send_28 : decode prog_9_method_3_code 28 = .ok (.aload_n 0, 1) := by decide +kernel
theorem d_Mo_send_29 : decode prog_9_method_3_code 29 = .ok (.dup, 1) := by decide +kernel
theorem d_Mo_send_30 : decode prog_9_method_3_code 30 = .ok (.getfield 141, 3) := by decide +kernel
theorem d_Mo_send_33 : decode prog_9_method_3_code 33 = .ok (.iconst 1, 1) := by decide +kernel
theorem d_Mo_send_34 : decode prog_9_method_3_code 34 = .ok (.iadd, 1) := by decide +kernel
theorem d_Mo_send_35 : decode prog_9_method_3_code 35 = .ok (.putfield 141, 3) := by decide +kernel
theorem d_Mo_send_38 : decode prog_9_method_3_code 38 = .ok (.iconst 0, 1) := by decide +kernel
theorem d_Mo_send_39 : decode prog_9_method_3_code 39 = .ok (.ireturn, 1) := by decide +kernel
theorem d_Mo_send_40 : decode prog_9_method_3_code 40 = .ok (.sipush 300, 3) := by decide +kernel
theorem d_Mo_send_43 : decode prog_9_method_3_code 43 = .ok (.iload_n 1, 1) := by decide +kernel
theorem d_Mo_send_44 : decode prog_9_method_3_code 44 = .ok (.imul, 1) := by decide +kernel
theorem d_Mo_send_45 : decode prog_9_method_3_code 45 = .ok (.aload_n 0, 1) := by decide +kernel
theorem d_Mo_send_46 : decode prog_9_method_3_code 46 = .ok (.getfield 17, 3) := by decide +kernel
theorem d_Mo_send_49 : decode prog_9_method_3_code 49 = .ok (.iload_n 1, 1) := by decide +kernel
theorem d_Mo_send_50 : decode prog_9_method_3_code 50 = .ok (.iaload, 1) := by decide +kernel
theorem d_Mo_send_51 : decode prog_9_method_3_code 51 = .ok (.iadd, 1) := by decide +kernel
theorem d_Mo_send_52 : decode prog_9_method_3_code 52 = .ok (.istore 4, 2) := by decide +kernel
theorem d_Mo_send_54 : decode prog_9_method_3_code 54 = .ok (.iload_n 2, 1) := by decide +kernel
theorem d_Mo_send_55 : decode prog_9_method_3_code 55 = .ok (.iload_n 3, 1) := by decide +kernel
theorem d_Mo_send_56 : decode prog_9_method_3_code 56 = .ok (.ixor, 1) := by decide +kernel
theorem d_Mo_send_57 : decode prog_9_method_3_code 57 = .ok (.aload_n 0, 1) := by decide +kernel
theorem d_Mo_send_58 : decode prog_9_method_3_code 58 = .ok (.getfield 138, 3) := by decide +kernel
theorem d_Mo_send_61 : decode prog_9_method_3_code 61 = .ok (.ixor, 1) := by decide +kernel
theorem d_Mo_send_62 : decode prog_9_method_3_code 62 = .ok (.istore 5, 2) := by decide +kernel
theorem d_Mo_send_64 : decode prog_9_method_3_code 64 = .ok (.aload_n 0, 1) := by decide +kernel
theorem d_Mo_send_65 : decode prog_9_method_3_code 65 = .ok (.getfield 13, 3) := by decide +kernel
theorem d_Mo_send_68 : decode prog_9_method_3_code 68 = .ok (.iload 4, 2) := by decide +kernel
theorem d_Mo_send_70 : decode prog_9_method_3_code 70 = .ok (.bipush 126, 2) := by decide +kernel
theorem d_Mo_send_72 : decode prog_9_method_3_code 72 = .ok (.iastore, 1) := by decide +kernel
theorem d_Mo_send_73 : decode prog_9_method_3_code 73 = .ok (.aload_n 0, 1) := by decide +kernel
theorem d_Mo_send_74 : decode prog_9_method_3_code 74 = .ok (.getfield 13, 3) := by decide +kernel
theorem d_Mo_send_77 : decode prog_9_method_3_code 77 = .ok (.iload 4, 2) := by decide +kernel
theorem d_Mo_send_79 : decode prog_9_method_3_code 79 = .ok (.iconst 1, 1) := by decide +kernel
theorem d_Mo_send_80 : decode prog_9_method_3_code 80 = .ok (.iadd, 1) := by decide +kernel
theorem d_Mo_send_81 : decode prog_9_method_3_code 81 = .ok (.iload_n 2, 1) := by decide +kernel
theorem d_Mo_send_82 : decode prog_9_method_3_code 82 = .ok (.iastore, 1) := by decide +kernel
theorem d_Mo_send_83 : decode prog_9_method_3_code 83 = .ok (.aload_n 0, 1) := by decide +kernel
theorem d_Mo_send_84 : decode prog_9_method_3_code 84 = .ok (.getfield 13, 3) := by decide +kernel
theorem d_Mo_send_87 : decode prog_9_method_3_code 87 = .ok (.iload 4, 2) := by decide +kernel
theorem d_Mo_send_89 : decode prog_9_method_3_code 89 = .ok (.iconst 2, 1) := by decide +kernel
theorem d_Mo_send_90 : decode prog_9_method_3_code 90 = .ok (.iadd, 1) := by decide +kernel
theorem d_Mo_send_91 : decode prog_9_method_3_code 91 = .ok (.iload_n 3, 1) := by decide +kernel
theorem d_Mo_send_92 : decode prog_9_method_3_code 92 = .ok (.iastore, 1) := by decide +kernel
theorem d_Mo_send_93 : decode prog_9_method_3_code 93 = .ok (.aload_n 0, 1) := by decide +kernel
theorem d_Mo_send_94 : decode prog_9_method_3_code 94 = .ok (.getfield 13, 3) := by decide +kernel
theorem d_Mo_send_97 : decode prog_9_method_3_code 97 = .ok (.iload 4, 2) := by decide +kernel
theorem d_Mo_send_99 : decode prog_9_method_3_code 99 = .ok (.iconst 3, 1) := by decide +kernel
theorem d_Mo_send_100 : decode prog_9_method_3_code 100 = .ok (.iadd, 1) := by decide +kernel
theorem d_Mo_send_101 : decode prog_9_method_3_code 101 = .ok (.aload_n 0, 1) := by decide +kernel
theorem d_Mo_send_102 : decode prog_9_method_3_code 102 = .ok (.getfield 138, 3) := by decide +kernel
theorem d_Mo_send_105 : decode prog_9_method_3_code 105 = .ok (.iastore, 1) := by decide +kernel
theorem d_Mo_send_106 : decode prog_9_method_3_code 106 = .ok (.iconst 0, 1) := by decide +kernel
theorem d_Mo_send_107 : decode prog_9_method_3_code 107 = .ok (.istore 6, 2) := by decide +kernel
theorem d_Mo_send_109 : decode prog_9_method_3_code 109 = .ok (.iload 6, 2) := by decide +kernel
theorem d_Mo_send_111 : decode prog_9_method_3_code 111 = .ok (.aload_n 0, 1) := by decide +kernel
theorem d_Mo_send_112 : decode prog_9_method_3_code 112 = .ok (.getfield 138, 3) := by decide +kernel
theorem d_Mo_send_115 : decode prog_9_method_3_code 115 = .ok (.if_icmp .ge (40), 3) := by decide +kernel
theorem d_Mo_send_118 : decode prog_9_method_3_code 118 = .ok (.aload_n 0, 1) := by decide +kernel
theorem d_Mo_send_119 : decode prog_9_method_3_code 119 = .ok (.getfield 13, 3) := by decide +kernel
theorem d_Mo_send_122 : decode prog_9_method_3_code 122 = .ok (.iload 4, 2) := by decide +kernel
theorem d_Mo_send_124 : decode prog_9_method_3_code 124 = .ok (.iconst 4, 1) := by decide +kernel
theorem d_Mo_send_125 : decode prog_9_method_3_code 125 = .ok (.iadd, 1) := by decide +kernel
theorem d_Mo_send_126 : decode prog_9_method_3_code 126 = .ok (.iload 6, 2) := by decide +kernel
theorem d_Mo_send_128 : decode prog_9_method_3_code 128 = .ok (.iadd, 1) := by decide +kernel
theorem d_Mo_send_129 : decode prog_9_method_3_code 129 = .ok (.aload_n 0, 1) := by decide +kernel
theorem d_Mo_send_130 : decode prog_9_method_3_code 130 = .ok (.getfield 135, 3) := by decide +kernel
theorem d_Mo_send_133 : decode prog_9_method_3_code 133 = .ok (.iload 6, 2) := by decide +kernel
theorem d_Mo_send_135 : decode prog_9_method_3_code 135 = .ok (.iaload, 1) := by decide +kernel
theorem d_Mo_send_136 : decode prog_9_method_3_code 136 = .ok (.iastore, 1) := by decide +kernel
theorem d_Mo_send_137 : decode prog_9_method_3_code 137 = .ok (.iload 5, 2) := by decide +kernel
theorem d_Mo_send_139 : decode prog_9_method_3_code 139 = .ok (.aload_n 0, 1) := by decide +kernel
theorem d_Mo_send_140 : decode prog_9_method_3_code 140 = .ok (.getfield 135, 3) := by decide +kernel
theorem d_Mo_send_143 : decode prog_9_method_3_code 143 = .ok (.iload 6, 2) := by decide +kernel
theorem d_Mo_send_145 : decode prog_9_method_3_code 145 = .ok (.iaload, 1) := by decide +kernel
theorem d_Mo_send_146 : decode prog_9_method_3_code 146 = .ok (.ixor, 1) := by decide +kernel
theorem d_Mo_send_147 : decode prog_9_method_3_code 147 = .ok (.istore 5, 2) := by decide +kernel
theorem d_Mo_send_149 : decode prog_9_method_3_code 149 = .ok (.iinc 6 1, 3) := by decide +kernel
theorem d_Mo_send_152 : decode prog_9_method_3_code 152 = .ok (.goto (-43), 3) := by decide +kernel
theorem d_Mo_send_155 : decode prog_9_method_3_code 155 = .ok (.aload_n 0, 1) := by decide +kernel
theorem d_Mo_send_156 : decode prog_9_method_3_code 156 = .ok (.getfield 13, 3) := by decide +kernel
theorem d_Mo_send_159 : decode prog_9_method_3_code 159 = .ok (.iload 4, 2) := by decide +kernel
theorem d_Mo_send_161 : decode prog_9_method_3_code 161 = .ok (.iconst 4, 1) := by decide +kernel
theorem d_Mo_send_162 : decode prog_9_method_3_code 162 = .ok (.iadd, 1) := by decide +kernel
theorem d_Mo_send_163 : decode prog_9_method_3_code 163 = .ok (.aload_n 0, 1) := by decide +kernel
theorem d_Mo_send_164 : decode prog_9_method_3_code 164 = .ok (.getfield 138, 3) := by decide +kernel
theorem d_Mo_send_167 : decode prog_9_method_3_code 167 = .ok (.iadd, 1) := by decide +kernel
theorem d_Mo_send_168 : decode prog_9_method_3_code 168 = .ok (.iload 5, 2) := by decide +kernel
theorem d_Mo_send_170 : decode prog_9_method_3_code 170 = .ok (.iastore, 1) := by decide +kernel
theorem d_Mo_send_171 : decode prog_9_method_3_code 171 = .ok (.aload_n 0, 1) := by decide +kernel
theorem d_Mo_send_172 : decode prog_9_method_3_code 172 = .ok (.getfield 17, 3) := by decide +kernel
theorem d_Mo_send_175 : decode prog_9_method_3_code 175 = .ok (.iload_n 1, 1) := by decide +kernel
theorem d_Mo_send_176 : decode prog_9_method_3_code 176 = .ok (.dup2, 1) := by decide +kernel
theorem d_Mo_send_177 : decode prog_9_method_3_code 177 = .ok (.iaload, 1) := by decide +kernel
theorem d_Mo_send_178 : decode prog_9_method_3_code 178 = .ok (.aload_n 0, 1) := by decide +kernel
theorem d_Mo_send_179 : decode prog_9_method_3_code 179 = .ok (.getfield 138, 3) := by decide +kernel
theorem d_Mo_send_182 : decode prog_9_method_3_code 182 = .ok (.iconst 5, 1) := by decide +kernel
theorem d_Mo_send_183 : decode prog_9_method_3_code 183 = .ok (.iadd, 1) := by decide +kernel
theorem d_Mo_send_184 : decode prog_9_method_3_code 184 = .ok (.iadd, 1) := by decide +kernel
theorem d_Mo_send_185 : decode prog_9_method_3_code 185 = .ok (.iastore, 1) := by decide +kernel
theorem d_Mo_send_186 : decode prog_9_method_3_code 186 = .ok (.iconst 1, 1) := by decide +kernel
theorem d_Mo_send_187 : decode prog_9_method_3_code 187 = .ok (.ireturn, 1) := by decide +kernel
theorem d_Mo_put_0 : decode prog_9_method_4_code 0 = .ok (.aload_n 0, 1) := by decide +kernel
theorem d_Mo_put_1 : decode prog_9_method_4_code 1 = .ok (.getfield 135, 3) := by decide +kernel
theorem d_Mo_put_4 : decode prog_9_method_4_code 4 = .ok (.aload_n 0, 1) := by decide +kernel
theorem d_Mo_put_5 : decode prog_9_method_4_code 5 = .ok (.getfield 138, 3) := by decide +kernel
theorem d_Mo_put_8 : decode prog_9_method_4_code 8 = .ok (.iload_n 1, 1) := by decide +kernel
theorem d_Mo_put_9 : decode prog_9_method_4_code 9 = .ok (.sipush 255, 3) := by decide +kernel
theorem d_Mo_put_12 : decode prog_9_method_4_code 12 = .ok (.iand, 1) := by decide +kernel
theorem d_Mo_put_13 : decode prog_9_method_4_code 13 = .ok (.iastore, 1) := by decide +kernel
theorem d_Mo_put_14 : decode prog_9_method_4_code 14 = .ok (.aload_n 0, 1) := by decide +kernel
theorem d_Mo_put_15 : decode prog_9_method_4_code 15 = .ok (.dup, 1) := by decide +kernel
theorem d_Mo_put_16 : decode prog_9_method_4_code 16 = .ok (.getfield 138, 3) := by decide +kernel
theorem d_Mo_put_19 : decode prog_9_method_4_code 19 = .ok (.iconst 1, 1) := by decide +kernel
theorem d_Mo_put_20 : decode prog_9_method_4_code 20 = .ok (.iadd, 1) := by decide +kernel
theorem d_Mo_put_21 : decode prog_9_method_4_code 21 = .ok (.putfield 138, 3) := by decide +kernel
theorem d_Mo_put_24 : decode prog_9_method_4_code 24 = .ok (.return_, 1) := by decide +kernel
theorem d_Mo_sendLast_0 : decode prog_9_method_5_code 0 = .ok (.aload_n 0, 1) := by decide +kernel
theorem d_Mo_sendLast_1 : decode prog_9_method_5_code 1 = .ok (.iconst 0, 1) := by decide +kernel
theorem d_Mo_sendLast_2 : decode prog_9_method_5_code 2 = .ok (.putfield 138, 3) := by decide +kernel
theorem d_Mo_sendLast_5 : decode prog_9_method_5_code 5 = .ok (.iconst 0, 1) := by decide +kernel
theorem d_Mo_sendLast_6 : decode prog_9_method_5_code 6 = .ok (.istore_n 2, 1) := by decide +kernel
theorem d_Mo_sendLast_7 : decode prog_9_method_5_code 7 = .ok (.iload_n 2, 1) := by decide +kernel
theorem d_Mo_sendLast_8 : decode prog_9_method_5_code 8 = .ok (.aload_n 0, 1) := by decide +kernel
theorem d_Mo_sendLast_9 : decode prog_9_method_5_code 9 = .ok (.getfield 99, 3) := by decide +kernel
theorem d_Mo_sendLast_12 : decode prog_9_method_5_code 12 = .ok (.iload_n 1, 1) := by decide +kernel
theorem d_Mo_sendLast_13 : decode prog_9_method_5_code 13 = .ok (.iaload, 1) := by decide +kernel
theorem d_Mo_sendLast_14 : decode prog_9_method_5_code 14 = .ok (.if_icmp .ge (24), 3) := by decide +kernel
theorem d_Mo_sendLast_17 : decode prog_9_method_5_code 17 = .ok (.aload_n 0, 1) := by decide +kernel
theorem d_Mo_sendLast_18 : decode prog_9_method_5_code 18 = .ok (.aload_n 0, 1) := by decide +kernel
theorem d_Mo_sendLast_19 : decode prog_9_method_5_code 19 = .ok (.getfield 102, 3) := by decide +kernel
theorem d_Mo_sendLast_22 : decode prog_9_method_5_code 22 = .ok (.bipush 20, 2) := by decide +kernel
theorem d_Mo_sendLast_24 : decode prog_9_method_5_code 24 = .ok (.iload_n 1, 1) := by decide +kernel
theorem d_Mo_sendLast_25 : decode prog_9_method_5_code 25 = .ok (.imul, 1) := by decide +kernel
theorem d_Mo_sendLast_26 : decode prog_9_method_5_code 26 = .ok (.iload_n 2, 1) := by decide +kernel
theorem d_Mo_sendLast_27 : decode prog_9_method_5_code 27 = .ok (.iadd, 1) := by decide +kernel
theorem d_Mo_sendLast_28 : decode prog_9_method_5_code 28 = .ok (.iaload, 1) := by decide +kernel
theorem d_Mo_sendLast_29 : decode prog_9_method_5_code 29 = .ok (.invokevirtual 144, 3) := by decide +kernel
theorem d_Mo_sendLast_32 : decode prog_9_method_5_code 32 = .ok (.iinc 2 1, 3) := by decide +kernel
theorem d_Mo_sendLast_35 : decode prog_9_method_5_code 35 = .ok (.goto (-28), 3) := by decide +kernel
theorem d_Mo_sendLast_38 : decode prog_9_method_5_code 38 = .ok (.aload_n 0, 1) := by decide +kernel
theorem d_Mo_sendLast_39 : decode prog_9_method_5_code 39 = .ok (.getfield 93, 3) := by decide +kernel
theorem d_Mo_sendLast_42 : decode prog_9_method_5_code 42 = .ok (.iload_n 1, 1) := by decide +kernel
theorem d_Mo_sendLast_43 : decode prog_9_method_5_code 43 = .ok (.aload_n 0, 1) := by decide +kernel
theorem d_Mo_sendLast_44 : decode prog_9_method_5_code 44 = .ok (.getfield 148, 3) := by decide +kernel
theorem d_Mo_sendLast_47 : decode prog_9_method_5_code 47 = .ok (.iastore, 1) := by decide +kernel
theorem d_Mo_sendLast_48 : decode prog_9_method_5_code 48 = .ok (.aload_n 0, 1) := by decide +kernel
theorem d_Mo_sendLast_49 : decode prog_9_method_5_code 49 = .ok (.aload_n 0, 1) := by decide +kernel
theorem d_Mo_sendLast_50 : decode prog_9_method_5_code 50 = .ok (.getfield 42, 3) := by decide +kernel
theorem d_Mo_sendLast_53 : decode prog_9_method_5_code 53 = .ok (.iload_n 1, 1) := by decide +kernel
theorem d_Mo_sendLast_54 : decode prog_9_method_5_code 54 = .ok (.iaload, 1) := by decide +kernel
theorem d_Mo_sendLast_55 : decode prog_9_method_5_code 55 = .ok (.aload_n 0, 1) := by decide +kernel
theorem d_Mo_sendLast_56 : decode prog_9_method_5_code 56 = .ok (.getfield 96, 3) := by decide +kernel
theorem d_Mo_sendLast_59 : decode prog_9_method_5_code 59 = .ok (.iload_n 1, 1) := by decide +kernel
theorem d_Mo_sendLast_60 : decode prog_9_method_5_code 60 = .ok (.iaload, 1) := by decide +kernel
theorem d_Mo_sendLast_61 : decode prog_9_method_5_code 61 = .ok (.iload_n 1, 1) := by decide +kernel
theorem d_Mo_sendLast_62 : decode prog_9_method_5_code 62 = .ok (.invokevirtual 151, 3) := by decide +kernel
theorem d_Mo_sendLast_65 : decode prog_9_method_5_code 65 = .ok (.ireturn, 1) := by decide +kernel
theorem d_Mo_keep_0 : decode prog_9_method_6_code 0 = .ok (.aload_n 0, 1) := by decide +kernel
theorem d_Mo_keep_1 : decode prog_9_method_6_code 1 = .ok (.getfield 96, 3) := by decide +kernel
theorem d_Mo_keep_4 : decode prog_9_method_6_code 4 = .ok (.iload_n 1, 1) := by decide +kernel
theorem d_Mo_keep_5 : decode prog_9_method_6_code 5 = .ok (.iload_n 2, 1) := by decide +kernel
theorem d_Mo_keep_6 : decode prog_9_method_6_code 6 = .ok (.iastore, 1) := by decide +kernel
theorem d_Mo_keep_7 : decode prog_9_method_6_code 7 = .ok (.aload_n 0, 1) := by decide +kernel
theorem d_Mo_keep_8 : decode prog_9_method_6_code 8 = .ok (.getfield 99, 3) := by decide +kernel
theorem d_Mo_keep_11 : decode prog_9_method_6_code 11 = .ok (.iload_n 1, 1) := by decide +kernel
theorem d_Mo_keep_12 : decode prog_9_method_6_code 12 = .ok (.aload_n 0, 1) := by decide +kernel
theorem d_Mo_keep_13 : decode prog_9_method_6_code 13 = .ok (.getfield 138, 3) := by decide +kernel
theorem d_Mo_keep_16 : decode prog_9_method_6_code 16 = .ok (.iastore, 1) := by decide +kernel
theorem d_Mo_keep_17 : decode prog_9_method_6_code 17 = .ok (.iconst 0, 1) := by decide +kernel
theorem d_Mo_keep_18 : decode prog_9_method_6_code 18 = .ok (.istore_n 3, 1) := by decide +kernel
theorem d_Mo_keep_19 : decode prog_9_method_6_code 19 = .ok (.iload_n 3, 1) := by decide +kernel
theorem d_Mo_keep_20 : decode prog_9_method_6_code 20 = .ok (.aload_n 0, 1) := by decide +kernel
theorem d_Mo_keep_21 : decode prog_9_method_6_code 21 = .ok (.getfield 138, 3) := by decide +kernel
theorem d_Mo_keep_24 : decode prog_9_method_6_code 24 = .ok (.if_icmp .ge (26), 3) := by decide +kernel
theorem d_Mo_keep_27 : decode prog_9_method_6_code 27 = .ok (.aload_n 0, 1) := by decide +kernel
theorem d_Mo_keep_28 : decode prog_9_method_6_code 28 = .ok (.getfield 102, 3) := by decide +kernel
theorem d_Mo_keep_31 : decode prog_9_method_6_code 31 = .ok (.bipush 20, 2) := by decide +kernel
theorem d_Mo_keep_33 : decode prog_9_method_6_code 33 = .ok (.iload_n 1, 1) := by decide +kernel
theorem d_Mo_keep_34 : decode prog_9_method_6_code 34 = .ok (.imul, 1) := by decide +kernel
theorem d_Mo_keep_35 : decode prog_9_method_6_code 35 = .ok (.iload_n 3, 1) := by decide +kernel
theorem d_Mo_keep_36 : decode prog_9_method_6_code 36 = .ok (.iadd, 1) := by decide +kernel
theorem d_Mo_keep_37 : decode prog_9_method_6_code 37 = .ok (.aload_n 0, 1) := by decide +kernel
theorem d_Mo_keep_38 : decode prog_9_method_6_code 38 = .ok (.getfield 135, 3) := by decide +kernel
theorem d_Mo_keep_41 : decode prog_9_method_6_code 41 = .ok (.iload_n 3, 1) := by decide +kernel
theorem d_Mo_keep_42 : decode prog_9_method_6_code 42 = .ok (.iaload, 1) := by decide +kernel
theorem d_Mo_keep_43 : decode prog_9_method_6_code 43 = .ok (.iastore, 1) := by decide +kernel
theorem d_Mo_keep_44 : decode prog_9_method_6_code 44 = .ok (.iinc 3 1, 3) := by decide +kernel
theorem d_Mo_keep_47 : decode prog_9_method_6_code 47 = .ok (.goto (-28), 3) := by decide +kernel
theorem d_Mo_keep_50 : decode prog_9_method_6_code 50 = .ok (.aload_n 0, 1) := by decide +kernel
theorem d_Mo_keep_51 : decode prog_9_method_6_code 51 = .ok (.getfield 90, 3) := by decide +kernel
theorem d_Mo_keep_54 : decode prog_9_method_6_code 54 = .ok (.iload_n 1, 1) := by decide +kernel
theorem d_Mo_keep_55 : decode prog_9_method_6_code 55 = .ok (.iconst 0, 1) := by decide +kernel
theorem d_Mo_keep_56 : decode prog_9_method_6_code 56 = .ok (.iastore, 1) := by decide +kernel
theorem d_Mo_keep_57 : decode prog_9_method_6_code 57 = .ok (.aload_n 0, 1) := by decide +kernel
theorem d_Mo_keep_58 : decode prog_9_method_6_code 58 = .ok (.iload_n 1, 1) := by decide +kernel
theorem d_Mo_keep_59 : decode prog_9_method_6_code 59 = .ok (.invokevirtual 155, 3) := by decide +kernel
theorem d_Mo_keep_62 : decode prog_9_method_6_code 62 = .ok (.pop, 1) := by decide +kernel
theorem d_Mo_keep_63 : decode prog_9_method_6_code 63 = .ok (.return_, 1) := by decide +kernel
theorem d_Mo_askPart_0 : decode prog_9_method_7_code 0 = .ok (.aload_n 0, 1) := by decide +kernel
theorem d_Mo_askPart_1 : decode prog_9_method_7_code 1 = .ok (.iconst 0, 1) := by decide +kernel
theorem d_Mo_askPart_2 : decode prog_9_method_7_code 2 = .ok (.putfield 138, 3) := by decide +kernel
theorem d_Mo_askPart_5 : decode prog_9_method_7_code 5 = .ok (.aload_n 0, 1) := by decide +kernel
theorem d_Mo_askPart_6 : decode prog_9_method_7_code 6 = .ok (.aload_n 0, 1) := by decide +kernel
theorem d_Mo_askPart_7 : decode prog_9_method_7_code 7 = .ok (.getfield 87, 3) := by decide +kernel
theorem d_Mo_askPart_10 : decode prog_9_method_7_code 10 = .ok (.iload_n 1, 1) := by decide +kernel
theorem d_Mo_askPart_11 : decode prog_9_method_7_code 11 = .ok (.iaload, 1) := by decide +kernel
theorem d_Mo_askPart_12 : decode prog_9_method_7_code 12 = .ok (.invokevirtual 144, 3) := by decide +kernel
theorem d_Mo_askPart_15 : decode prog_9_method_7_code 15 = .ok (.iconst 0, 1) := by decide +kernel
theorem d_Mo_askPart_16 : decode prog_9_method_7_code 16 = .ok (.istore_n 2, 1) := by decide +kernel
theorem d_Mo_askPart_17 : decode prog_9_method_7_code 17 = .ok (.iload_n 2, 1) := by decide +kernel
theorem d_Mo_askPart_18 : decode prog_9_method_7_code 18 = .ok (.aload_n 0, 1) := by decide +kernel
theorem d_Mo_askPart_19 : decode prog_9_method_7_code 19 = .ok (.getfield 69, 3) := by decide +kernel
theorem d_Mo_askPart_22 : decode prog_9_method_7_code 22 = .ok (.iload_n 1, 1) := by decide +kernel
theorem d_Mo_askPart_23 : decode prog_9_method_7_code 23 = .ok (.iaload, 1) := by decide +kernel
theorem d_Mo_askPart_24 : decode prog_9_method_7_code 24 = .ok (.if_icmp .ge (54), 3) := by decide +kernel
theorem d_Mo_askPart_27 : decode prog_9_method_7_code 27 = .ok (.aload_n 0, 1) := by decide +kernel
theorem d_Mo_askPart_28 : decode prog_9_method_7_code 28 = .ok (.getfield 72, 3) := by decide +kernel
theorem d_Mo_askPart_31 : decode prog_9_method_7_code 31 = .ok (.iload_n 1, 1) := by decide +kernel
theorem d_Mo_askPart_32 : decode prog_9_method_7_code 32 = .ok (.iaload, 1) := by decide +kernel
theorem d_Mo_askPart_33 : decode prog_9_method_7_code 33 = .ok (.aload_n 0, 1) := by decide +kernel
theorem d_Mo_askPart_34 : decode prog_9_method_7_code 34 = .ok (.getfield 63, 3) := by decide +kernel
theorem d_Mo_askPart_37 : decode prog_9_method_7_code 37 = .ok (.iload_n 1, 1) := by decide +kernel
theorem d_Mo_askPart_38 : decode prog_9_method_7_code 38 = .ok (.iaload, 1) := by decide +kernel
theorem d_Mo_askPart_39 : decode prog_9_method_7_code 39 = .ok (.if_icmp .ge (39), 3) := by decide +kernel
theorem d_Mo_askPart_42 : decode prog_9_method_7_code 42 = .ok (.aload_n 0, 1) := by decide +kernel
theorem d_Mo_askPart_43 : decode prog_9_method_7_code 43 = .ok (.aload_n 0, 1) := by decide +kernel
theorem d_Mo_askPart_44 : decode prog_9_method_7_code 44 = .ok (.getfield 66, 3) := by decide +kernel
theorem d_Mo_askPart_47 : decode prog_9_method_7_code 47 = .ok (.bipush 20, 2) := by decide +kernel
theorem d_Mo_askPart_49 : decode prog_9_method_7_code 49 = .ok (.iload_n 1, 1) := by decide +kernel
theorem d_Mo_askPart_50 : decode prog_9_method_7_code 50 = .ok (.imul, 1) := by decide +kernel
theorem d_Mo_askPart_51 : decode prog_9_method_7_code 51 = .ok (.aload_n 0, 1) := by decide +kernel
theorem d_Mo_askPart_52 : decode prog_9_method_7_code 52 = .ok (.getfield 72, 3) := by decide +kernel
theorem d_Mo_askPart_55 : decode prog_9_method_7_code 55 = .ok (.iload_n 1, 1) := by decide +kernel
theorem d_Mo_askPart_56 : decode prog_9_method_7_code 56 = .ok (.iaload, 1) := by decide +kernel
theorem d_Mo_askPart_57 : decode prog_9_method_7_code 57 = .ok (.iadd, 1) := by decide +kernel
theorem d_Mo_askPart_58 : decode prog_9_method_7_code 58 = .ok (.iaload, 1) := by decide +kernel
theorem d_Mo_askPart_59 : decode prog_9_method_7_code 59 = .ok (.invokevirtual 144, 3) := by decide +kernel
theorem d_Mo_askPart_62 : decode prog_9_method_7_code 62 = .ok (.aload_n 0, 1) := by decide +kernel
theorem d_Mo_askPart_63 : decode prog_9_method_7_code 63 = .ok (.getfield 72, 3) := by decide +kernel
theorem d_Mo_askPart_66 : decode prog_9_method_7_code 66 = .ok (.iload_n 1, 1) := by decide +kernel
theorem d_Mo_askPart_67 : decode prog_9_method_7_code 67 = .ok (.dup2, 1) := by decide +kernel
theorem d_Mo_askPart_68 : decode prog_9_method_7_code 68 = .ok (.iaload, 1) := by decide +kernel
theorem d_Mo_askPart_69 : decode prog_9_method_7_code 69 = .ok (.iconst 1, 1) := by decide +kernel
theorem d_Mo_askPart_70 : decode prog_9_method_7_code 70 = .ok (.iadd, 1) := by decide +kernel
theorem d_Mo_askPart_71 : decode prog_9_method_7_code 71 = .ok (.iastore, 1) := by decide +kernel
theorem d_Mo_askPart_72 : decode prog_9_method_7_code 72 = .ok (.iinc 2 1, 3) := by decide +kernel
theorem d_Mo_askPart_75 : decode prog_9_method_7_code 75 = .ok (.goto (-58), 3) := by decide +kernel
theorem d_Mo_askPart_78 : decode prog_9_method_7_code 78 = .ok (.aload_n 0, 1) := by decide +kernel
theorem d_Mo_askPart_79 : decode prog_9_method_7_code 79 = .ok (.getfield 84, 3) := by decide +kernel
theorem d_Mo_askPart_82 : decode prog_9_method_7_code 82 = .ok (.iload_n 1, 1) := by decide +kernel
theorem d_Mo_askPart_83 : decode prog_9_method_7_code 83 = .ok (.iconst 0, 1) := by decide +kernel
theorem d_Mo_askPart_84 : decode prog_9_method_7_code 84 = .ok (.iastore, 1) := by decide +kernel
theorem d_Mo_askPart_85 : decode prog_9_method_7_code 85 = .ok (.aload_n 0, 1) := by decide +kernel
theorem d_Mo_askPart_86 : decode prog_9_method_7_code 86 = .ok (.iload_n 1, 1) := by decide +kernel
theorem d_Mo_askPart_87 : decode prog_9_method_7_code 87 = .ok (.iconst 1, 1) := by decide +kernel
theorem d_Mo_askPart_88 : decode prog_9_method_7_code 88 = .ok (.invokevirtual 159, 3) := by decide +kernel
theorem d_Mo_askPart_91 : decode prog_9_method_7_code 91 = .ok (.return_, 1) := by decide +kernel
theorem d_Mo_finish_0 : decode prog_9_method_8_code 0 = .ok (.aload_n 0, 1) := by decide +kernel
theorem d_Mo_finish_1 : decode prog_9_method_8_code 1 = .ok (.getfield 48, 3) := by decide +kernel
theorem d_Mo_finish_4 : decode prog_9_method_8_code 4 = .ok (.iload_n 1, 1) := by decide +kernel
theorem d_Mo_finish_5 : decode prog_9_method_8_code 5 = .ok (.iconst 1, 1) := by decide +kernel
theorem d_Mo_finish_6 : decode prog_9_method_8_code 6 = .ok (.iastore, 1) := by decide +kernel
theorem d_Mo_finish_7 : decode prog_9_method_8_code 7 = .ok (.aload_n 0, 1) := by decide +kernel
theorem d_Mo_finish_8 : decode prog_9_method_8_code 8 = .ok (.getfield 42, 3) := by decide +kernel
theorem d_Mo_finish_11 : decode prog_9_method_8_code 11 = .ok (.iload_n 1, 1) := by decide +kernel
theorem d_Mo_finish_12 : decode prog_9_method_8_code 12 = .ok (.iaload, 1) := by decide +kernel
theorem d_Mo_finish_13 : decode prog_9_method_8_code 13 = .ok (.istore_n 2, 1) := by decide +kernel
theorem d_Mo_finish_14 : decode prog_9_method_8_code 14 = .ok (.aload_n 0, 1) := by decide +kernel
theorem d_Mo_finish_15 : decode prog_9_method_8_code 15 = .ok (.getfield 75, 3) := by decide +kernel
theorem d_Mo_finish_18 : decode prog_9_method_8_code 18 = .ok (.iload_n 1, 1) := by decide +kernel
theorem d_Mo_finish_19 : decode prog_9_method_8_code 19 = .ok (.iaload, 1) := by decide +kernel
theorem d_Mo_finish_20 : decode prog_9_method_8_code 20 = .ok (.sipush 1000, 3) := by decide +kernel
theorem d_Mo_finish_23 : decode prog_9_method_8_code 23 = .ok (.imul, 1) := by decide +kernel
theorem d_Mo_finish_24 : decode prog_9_method_8_code 24 = .ok (.aload_n 0, 1) := by decide +kernel
theorem d_Mo_finish_25 : decode prog_9_method_8_code 25 = .ok (.getfield 63, 3) := by decide +kernel
theorem d_Mo_finish_28 : decode prog_9_method_8_code 28 = .ok (.iload_n 1, 1) := by decide +kernel
theorem d_Mo_finish_29 : decode prog_9_method_8_code 29 = .ok (.iaload, 1) := by decide +kernel
theorem d_Mo_finish_30 : decode prog_9_method_8_code 30 = .ok (.idiv, 1) := by decide +kernel
theorem d_Mo_finish_31 : decode prog_9_method_8_code 31 = .ok (.istore_n 3, 1) := by decide +kernel
theorem d_Mo_finish_32 : decode prog_9_method_8_code 32 = .ok (.aload_n 0, 1) := by decide +kernel
theorem d_Mo_finish_33 : decode prog_9_method_8_code 33 = .ok (.getfield 105, 3) := by decide +kernel
theorem d_Mo_finish_36 : decode prog_9_method_8_code 36 = .ok (.iload_n 2, 1) := by decide +kernel
theorem d_Mo_finish_37 : decode prog_9_method_8_code 37 = .ok (.aload_n 0, 1) := by decide +kernel
theorem d_Mo_finish_38 : decode prog_9_method_8_code 38 = .ok (.getfield 108, 3) := by decide +kernel
theorem d_Mo_finish_41 : decode prog_9_method_8_code 41 = .ok (.iload_n 2, 1) := by decide +kernel
theorem d_Mo_finish_42 : decode prog_9_method_8_code 42 = .ok (.baload, 1) := by decide +kernel
theorem d_Mo_finish_43 : decode prog_9_method_8_code 43 = .ok (.ifCond .eq (16), 3) := by decide +kernel
theorem d_Mo_finish_46 : decode prog_9_method_8_code 46 = .ok (.aload_n 0, 1) := by decide +kernel
theorem d_Mo_finish_47 : decode prog_9_method_8_code 47 = .ok (.getfield 105, 3) := by decide +kernel
theorem d_Mo_finish_50 : decode prog_9_method_8_code 50 = .ok (.iload_n 2, 1) := by decide +kernel
theorem d_Mo_finish_51 : decode prog_9_method_8_code 51 = .ok (.iaload, 1) := by decide +kernel
theorem d_Mo_finish_52 : decode prog_9_method_8_code 52 = .ok (.iload_n 3, 1) := by decide +kernel
theorem d_Mo_finish_53 : decode prog_9_method_8_code 53 = .ok (.iadd, 1) := by decide +kernel
theorem d_Mo_finish_54 : decode prog_9_method_8_code 54 = .ok (.iconst 2, 1) := by decide +kernel
theorem d_Mo_finish_55 : decode prog_9_method_8_code 55 = .ok (.idiv, 1) := by decide +kernel
theorem d_Mo_finish_56 : decode prog_9_method_8_code 56 = .ok (.goto (4), 3) := by decide +kernel
theorem d_Mo_finish_59 : decode prog_9_method_8_code 59 = .ok (.iload_n 3, 1) := by decide +kernel
theorem d_Mo_finish_60 : decode prog_9_method_8_code 60 = .ok (.iastore, 1) := by decide +kernel
theorem d_Mo_finish_61 : decode prog_9_method_8_code 61 = .ok (.aload_n 0, 1) := by decide +kernel
theorem d_Mo_finish_62 : decode prog_9_method_8_code 62 = .ok (.getfield 108, 3) := by decide +kernel
theorem d_Mo_finish_65 : decode prog_9_method_8_code 65 = .ok (.iload_n 2, 1) := by decide +kernel
theorem d_Mo_finish_66 : decode prog_9_method_8_code 66 = .ok (.iconst 1, 1) := by decide +kernel
theorem d_Mo_finish_67 : decode prog_9_method_8_code 67 = .ok (.bastore, 1) := by decide +kernel
theorem d_Mo_finish_68 : decode prog_9_method_8_code 68 = .ok (.return_, 1) := by decide +kernel
theorem d_Mo_fail_0 : decode prog_9_method_9_code 0 = .ok (.aload_n 0, 1) := by decide +kernel
theorem d_Mo_fail_1 : decode prog_9_method_9_code 1 = .ok (.getfield 51, 3) := by decide +kernel
theorem d_Mo_fail_4 : decode prog_9_method_9_code 4 = .ok (.iload_n 1, 1) := by decide +kernel
theorem d_Mo_fail_5 : decode prog_9_method_9_code 5 = .ok (.iload_n 2, 1) := by decide +kernel
theorem d_Mo_fail_6 : decode prog_9_method_9_code 6 = .ok (.iastore, 1) := by decide +kernel
theorem d_Mo_fail_7 : decode prog_9_method_9_code 7 = .ok (.aload_n 0, 1) := by decide +kernel
theorem d_Mo_fail_8 : decode prog_9_method_9_code 8 = .ok (.getfield 48, 3) := by decide +kernel
theorem d_Mo_fail_11 : decode prog_9_method_9_code 11 = .ok (.iload_n 1, 1) := by decide +kernel
theorem d_Mo_fail_12 : decode prog_9_method_9_code 12 = .ok (.aload_n 0, 1) := by decide +kernel
theorem d_Mo_fail_13 : decode prog_9_method_9_code 13 = .ok (.getfield 45, 3) := by decide +kernel
theorem d_Mo_fail_16 : decode prog_9_method_9_code 16 = .ok (.iload_n 1, 1) := by decide +kernel
theorem d_Mo_fail_17 : decode prog_9_method_9_code 17 = .ok (.baload, 1) := by decide +kernel
theorem d_Mo_fail_18 : decode prog_9_method_9_code 18 = .ok (.ifCond .eq (7), 3) := by decide +kernel
theorem d_Mo_fail_21 : decode prog_9_method_9_code 21 = .ok (.iconst 1, 1) := by decide +kernel
theorem d_Mo_fail_22 : decode prog_9_method_9_code 22 = .ok (.goto (4), 3) := by decide +kernel
theorem d_Mo_fail_25 : decode prog_9_method_9_code 25 = .ok (.iconst 2, 1) := by decide +kernel
theorem d_Mo_fail_26 : decode prog_9_method_9_code 26 = .ok (.iastore, 1) := by decide +kernel
theorem d_Mo_fail_27 : decode prog_9_method_9_code 27 = .ok (.aload_n 0, 1) := by decide +kernel
theorem d_Mo_fail_28 : decode prog_9_method_9_code 28 = .ok (.getfield 75, 3) := by decide +kernel
theorem d_Mo_fail_31 : decode prog_9_method_9_code 31 = .ok (.iload_n 1, 1) := by decide +kernel
theorem d_Mo_fail_32 : decode prog_9_method_9_code 32 = .ok (.aload_n 0, 1) := by decide +kernel
theorem d_Mo_fail_33 : decode prog_9_method_9_code 33 = .ok (.getfield 45, 3) := by decide +kernel
theorem d_Mo_fail_36 : decode prog_9_method_9_code 36 = .ok (.iload_n 1, 1) := by decide +kernel
theorem d_Mo_fail_37 : decode prog_9_method_9_code 37 = .ok (.baload, 1) := by decide +kernel
theorem d_Mo_fail_38 : decode prog_9_method_9_code 38 = .ok (.ifCond .eq (7), 3) := by decide +kernel
theorem d_Mo_fail_41 : decode prog_9_method_9_code 41 = .ok (.iconst 0, 1) := by decide +kernel
theorem d_Mo_fail_42 : decode prog_9_method_9_code 42 = .ok (.goto (9), 3) := by decide +kernel
theorem d_Mo_fail_45 : decode prog_9_method_9_code 45 = .ok (.aload_n 0, 1) := by decide +kernel
theorem d_Mo_fail_46 : decode prog_9_method_9_code 46 = .ok (.getfield 75, 3) := by decide +kernel
theorem d_Mo_fail_49 : decode prog_9_method_9_code 49 = .ok (.iload_n 1, 1) := by decide +kernel
theorem d_Mo_fail_50 : decode prog_9_method_9_code 50 = .ok (.iaload, 1) := by decide +kernel
theorem d_Mo_fail_51 : decode prog_9_method_9_code 51 = .ok (.iastore, 1) := by decide +kernel
theorem d_Mo_fail_52 : decode prog_9_method_9_code 52 = .ok (.return_, 1) := by decide +kernel
theorem d_Mo_isFailedSilently_0 : decode prog_9_method_10_code 0 = .ok (.aload_n 0, 1) := by decide +kernel
theorem d_Mo_isFailedSilently_1 : decode prog_9_method_10_code 1 = .ok (.getfield 48, 3) := by decide +kernel
theorem d_Mo_isFailedSilently_4 : decode prog_9_method_10_code 4 = .ok (.iload_n 1, 1) := by decide +kernel
theorem d_Mo_isFailedSilently_5 : decode prog_9_method_10_code 5 = .ok (.iaload, 1) := by decide +kernel
theorem d_Mo_isFailedSilently_6 : decode prog_9_method_10_code 6 = .ok (.iconst 1, 1) := by decide +kernel
theorem d_Mo_isFailedSilently_7 : decode prog_9_method_10_code 7 = .ok (.if_icmp .ne (16), 3) := by decide +kernel
theorem d_Mo_isFailedSilently_10 : decode prog_9_method_10_code 10 = .ok (.aload_n 0, 1) := by decide +kernel
theorem d_Mo_isFailedSilently_11 : decode prog_9_method_10_code 11 = .ok (.getfield 51, 3) := by decide +kernel
theorem d_Mo_isFailedSilently_14 : decode prog_9_method_10_code 14 = .ok (.iload_n 1, 1) := by decide +kernel
theorem d_Mo_isFailedSilently_15 : decode prog_9_method_10_code 15 = .ok (.iaload, 1) := by decide +kernel
theorem d_Mo_isFailedSilently_16 : decode prog_9_method_10_code 16 = .ok (.ifCond .le (7), 3) := by decide +kernel
theorem d_Mo_isFailedSilently_19 : decode prog_9_method_10_code 19 = .ok (.iconst 1, 1) := by decide +kernel
theorem d_Mo_isFailedSilently_20 : decode prog_9_method_10_code 20 = .ok (.goto (4), 3) := by decide +kernel
theorem d_Mo_isFailedSilently_23 : decode prog_9_method_10_code 23 = .ok (.iconst 0, 1) := by decide +kernel
theorem d_Mo_isFailedSilently_24 : decode prog_9_method_10_code 24 = .ok (.ireturn, 1) := by decide +kernel
theorem d_Mo_setting_0 : decode prog_9_method_11_code 0 = .ok (.iload_n 1, 1) := by decide +kernel
theorem d_Mo_setting_1 : decode prog_9_method_11_code 1 = .ok (.ifCond .ne (13), 3) := by decide +kernel
theorem d_Mo_setting_4 : decode prog_9_method_11_code 4 = .ok (.iload_n 2, 1) := by decide +kernel
theorem d_Mo_setting_5 : decode prog_9_method_11_code 5 = .ok (.iconst 1, 1) := by decide +kernel
theorem d_Mo_setting_6 : decode prog_9_method_11_code 6 = .ok (.bipush 8, 2) := by decide +kernel
theorem d_Mo_setting_8 : decode prog_9_method_11_code 8 = .ok (.invokestatic 163, 3) := by decide +kernel
theorem d_Mo_setting_11 : decode prog_9_method_11_code 11 = .ok (.ifCond .ne (32), 3) := by decide +kernel
theorem d_Mo_setting_14 : decode prog_9_method_11_code 14 = .ok (.iload_n 1, 1) := by decide +kernel
theorem d_Mo_setting_15 : decode prog_9_method_11_code 15 = .ok (.iconst 1, 1) := by decide +kernel
theorem d_Mo_setting_16 : decode prog_9_method_11_code 16 = .ok (.if_icmp .ne (13), 3) := by decide +kernel
theorem d_Mo_setting_19 : decode prog_9_method_11_code 19 = .ok (.iload_n 2, 1) := by decide +kernel
theorem d_Mo_setting_20 : decode prog_9_method_11_code 20 = .ok (.iconst 1, 1) := by decide +kernel
theorem d_Mo_setting_21 : decode prog_9_method_11_code 21 = .ok (.bipush 100, 2) := by decide +kernel
theorem d_Mo_setting_23 : decode prog_9_method_11_code 23 = .ok (.invokestatic 163, 3) := by decide +kernel
theorem d_Mo_setting_26 : decode prog_9_method_11_code 26 = .ok (.ifCond .ne (17), 3) := by decide +kernel
theorem d_Mo_setting_29 : decode prog_9_method_11_code 29 = .ok (.iload_n 1, 1) := by decide +kernel
theorem d_Mo_setting_30 : decode prog_9_method_11_code 30 = .ok (.iconst 2, 1) := by decide +kernel
theorem d_Mo_setting_31 : decode prog_9_method_11_code 31 = .ok (.if_icmp .ne (16), 3) := by decide +kernel
theorem d_Mo_setting_34 : decode prog_9_method_11_code 34 = .ok (.iload_n 2, 1) := by decide +kernel
theorem d_Mo_setting_35 : decode prog_9_method_11_code 35 = .ok (.iconst 0, 1) := by decide +kernel
theorem d_Mo_setting_36 : decode prog_9_method_11_code 36 = .ok (.iconst 5, 1) := by decide +kernel
theorem d_Mo_setting_37 : decode prog_9_method_11_code 37 = .ok (.invokestatic 163, 3) := by decide +kernel
theorem d_Mo_setting_40 : decode prog_9_method_11_code 40 = .ok (.ifCond .eq (7), 3) := by decide +kernel
theorem d_Mo_setting_43 : decode prog_9_method_11_code 43 = .ok (.iconst 1, 1) := by decide +kernel
theorem d_Mo_setting_44 : decode prog_9_method_11_code 44 = .ok (.goto (4), 3) := by decide +kernel
theorem d_Mo_setting_47 : decode prog_9_method_11_code 47 = .ok (.iconst 0, 1) := by decide +kernel
theorem d_Mo_setting_48 : decode prog_9_method_11_code 48 = .ok (.istore_n 3, 1) := by decide +kernel
theorem d_Mo_setting_49 : decode prog_9_method_11_code 49 = .ok (.iload_n 3, 1) := by decide +kernel
theorem d_Mo_setting_50 : decode prog_9_method_11_code 50 = .ok (.ifCond .ne (5), 3) := by decide +kernel
theorem d_Mo_setting_53 : decode prog_9_method_11_code 53 = .ok (.iconst (-1), 1) := by decide +kernel
theorem d_Mo_setting_54 : decode prog_9_method_11_code 54 = .ok (.ireturn, 1) := by decide +kernel
theorem d_Mo_setting_55 : decode prog_9_method_11_code 55 = .ok (.iload_n 1, 1) := by decide +kernel
theorem d_Mo_setting_56 : decode prog_9_method_11_code 56 = .ok (.ifCond .ne (10), 3) := by decide +kernel
theorem d_Mo_setting_59 : decode prog_9_method_11_code 59 = .ok (.aload_n 0, 1) := by decide +kernel
theorem d_Mo_setting_60 : decode prog_9_method_11_code 60 = .ok (.getfield 26, 3) := by decide +kernel
theorem d_Mo_setting_63 : decode prog_9_method_11_code 63 = .ok (.goto (19), 3) := by decide +kernel
theorem d_Mo_setting_66 : decode prog_9_method_11_code 66 = .ok (.iload_n 1, 1) := by decide +kernel
theorem d_Mo_setting_67 : decode prog_9_method_11_code 67 = .ok (.iconst 1, 1) := by decide +kernel
theorem d_Mo_setting_68 : decode prog_9_method_11_code 68 = .ok (.if_icmp .ne (10), 3) := by decide +kernel
theorem d_Mo_setting_71 : decode prog_9_method_11_code 71 = .ok (.aload_n 0, 1) := by decide +kernel
theorem d_Mo_setting_72 : decode prog_9_method_11_code 72 = .ok (.getfield 30, 3) := by decide +kernel
theorem d_Mo_setting_75 : decode prog_9_method_11_code 75 = .ok (.goto (7), 3) := by decide +kernel
theorem d_Mo_setting_78 : decode prog_9_method_11_code 78 = .ok (.aload_n 0, 1) := by decide +kernel
theorem d_Mo_setting_79 : decode prog_9_method_11_code 79 = .ok (.getfield 33, 3) := by decide +kernel
theorem d_Mo_setting_82 : decode prog_9_method_11_code 82 = .ok (.istore 4, 2) := by decide +kernel
theorem d_Mo_setting_84 : decode prog_9_method_11_code 84 = .ok (.aload_n 0, 1) := by decide +kernel
theorem d_Mo_setting_85 : decode prog_9_method_11_code 85 = .ok (.iload_n 1, 1) := by decide +kernel
theorem d_Mo_setting_86 : decode prog_9_method_11_code 86 = .ok (.ifCond .ne (7), 3) := by decide +kernel
theorem d_Mo_setting_89 : decode prog_9_method_11_code 89 = .ok (.iload_n 2, 1) := by decide +kernel
theorem d_Mo_setting_90 : decode prog_9_method_11_code 90 = .ok (.goto (7), 3) := by decide +kernel
theorem d_Mo_setting_93 : decode prog_9_method_11_code 93 = .ok (.aload_n 0, 1) := by decide +kernel
theorem d_Mo_setting_94 : decode prog_9_method_11_code 94 = .ok (.getfield 26, 3) := by decide +kernel
theorem d_Mo_setting_97 : decode prog_9_method_11_code 97 = .ok (.putfield 26, 3) := by decide +kernel
theorem d_Mo_setting_100 : decode prog_9_method_11_code 100 = .ok (.aload_n 0, 1) := by decide +kernel
theorem d_Mo_setting_101 : decode prog_9_method_11_code 101 = .ok (.iload_n 1, 1) := by decide +kernel
theorem d_Mo_setting_102 : decode prog_9_method_11_code 102 = .ok (.iconst 1, 1) := by decide +kernel
theorem d_Mo_setting_103 : decode prog_9_method_11_code 103 = .ok (.if_icmp .ne (7), 3) := by decide +kernel
theorem d_Mo_setting_106 : decode prog_9_method_11_code 106 = .ok (.iload_n 2, 1) := by decide +kernel
theorem d_Mo_setting_107 : decode prog_9_method_11_code 107 = .ok (.goto (7), 3) := by decide +kernel
theorem d_Mo_setting_110 : decode prog_9_method_11_code 110 = .ok (.aload_n 0, 1) := by decide +kernel
theorem d_Mo_setting_111 : decode prog_9_method_11_code 111 = .ok (.getfield 30, 3) := by decide +kernel
theorem d_Mo_setting_114 : decode prog_9_method_11_code 114 = .ok (.putfield 30, 3) := by decide +kernel
theorem d_Mo_setting_117 : decode prog_9_method_11_code 117 = .ok (.aload_n 0, 1) := by decide +kernel
theorem d_Mo_setting_118 : decode prog_9_method_11_code 118 = .ok (.iload_n 1, 1) := by decide +kernel
theorem d_Mo_setting_119 : decode prog_9_method_11_code 119 = .ok (.iconst 2, 1) := by decide +kernel
theorem d_Mo_setting_120 : decode prog_9_method_11_code 120 = .ok (.if_icmp .ne (7), 3) := by decide +kernel
theorem d_Mo_setting_123 : decode prog_9_method_11_code 123 = .ok (.iload_n 2, 1) := by decide +kernel
theorem d_Mo_setting_124 : decode prog_9_method_11_code 124 = .ok (.goto (7), 3) := by decide +kernel
theorem d_Mo_setting_127 : decode prog_9_method_11_code 127 = .ok (.aload_n 0, 1) := by decide +kernel
theorem d_Mo_setting_128 : decode prog_9_method_11_code 128 = .ok (.getfield 33, 3) := by decide +kernel
theorem d_Mo_setting_131 : decode prog_9_method_11_code 131 = .ok (.putfield 33, 3) := by decide +kernel
theorem d_Mo_setting_134 : decode prog_9_method_11_code 134 = .ok (.iload 4, 2) := by decide +kernel
theorem d_Mo_setting_136 : decode prog_9_method_11_code 136 = .ok (.ireturn, 1) := by decide +kernel
theorem d_Mo_bind_0 : decode prog_9_method_12_code 0 = .ok (.iload_n 1, 1) := by decide +kernel
theorem d_Mo_bind_1 : decode prog_9_method_12_code 1 = .ok (.iconst 0, 1) := by decide +kernel
theorem d_Mo_bind_2 : decode prog_9_method_12_code 2 = .ok (.sipush 255, 3) := by decide +kernel
theorem d_Mo_bind_5 : decode prog_9_method_12_code 5 = .ok (.invokestatic 163, 3) := by decide +kernel
theorem d_Mo_bind_8 : decode prog_9_method_12_code 8 = .ok (.ifCond .ne (5), 3) := by decide +kernel
theorem d_Mo_bind_11 : decode prog_9_method_12_code 11 = .ok (.iconst (-1), 1) := by decide +kernel
theorem d_Mo_bind_12 : decode prog_9_method_12_code 12 = .ok (.ireturn, 1) := by decide +kernel
theorem d_Mo_bind_13 : decode prog_9_method_12_code 13 = .ok (.aload_n 0, 1) := by decide +kernel
theorem d_Mo_bind_14 : decode prog_9_method_12_code 14 = .ok (.getfield 166, 3) := by decide +kernel
theorem d_Mo_bind_17 : decode prog_9_method_12_code 17 = .ok (.bipush 20, 2) := by decide +kernel
theorem d_Mo_bind_19 : decode prog_9_method_12_code 19 = .ok (.if_icmp .ne (6), 3) := by decide +kernel
theorem d_Mo_bind_22 : decode prog_9_method_12_code 22 = .ok (.bipush (-3), 2) := by decide +kernel
theorem d_Mo_bind_24 : decode prog_9_method_12_code 24 = .ok (.ireturn, 1) := by decide +kernel
theorem d_Mo_bind_25 : decode prog_9_method_12_code 25 = .ok (.aload_n 0, 1) := by decide +kernel
theorem d_Mo_bind_26 : decode prog_9_method_12_code 26 = .ok (.getfield 36, 3) := by decide +kernel
theorem d_Mo_bind_29 : decode prog_9_method_12_code 29 = .ok (.aload_n 0, 1) := by decide +kernel
theorem d_Mo_bind_30 : decode prog_9_method_12_code 30 = .ok (.getfield 166, 3) := by decide +kernel
theorem d_Mo_bind_33 : decode prog_9_method_12_code 33 = .ok (.iload_n 1, 1) := by decide +kernel
theorem d_Mo_bind_34 : decode prog_9_method_12_code 34 = .ok (.iastore, 1) := by decide +kernel
theorem d_Mo_bind_35 : decode prog_9_method_12_code 35 = .ok (.aload_n 0, 1) := by decide +kernel
theorem d_Mo_bind_36 : decode prog_9_method_12_code 36 = .ok (.getfield 39, 3) := by decide +kernel
theorem d_Mo_bind_39 : decode prog_9_method_12_code 39 = .ok (.aload_n 0, 1) := by decide +kernel
theorem d_Mo_bind_40 : decode prog_9_method_12_code 40 = .ok (.getfield 166, 3) := by decide +kernel
theorem d_Mo_bind_43 : decode prog_9_method_12_code 43 = .ok (.iload_n 2, 1) := by decide +kernel
theorem d_Mo_bind_44 : decode prog_9_method_12_code 44 = .ok (.iastore, 1) := by decide +kernel
theorem d_Mo_bind_45 : decode prog_9_method_12_code 45 = .ok (.aload_n 0, 1) := by decide +kernel
theorem d_Mo_bind_46 : decode prog_9_method_12_code 46 = .ok (.dup, 1) := by decide +kernel
theorem d_Mo_bind_47 : decode prog_9_method_12_code 47 = .ok (.getfield 166, 3) := by decide +kernel
theorem d_Mo_bind_50 : decode prog_9_method_12_code 50 = .ok (.iconst 1, 1) := by decide +kernel
theorem d_Mo_bind_51 : decode prog_9_method_12_code 51 = .ok (.iadd, 1) := by decide +kernel
theorem d_Mo_bind_52 : decode prog_9_method_12_code 52 = .ok (.putfield 166, 3) := by decide +kernel
theorem d_Mo_bind_55 : decode prog_9_method_12_code 55 = .ok (.aload_n 0, 1) := by decide +kernel
theorem d_Mo_bind_56 : decode prog_9_method_12_code 56 = .ok (.getfield 166, 3) := by decide +kernel
theorem d_Mo_bind_59 : decode prog_9_method_12_code 59 = .ok (.ireturn, 1) := by decide +kernel
theorem d_Mo_addKey_0 : decode prog_9_method_13_code 0 = .ok (.iconst 0, 1) := by decide +kernel
theorem d_Mo_addKey_1 : decode prog_9_method_13_code 1 = .ok (.istore_n 3, 1) := by decide +kernel
theorem d_Mo_addKey_2 : decode prog_9_method_13_code 2 = .ok (.iload_n 3, 1) := by decide +kernel
theorem d_Mo_addKey_3 : decode prog_9_method_13_code 3 = .ok (.aload_n 0, 1) := by decide +kernel
theorem d_Mo_addKey_4 : decode prog_9_method_13_code 4 = .ok (.getfield 63, 3) := by decide +kernel
theorem d_Mo_addKey_7 : decode prog_9_method_13_code 7 = .ok (.iload_n 1, 1) := by decide +kernel
theorem d_Mo_addKey_8 : decode prog_9_method_13_code 8 = .ok (.iaload, 1) := by decide +kernel
theorem d_Mo_addKey_9 : decode prog_9_method_13_code 9 = .ok (.if_icmp .ge (25), 3) := by decide +kernel
theorem d_Mo_addKey_12 : decode prog_9_method_13_code 12 = .ok (.aload_n 0, 1) := by decide +kernel
theorem d_Mo_addKey_13 : decode prog_9_method_13_code 13 = .ok (.getfield 66, 3) := by decide +kernel
theorem d_Mo_addKey_16 : decode prog_9_method_13_code 16 = .ok (.bipush 20, 2) := by decide +kernel
theorem d_Mo_addKey_18 : decode prog_9_method_13_code 18 = .ok (.iload_n 1, 1) := by decide +kernel
theorem d_Mo_addKey_19 : decode prog_9_method_13_code 19 = .ok (.imul, 1) := by decide +kernel
theorem d_Mo_addKey_20 : decode prog_9_method_13_code 20 = .ok (.iload_n 3, 1) := by decide +kernel
theorem d_Mo_addKey_21 : decode prog_9_method_13_code 21 = .ok (.iadd, 1) := by decide +kernel
theorem d_Mo_addKey_22 : decode prog_9_method_13_code 22 = .ok (.iaload, 1) := by decide +kernel
theorem d_Mo_addKey_23 : decode prog_9_method_13_code 23 = .ok (.iload_n 2, 1) := by decide +kernel
theorem d_Mo_addKey_24 : decode prog_9_method_13_code 24 = .ok (.if_icmp .ne (4), 3) := by decide +kernel
theorem d_Mo_addKey_27 : decode prog_9_method_13_code 27 = .ok (.return_, 1) := by decide +kernel
theorem d_Mo_addKey_28 : decode prog_9_method_13_code 28 = .ok (.iinc 3 1, 3) := by decide +kernel
theorem d_Mo_addKey_31 : decode prog_9_method_13_code 31 = .ok (.goto (-29), 3) := by decide +kernel
theorem d_Mo_addKey_34 : decode prog_9_method_13_code 34 = .ok (.aload_n 0, 1) := by decide +kernel
theorem d_Mo_addKey_35 : decode prog_9_method_13_code 35 = .ok (.getfield 66, 3) := by decide +kernel
theorem d_Mo_addKey_38 : decode prog_9_method_13_code 38 = .ok (.bipush 20, 2) := by decide +kernel
theorem d_Mo_addKey_40 : decode prog_9_method_13_code 40 = .ok (.iload_n 1, 1) := by decide +kernel
theorem d_Mo_addKey_41 : decode prog_9_method_13_code 41 = .ok (.imul, 1) := by decide +kernel
theorem d_Mo_addKey_42 : decode prog_9_method_13_code 42 = .ok (.aload_n 0, 1) := by decide +kernel
theorem d_Mo_addKey_43 : decode prog_9_method_13_code 43 = .ok (.getfield 63, 3) := by decide +kernel
theorem d_Mo_addKey_46 : decode prog_9_method_13_code 46 = .ok (.iload_n 1, 1) := by decide +kernel
theorem d_Mo_addKey_47 : decode prog_9_method_13_code 47 = .ok (.iaload, 1) := by decide +kernel
theorem d_Mo_addKey_48 : decode prog_9_method_13_code 48 = .ok (.iadd, 1) := by decide +kernel
theorem d_Mo_addKey_49 : decode prog_9_method_13_code 49 = .ok (.iload_n 2, 1) := by decide +kernel
theorem d_Mo_addKey_50 : decode prog_9_method_13_code 50 = .ok (.iastore, 1) := by decide +kernel
theorem d_Mo_addKey_51 : decode prog_9_method_13_code 51 = .ok (.aload_n 0, 1) := by decide +kernel
theorem d_Mo_addKey_52 : decode prog_9_method_13_code 52 = .ok (.getfield 63, 3) := by decide +kernel
theorem d_Mo_addKey_55 : decode prog_9_method_13_code 55 = .ok (.iload_n 1, 1) := by decide +kernel
theorem d_Mo_addKey_56 : decode prog_9_method_13_code 56 = .ok (.dup2, 1) := by decide +kernel
theorem d_Mo_addKey_57 : decode prog_9_method_13_code 57 = .ok (.iaload, 1) := by decide +kernel
theorem d_Mo_addKey_58 : decode prog_9_method_13_code 58 = .ok (.iconst 1, 1) := by decide +kernel
theorem d_Mo_addKey_59 : decode prog_9_method_13_code 59 = .ok (.iadd, 1) := by decide +kernel
theorem d_Mo_addKey_60 : decode prog_9_method_13_code 60 = .ok (.iastore, 1) := by decide +kernel
theorem d_Mo_addKey_61 : decode prog_9_method_13_code 61 = .ok (.return_, 1) := by decide +kernel
theorem d_Mo_ask_0 : decode prog_9_method_14_code 0 = .ok (.iload_n 1, 1) := by decide +kernel
theorem d_Mo_ask_1 : decode prog_9_method_14_code 1 = .ok (.iconst 0, 1) := by decide +kernel
theorem d_Mo_ask_2 : decode prog_9_method_14_code 2 = .ok (.iconst 3, 1) := by decide +kernel
theorem d_Mo_ask_3 : decode prog_9_method_14_code 3 = .ok (.invokestatic 163, 3) := by decide +kernel
theorem d_Mo_ask_6 : decode prog_9_method_14_code 6 = .ok (.ifCond .ne (5), 3) := by decide +kernel
theorem d_Mo_ask_9 : decode prog_9_method_14_code 9 = .ok (.iconst (-1), 1) := by decide +kernel
theorem d_Mo_ask_10 : decode prog_9_method_14_code 10 = .ok (.ireturn, 1) := by decide +kernel
theorem d_Mo_ask_11 : decode prog_9_method_14_code 11 = .ok (.aload_n 0, 1) := by decide +kernel
theorem d_Mo_ask_12 : decode prog_9_method_14_code 12 = .ok (.getfield 169, 3) := by decide +kernel
theorem d_Mo_ask_15 : decode prog_9_method_14_code 15 = .ok (.bipush 24, 2) := by decide +kernel
theorem d_Mo_ask_17 : decode prog_9_method_14_code 17 = .ok (.if_icmp .ne (6), 3) := by decide +kernel
theorem d_Mo_ask_20 : decode prog_9_method_14_code 20 = .ok (.bipush (-3), 2) := by decide +kernel
theorem d_Mo_ask_22 : decode prog_9_method_14_code 22 = .ok (.ireturn, 1) := by decide +kernel
theorem d_Mo_ask_23 : decode prog_9_method_14_code 23 = .ok (.aload_n 0, 1) := by decide +kernel
theorem d_Mo_ask_24 : decode prog_9_method_14_code 24 = .ok (.getfield 169, 3) := by decide +kernel
theorem d_Mo_ask_27 : decode prog_9_method_14_code 27 = .ok (.istore_n 3, 1) := by decide +kernel
theorem d_Mo_ask_28 : decode prog_9_method_14_code 28 = .ok (.aload_n 0, 1) := by decide +kernel
theorem d_Mo_ask_29 : decode prog_9_method_14_code 29 = .ok (.dup, 1) := by decide +kernel
theorem d_Mo_ask_30 : decode prog_9_method_14_code 30 = .ok (.getfield 169, 3) := by decide +kernel
theorem d_Mo_ask_33 : decode prog_9_method_14_code 33 = .ok (.iconst 1, 1) := by decide +kernel
theorem d_Mo_ask_34 : decode prog_9_method_14_code 34 = .ok (.iadd, 1) := by decide +kernel
theorem d_Mo_ask_35 : decode prog_9_method_14_code 35 = .ok (.putfield 169, 3) := by decide +kernel
theorem d_Mo_ask_38 : decode prog_9_method_14_code 38 = .ok (.aload_n 0, 1) := by decide +kernel
theorem d_Mo_ask_39 : decode prog_9_method_14_code 39 = .ok (.getfield 42, 3) := by decide +kernel
theorem d_Mo_ask_42 : decode prog_9_method_14_code 42 = .ok (.iload_n 3, 1) := by decide +kernel
theorem d_Mo_ask_43 : decode prog_9_method_14_code 43 = .ok (.iload_n 1, 1) := by decide +kernel
theorem d_Mo_ask_44 : decode prog_9_method_14_code 44 = .ok (.iastore, 1) := by decide +kernel
theorem d_Mo_ask_45 : decode prog_9_method_14_code 45 = .ok (.aload_n 0, 1) := by decide +kernel
theorem d_Mo_ask_46 : decode prog_9_method_14_code 46 = .ok (.getfield 45, 3) := by decide +kernel
theorem d_Mo_ask_49 : decode prog_9_method_14_code 49 = .ok (.iload_n 3, 1) := by decide +kernel
theorem d_Mo_ask_50 : decode prog_9_method_14_code 50 = .ok (.iload_n 2, 1) := by decide +kernel
theorem d_Mo_ask_51 : decode prog_9_method_14_code 51 = .ok (.bastore, 1) := by decide +kernel
theorem d_Mo_ask_52 : decode prog_9_method_14_code 52 = .ok (.aload_n 0, 1) := by decide +kernel
theorem d_Mo_ask_53 : decode prog_9_method_14_code 53 = .ok (.getfield 69, 3) := by decide +kernel
theorem d_Mo_ask_56 : decode prog_9_method_14_code 56 = .ok (.iload_n 3, 1) := by decide +kernel
theorem d_Mo_ask_57 : decode prog_9_method_14_code 57 = .ok (.aload_n 0, 1) := by decide +kernel
theorem d_Mo_ask_58 : decode prog_9_method_14_code 58 = .ok (.getfield 26, 3) := by decide +kernel
theorem d_Mo_ask_61 : decode prog_9_method_14_code 61 = .ok (.iastore, 1) := by decide +kernel
theorem d_Mo_ask_62 : decode prog_9_method_14_code 62 = .ok (.aload_n 0, 1) := by decide +kernel
theorem d_Mo_ask_63 : decode prog_9_method_14_code 63 = .ok (.getfield 54, 3) := by decide +kernel
theorem d_Mo_ask_66 : decode prog_9_method_14_code 66 = .ok (.iload_n 3, 1) := by decide +kernel
theorem d_Mo_ask_67 : decode prog_9_method_14_code 67 = .ok (.aload_n 0, 1) := by decide +kernel
theorem d_Mo_ask_68 : decode prog_9_method_14_code 68 = .ok (.getfield 166, 3) := by decide +kernel
theorem d_Mo_ask_71 : decode prog_9_method_14_code 71 = .ok (.iastore, 1) := by decide +kernel
theorem d_Mo_ask_72 : decode prog_9_method_14_code 72 = .ok (.iconst 0, 1) := by decide +kernel
theorem d_Mo_ask_73 : decode prog_9_method_14_code 73 = .ok (.istore 4, 2) := by decide +kernel
theorem d_Mo_ask_75 : decode prog_9_method_14_code 75 = .ok (.iload 4, 2) := by decide +kernel
theorem d_Mo_ask_77 : decode prog_9_method_14_code 77 = .ok (.aload_n 0, 1) := by decide +kernel
theorem d_Mo_ask_78 : decode prog_9_method_14_code 78 = .ok (.getfield 166, 3) := by decide +kernel
theorem d_Mo_ask_81 : decode prog_9_method_14_code 81 = .ok (.if_icmp .ge (59), 3) := by decide +kernel
theorem d_Mo_ask_84 : decode prog_9_method_14_code 84 = .ok (.aload_n 0, 1) := by decide +kernel
theorem d_Mo_ask_85 : decode prog_9_method_14_code 85 = .ok (.getfield 57, 3) := by decide +kernel
theorem d_Mo_ask_88 : decode prog_9_method_14_code 88 = .ok (.bipush 20, 2) := by decide +kernel
theorem d_Mo_ask_90 : decode prog_9_method_14_code 90 = .ok (.iload_n 3, 1) := by decide +kernel
theorem d_Mo_ask_91 : decode prog_9_method_14_code 91 = .ok (.imul, 1) := by decide +kernel
theorem d_Mo_ask_92 : decode prog_9_method_14_code 92 = .ok (.iload 4, 2) := by decide +kernel
theorem d_Mo_ask_94 : decode prog_9_method_14_code 94 = .ok (.iadd, 1) := by decide +kernel
theorem d_Mo_ask_95 : decode prog_9_method_14_code 95 = .ok (.aload_n 0, 1) := by decide +kernel
theorem d_Mo_ask_96 : decode prog_9_method_14_code 96 = .ok (.getfield 36, 3) := by decide +kernel
theorem d_Mo_ask_99 : decode prog_9_method_14_code 99 = .ok (.iload 4, 2) := by decide +kernel
theorem d_Mo_ask_101 : decode prog_9_method_14_code 101 = .ok (.iaload, 1) := by decide +kernel
theorem d_Mo_ask_102 : decode prog_9_method_14_code 102 = .ok (.iastore, 1) := by decide +kernel
theorem d_Mo_ask_103 : decode prog_9_method_14_code 103 = .ok (.aload_n 0, 1) := by decide +kernel
theorem d_Mo_ask_104 : decode prog_9_method_14_code 104 = .ok (.getfield 60, 3) := by decide +kernel
theorem d_Mo_ask_107 : decode prog_9_method_14_code 107 = .ok (.bipush 20, 2) := by decide +kernel
theorem d_Mo_ask_109 : decode prog_9_method_14_code 109 = .ok (.iload_n 3, 1) := by decide +kernel
theorem d_Mo_ask_110 : decode prog_9_method_14_code 110 = .ok (.imul, 1) := by decide +kernel
theorem d_Mo_ask_111 : decode prog_9_method_14_code 111 = .ok (.iload 4, 2) := by decide +kernel
theorem d_Mo_ask_113 : decode prog_9_method_14_code 113 = .ok (.iadd, 1) := by decide +kernel
theorem d_Mo_ask_114 : decode prog_9_method_14_code 114 = .ok (.aload_n 0, 1) := by decide +kernel
theorem d_Mo_ask_115 : decode prog_9_method_14_code 115 = .ok (.getfield 39, 3) := by decide +kernel
theorem d_Mo_ask_118 : decode prog_9_method_14_code 118 = .ok (.iload 4, 2) := by decide +kernel
theorem d_Mo_ask_120 : decode prog_9_method_14_code 120 = .ok (.iaload, 1) := by decide +kernel
theorem d_Mo_ask_121 : decode prog_9_method_14_code 121 = .ok (.iastore, 1) := by decide +kernel
theorem d_Mo_ask_122 : decode prog_9_method_14_code 122 = .ok (.aload_n 0, 1) := by decide +kernel
theorem d_Mo_ask_123 : decode prog_9_method_14_code 123 = .ok (.iload_n 3, 1) := by decide +kernel
theorem d_Mo_ask_124 : decode prog_9_method_14_code 124 = .ok (.aload_n 0, 1) := by decide +kernel
theorem d_Mo_ask_125 : decode prog_9_method_14_code 125 = .ok (.getfield 36, 3) := by decide +kernel
theorem d_Mo_ask_128 : decode prog_9_method_14_code 128 = .ok (.iload 4, 2) := by decide +kernel
theorem d_Mo_ask_130 : decode prog_9_method_14_code 130 = .ok (.iaload, 1) := by decide +kernel
theorem d_Mo_ask_131 : decode prog_9_method_14_code 131 = .ok (.invokevirtual 172, 3) := by decide +kernel
theorem d_Mo_ask_134 : decode prog_9_method_14_code 134 = .ok (.iinc 4 1, 3) := by decide +kernel
theorem d_Mo_ask_137 : decode prog_9_method_14_code 137 = .ok (.goto (-62), 3) := by decide +kernel
theorem d_Mo_ask_140 : decode prog_9_method_14_code 140 = .ok (.aload_n 0, 1) := by decide +kernel
theorem d_Mo_ask_141 : decode prog_9_method_14_code 141 = .ok (.iconst 0, 1) := by decide +kernel
theorem d_Mo_ask_142 : decode prog_9_method_14_code 142 = .ok (.putfield 166, 3) := by decide +kernel
theorem d_Mo_ask_145 : decode prog_9_method_14_code 145 = .ok (.aload_n 0, 1) := by decide +kernel
theorem d_Mo_ask_146 : decode prog_9_method_14_code 146 = .ok (.getfield 63, 3) := by decide +kernel
theorem d_Mo_ask_149 : decode prog_9_method_14_code 149 = .ok (.iload_n 3, 1) := by decide +kernel
theorem d_Mo_ask_150 : decode prog_9_method_14_code 150 = .ok (.iaload, 1) := by decide +kernel
theorem d_Mo_ask_151 : decode prog_9_method_14_code 151 = .ok (.ifCond .ne (20), 3) := by decide +kernel
theorem d_Mo_ask_154 : decode prog_9_method_14_code 154 = .ok (.aload_n 0, 1) := by decide +kernel
theorem d_Mo_ask_155 : decode prog_9_method_14_code 155 = .ok (.getfield 48, 3) := by decide +kernel
theorem d_Mo_ask_158 : decode prog_9_method_14_code 158 = .ok (.iload_n 3, 1) := by decide +kernel
theorem d_Mo_ask_159 : decode prog_9_method_14_code 159 = .ok (.iconst 1, 1) := by decide +kernel
theorem d_Mo_ask_160 : decode prog_9_method_14_code 160 = .ok (.iastore, 1) := by decide +kernel
theorem d_Mo_ask_161 : decode prog_9_method_14_code 161 = .ok (.aload_n 0, 1) := by decide +kernel
theorem d_Mo_ask_162 : decode prog_9_method_14_code 162 = .ok (.getfield 87, 3) := by decide +kernel
theorem d_Mo_ask_165 : decode prog_9_method_14_code 165 = .ok (.iload_n 3, 1) := by decide +kernel
theorem d_Mo_ask_166 : decode prog_9_method_14_code 166 = .ok (.iconst (-1), 1) := by decide +kernel
theorem d_Mo_ask_167 : decode prog_9_method_14_code 167 = .ok (.iastore, 1) := by decide +kernel
theorem d_Mo_ask_168 : decode prog_9_method_14_code 168 = .ok (.goto (8), 3) := by decide +kernel
theorem d_Mo_ask_171 : decode prog_9_method_14_code 171 = .ok (.aload_n 0, 1) := by decide +kernel
theorem d_Mo_ask_172 : decode prog_9_method_14_code 172 = .ok (.iload_n 3, 1) := by decide +kernel
theorem d_Mo_ask_173 : decode prog_9_method_14_code 173 = .ok (.invokevirtual 175, 3) := by decide +kernel
theorem d_Mo_ask_176 : decode prog_9_method_14_code 176 = .ok (.iload_n 3, 1) := by decide +kernel
theorem d_Mo_ask_177 : decode prog_9_method_14_code 177 = .ok (.ireturn, 1) := by decide +kernel
theorem d_Mo_isDropped_0 : decode prog_9_method_15_code 0 = .ok (.iload_n 2, 1) := by decide +kernel
theorem d_Mo_isDropped_1 : decode prog_9_method_15_code 1 = .ok (.iconst 2, 1) := by decide +kernel
theorem d_Mo_isDropped_2 : decode prog_9_method_15_code 2 = .ok (.if_icmp .eq (8), 3) := by decide +kernel
theorem d_Mo_isDropped_5 : decode prog_9_method_15_code 5 = .ok (.iload_n 2, 1) := by decide +kernel
theorem d_Mo_isDropped_6 : decode prog_9_method_15_code 6 = .ok (.iconst 4, 1) := by decide +kernel
theorem d_Mo_isDropped_7 : decode prog_9_method_15_code 7 = .ok (.if_icmp .ne (48), 3) := by decide +kernel
theorem d_Mo_isDropped_10 : decode prog_9_method_15_code 10 = .ok (.iload_n 3, 1) := by decide +kernel
theorem d_Mo_isDropped_11 : decode prog_9_method_15_code 11 = .ok (.aload_n 0, 1) := by decide +kernel
theorem d_Mo_isDropped_12 : decode prog_9_method_15_code 12 = .ok (.getfield 169, 3) := by decide +kernel
theorem d_Mo_isDropped_15 : decode prog_9_method_15_code 15 = .ok (.if_icmp .ge (40), 3) := by decide +kernel
theorem d_Mo_isDropped_18 : decode prog_9_method_15_code 18 = .ok (.aload_n 0, 1) := by decide +kernel
theorem d_Mo_isDropped_19 : decode prog_9_method_15_code 19 = .ok (.getfield 48, 3) := by decide +kernel
theorem d_Mo_isDropped_22 : decode prog_9_method_15_code 22 = .ok (.iload_n 3, 1) := by decide +kernel
theorem d_Mo_isDropped_23 : decode prog_9_method_15_code 23 = .ok (.iaload, 1) := by decide +kernel
theorem d_Mo_isDropped_24 : decode prog_9_method_15_code 24 = .ok (.ifCond .ne (31), 3) := by decide +kernel
theorem d_Mo_isDropped_27 : decode prog_9_method_15_code 27 = .ok (.aload_n 0, 1) := by decide +kernel
theorem d_Mo_isDropped_28 : decode prog_9_method_15_code 28 = .ok (.getfield 42, 3) := by decide +kernel
theorem d_Mo_isDropped_31 : decode prog_9_method_15_code 31 = .ok (.iload_n 3, 1) := by decide +kernel
theorem d_Mo_isDropped_32 : decode prog_9_method_15_code 32 = .ok (.iaload, 1) := by decide +kernel
theorem d_Mo_isDropped_33 : decode prog_9_method_15_code 33 = .ok (.iload_n 1, 1) := by decide +kernel
theorem d_Mo_isDropped_34 : decode prog_9_method_15_code 34 = .ok (.if_icmp .ne (21), 3) := by decide +kernel
theorem d_Mo_isDropped_37 : decode prog_9_method_15_code 37 = .ok (.aload_n 0, 1) := by decide +kernel
theorem d_Mo_isDropped_38 : decode prog_9_method_15_code 38 = .ok (.getfield 87, 3) := by decide +kernel
theorem d_Mo_isDropped_41 : decode prog_9_method_15_code 41 = .ok (.iload_n 3, 1) := by decide +kernel
theorem d_Mo_isDropped_42 : decode prog_9_method_15_code 42 = .ok (.iaload, 1) := by decide +kernel
theorem d_Mo_isDropped_43 : decode prog_9_method_15_code 43 = .ok (.aload_n 0, 1) := by decide +kernel
theorem d_Mo_isDropped_44 : decode prog_9_method_15_code 44 = .ok (.getfield 20, 3) := by decide +kernel
theorem d_Mo_isDropped_47 : decode prog_9_method_15_code 47 = .ok (.iload 4, 2) := by decide +kernel
theorem d_Mo_isDropped_49 : decode prog_9_method_15_code 49 = .ok (.iconst 4, 1) := by decide +kernel
theorem d_Mo_isDropped_50 : decode prog_9_method_15_code 50 = .ok (.iadd, 1) := by decide +kernel
theorem d_Mo_isDropped_51 : decode prog_9_method_15_code 51 = .ok (.iaload, 1) := by decide +kernel
theorem d_Mo_isDropped_52 : decode prog_9_method_15_code 52 = .ok (.if_icmp .eq (5), 3) := by decide +kernel
theorem d_Mo_isDropped_55 : decode prog_9_method_15_code 55 = .ok (.iconst 1, 1) := by decide +kernel
theorem d_Mo_isDropped_56 : decode prog_9_method_15_code 56 = .ok (.ireturn, 1) := by decide +kernel
theorem d_Mo_isDropped_57 : decode prog_9_method_15_code 57 = .ok (.iload_n 2, 1) := by decide +kernel
theorem d_Mo_isDropped_58 : decode prog_9_method_15_code 58 = .ok (.iconst 4, 1) := by decide +kernel
theorem d_Mo_isDropped_59 : decode prog_9_method_15_code 59 = .ok (.if_icmp .ne (11), 3) := by decide +kernel
theorem d_Mo_isDropped_62 : decode prog_9_method_15_code 62 = .ok (.aload_n 0, 1) := by decide +kernel
theorem d_Mo_isDropped_63 : decode prog_9_method_15_code 63 = .ok (.iload_n 3, 1) := by decide +kernel
theorem d_Mo_isDropped_64 : decode prog_9_method_15_code 64 = .ok (.iconst 3, 1) := by decide +kernel
theorem d_Mo_isDropped_65 : decode prog_9_method_15_code 65 = .ok (.invokevirtual 178, 3) := by decide +kernel
theorem d_Mo_isDropped_68 : decode prog_9_method_15_code 68 = .ok (.iconst 0, 1) := by decide +kernel
theorem d_Mo_isDropped_69 : decode prog_9_method_15_code 69 = .ok (.ireturn, 1) := by decide +kernel
theorem d_Mo_isDropped_70 : decode prog_9_method_15_code 70 = .ok (.aload_n 0, 1) := by decide +kernel
theorem d_Mo_isDropped_71 : decode prog_9_method_15_code 71 = .ok (.getfield 20, 3) := by decide +kernel
theorem d_Mo_isDropped_74 : decode prog_9_method_15_code 74 = .ok (.iload 4, 2) := by decide +kernel
theorem d_Mo_isDropped_76 : decode prog_9_method_15_code 76 = .ok (.iconst 3, 1) := by decide +kernel
theorem d_Mo_isDropped_77 : decode prog_9_method_15_code 77 = .ok (.iadd, 1) := by decide +kernel
theorem d_Mo_isDropped_78 : decode prog_9_method_15_code 78 = .ok (.iaload, 1) := by decide +kernel
theorem d_Mo_isDropped_79 : decode prog_9_method_15_code 79 = .ok (.iconst 2, 1) := by decide +kernel
theorem d_Mo_isDropped_80 : decode prog_9_method_15_code 80 = .ok (.idiv, 1) := by decide +kernel
theorem d_Mo_isDropped_81 : decode prog_9_method_15_code 81 = .ok (.iconst 1, 1) := by decide +kernel
theorem d_Mo_isDropped_82 : decode prog_9_method_15_code 82 = .ok (.isub, 1) := by decide +kernel
theorem d_Mo_isDropped_83 : decode prog_9_method_15_code 83 = .ok (.istore 5, 2) := by decide +kernel
theorem d_Mo_isDropped_85 : decode prog_9_method_15_code 85 = .ok (.iconst 0, 1) := by decide +kernel
theorem d_Mo_isDropped_86 : decode prog_9_method_15_code 86 = .ok (.istore 6, 2) := by decide +kernel
theorem d_Mo_isDropped_88 : decode prog_9_method_15_code 88 = .ok (.iload 6, 2) := by decide +kernel
theorem d_Mo_isDropped_90 : decode prog_9_method_15_code 90 = .ok (.iload 5, 2) := by decide +kernel
theorem d_Mo_isDropped_92 : decode prog_9_method_15_code 92 = .ok (.if_icmp .ge (92), 3) := by decide +kernel
theorem d_Mo_isDropped_95 : decode prog_9_method_15_code 95 = .ok (.aload_n 0, 1) := by decide +kernel
theorem d_Mo_isDropped_96 : decode prog_9_method_15_code 96 = .ok (.getfield 75, 3) := by decide +kernel
theorem d_Mo_isDropped_99 : decode prog_9_method_15_code 99 = .ok (.iload_n 3, 1) := by decide +kernel
theorem d_Mo_isDropped_100 : decode prog_9_method_15_code 100 = .ok (.iaload, 1) := by decide +kernel
theorem d_Mo_isDropped_101 : decode prog_9_method_15_code 101 = .ok (.bipush 60, 2) := by decide +kernel
theorem d_Mo_isDropped_103 : decode prog_9_method_15_code 103 = .ok (.if_icmp .ge (75), 3) := by decide +kernel
theorem d_Mo_isDropped_106 : decode prog_9_method_15_code 106 = .ok (.aload_n 0, 1) := by decide +kernel
theorem d_Mo_isDropped_107 : decode prog_9_method_15_code 107 = .ok (.getfield 78, 3) := by decide +kernel
theorem d_Mo_isDropped_110 : decode prog_9_method_15_code 110 = .ok (.bipush 60, 2) := by decide +kernel
theorem d_Mo_isDropped_112 : decode prog_9_method_15_code 112 = .ok (.iload_n 3, 1) := by decide +kernel
theorem d_Mo_isDropped_113 : decode prog_9_method_15_code 113 = .ok (.imul, 1) := by decide +kernel
theorem d_Mo_isDropped_114 : decode prog_9_method_15_code 114 = .ok (.aload_n 0, 1) := by decide +kernel
theorem d_Mo_isDropped_115 : decode prog_9_method_15_code 115 = .ok (.getfield 75, 3) := by decide +kernel
theorem d_Mo_isDropped_118 : decode prog_9_method_15_code 118 = .ok (.iload_n 3, 1) := by decide +kernel
theorem d_Mo_isDropped_119 : decode prog_9_method_15_code 119 = .ok (.iaload, 1) := by decide +kernel
theorem d_Mo_isDropped_120 : decode prog_9_method_15_code 120 = .ok (.iadd, 1) := by decide +kernel
theorem d_Mo_isDropped_121 : decode prog_9_method_15_code 121 = .ok (.aload_n 0, 1) := by decide +kernel
theorem d_Mo_isDropped_122 : decode prog_9_method_15_code 122 = .ok (.getfield 20, 3) := by decide +kernel
theorem d_Mo_isDropped_125 : decode prog_9_method_15_code 125 = .ok (.iload 4, 2) := by decide +kernel
theorem d_Mo_isDropped_127 : decode prog_9_method_15_code 127 = .ok (.bipush 6, 2) := by decide +kernel
theorem d_Mo_isDropped_129 : decode prog_9_method_15_code 129 = .ok (.iadd, 1) := by decide +kernel
theorem d_Mo_isDropped_130 : decode prog_9_method_15_code 130 = .ok (.iconst 2, 1) := by decide +kernel
theorem d_Mo_isDropped_131 : decode prog_9_method_15_code 131 = .ok (.iload 6, 2) := by decide +kernel
theorem d_Mo_isDropped_133 : decode prog_9_method_15_code 133 = .ok (.imul, 1) := by decide +kernel
theorem d_Mo_isDropped_134 : decode prog_9_method_15_code 134 = .ok (.iadd, 1) := by decide +kernel
theorem d_Mo_isDropped_135 : decode prog_9_method_15_code 135 = .ok (.iaload, 1) := by decide +kernel
theorem d_Mo_isDropped_136 : decode prog_9_method_15_code 136 = .ok (.iastore, 1) := by decide +kernel
theorem d_Mo_isDropped_137 : decode prog_9_method_15_code 137 = .ok (.aload_n 0, 1) := by decide +kernel
theorem d_Mo_isDropped_138 : decode prog_9_method_15_code 138 = .ok (.getfield 81, 3) := by decide +kernel
theorem d_Mo_isDropped_141 : decode prog_9_method_15_code 141 = .ok (.bipush 60, 2) := by decide +kernel
theorem d_Mo_isDropped_143 : decode prog_9_method_15_code 143 = .ok (.iload_n 3, 1) := by decide +kernel
theorem d_Mo_isDropped_144 : decode prog_9_method_15_code 144 = .ok (.imul, 1) := by decide +kernel
theorem d_Mo_isDropped_145 : decode prog_9_method_15_code 145 = .ok (.aload_n 0, 1) := by decide +kernel
theorem d_Mo_isDropped_146 : decode prog_9_method_15_code 146 = .ok (.getfield 75, 3) := by decide +kernel
theorem d_Mo_isDropped_149 : decode prog_9_method_15_code 149 = .ok (.iload_n 3, 1) := by decide +kernel
theorem d_Mo_isDropped_150 : decode prog_9_method_15_code 150 = .ok (.iaload, 1) := by decide +kernel
theorem d_Mo_isDropped_151 : decode prog_9_method_15_code 151 = .ok (.iadd, 1) := by decide +kernel
theorem d_Mo_isDropped_152 : decode prog_9_method_15_code 152 = .ok (.aload_n 0, 1) := by decide +kernel
theorem d_Mo_isDropped_153 : decode prog_9_method_15_code 153 = .ok (.getfield 20, 3) := by decide +kernel
theorem d_Mo_isDropped_156 : decode prog_9_method_15_code 156 = .ok (.iload 4, 2) := by decide +kernel
theorem d_Mo_isDropped_158 : decode prog_9_method_15_code 158 = .ok (.bipush 7, 2) := by decide +kernel
theorem d_Mo_isDropped_160 : decode prog_9_method_15_code 160 = .ok (.iadd, 1) := by decide +kernel
theorem d_Mo_isDropped_161 : decode prog_9_method_15_code 161 = .ok (.iconst 2, 1) := by decide +kernel
theorem d_Mo_isDropped_162 : decode prog_9_method_15_code 162 = .ok (.iload 6, 2) := by decide +kernel
theorem d_Mo_isDropped_164 : decode prog_9_method_15_code 164 = .ok (.imul, 1) := by decide +kernel
theorem d_Mo_isDropped_165 : decode prog_9_method_15_code 165 = .ok (.iadd, 1) := by decide +kernel
theorem d_Mo_isDropped_166 : decode prog_9_method_15_code 166 = .ok (.iaload, 1) := by decide +kernel
theorem d_Mo_isDropped_167 : decode prog_9_method_15_code 167 = .ok (.iastore, 1) := by decide +kernel
theorem d_Mo_isDropped_168 : decode prog_9_method_15_code 168 = .ok (.aload_n 0, 1) := by decide +kernel
theorem d_Mo_isDropped_169 : decode prog_9_method_15_code 169 = .ok (.getfield 75, 3) := by decide +kernel
theorem d_Mo_isDropped_172 : decode prog_9_method_15_code 172 = .ok (.iload_n 3, 1) := by decide +kernel
theorem d_Mo_isDropped_173 : decode prog_9_method_15_code 173 = .ok (.dup2, 1) := by decide +kernel
theorem d_Mo_isDropped_174 : decode prog_9_method_15_code 174 = .ok (.iaload, 1) := by decide +kernel
theorem d_Mo_isDropped_175 : decode prog_9_method_15_code 175 = .ok (.iconst 1, 1) := by decide +kernel
theorem d_Mo_isDropped_176 : decode prog_9_method_15_code 176 = .ok (.iadd, 1) := by decide +kernel
theorem d_Mo_isDropped_177 : decode prog_9_method_15_code 177 = .ok (.iastore, 1) := by decide +kernel
theorem d_Mo_isDropped_178 : decode prog_9_method_15_code 178 = .ok (.iinc 6 1, 3) := by decide +kernel
theorem d_Mo_isDropped_181 : decode prog_9_method_15_code 181 = .ok (.goto (-93), 3) := by decide +kernel

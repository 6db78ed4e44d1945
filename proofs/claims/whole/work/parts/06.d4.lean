theorem d_Mo_isDropped_184 : decode prog_9_method_15_code 184 = .ok (.aload_n 0, 1) := by decide +kernel
theorem d_Mo_isDropped_185 : decode prog_9_method_15_code 185 = .ok (.getfield 84, 3) := by decide +kernel
theorem d_Mo_isDropped_188 : decode prog_9_method_15_code 188 = .ok (.iload_n 3, 1) := by decide +kernel
theorem d_Mo_isDropped_189 : decode prog_9_method_15_code 189 = .ok (.dup2, 1) := by decide +kernel
theorem d_Mo_isDropped_190 : decode prog_9_method_15_code 190 = .ok (.iaload, 1) := by decide +kernel
theorem d_Mo_isDropped_191 : decode prog_9_method_15_code 191 = .ok (.iload 5, 2) := by decide +kernel
theorem d_Mo_isDropped_193 : decode prog_9_method_15_code 193 = .ok (.iadd, 1) := by decide +kernel
theorem d_Mo_isDropped_194 : decode prog_9_method_15_code 194 = .ok (.iastore, 1) := by decide +kernel
theorem d_Mo_isDropped_195 : decode prog_9_method_15_code 195 = .ok (.aload_n 0, 1) := by decide +kernel
theorem d_Mo_isDropped_196 : decode prog_9_method_15_code 196 = .ok (.getfield 20, 3) := by decide +kernel
theorem d_Mo_isDropped_199 : decode prog_9_method_15_code 199 = .ok (.iload 4, 2) := by decide +kernel
theorem d_Mo_isDropped_201 : decode prog_9_method_15_code 201 = .ok (.iconst 5, 1) := by decide +kernel
theorem d_Mo_isDropped_202 : decode prog_9_method_15_code 202 = .ok (.iadd, 1) := by decide +kernel
theorem d_Mo_isDropped_203 : decode prog_9_method_15_code 203 = .ok (.iaload, 1) := by decide +kernel
theorem d_Mo_isDropped_204 : decode prog_9_method_15_code 204 = .ok (.iconst 1, 1) := by decide +kernel
theorem d_Mo_isDropped_205 : decode prog_9_method_15_code 205 = .ok (.if_icmp .ne (7), 3) := by decide +kernel
theorem d_Mo_isDropped_208 : decode prog_9_method_15_code 208 = .ok (.iconst 1, 1) := by decide +kernel
theorem d_Mo_isDropped_209 : decode prog_9_method_15_code 209 = .ok (.goto (4), 3) := by decide +kernel
theorem d_Mo_isDropped_212 : decode prog_9_method_15_code 212 = .ok (.iconst 0, 1) := by decide +kernel
theorem d_Mo_isDropped_213 : decode prog_9_method_15_code 213 = .ok (.istore 6, 2) := by decide +kernel
theorem d_Mo_isDropped_215 : decode prog_9_method_15_code 215 = .ok (.iload 6, 2) := by decide +kernel
theorem d_Mo_isDropped_217 : decode prog_9_method_15_code 217 = .ok (.ifCond .ne (25), 3) := by decide +kernel
theorem d_Mo_isDropped_220 : decode prog_9_method_15_code 220 = .ok (.aload_n 0, 1) := by decide +kernel
theorem d_Mo_isDropped_221 : decode prog_9_method_15_code 221 = .ok (.getfield 72, 3) := by decide +kernel
theorem d_Mo_isDropped_224 : decode prog_9_method_15_code 224 = .ok (.iload_n 3, 1) := by decide +kernel
theorem d_Mo_isDropped_225 : decode prog_9_method_15_code 225 = .ok (.iaload, 1) := by decide +kernel
theorem d_Mo_isDropped_226 : decode prog_9_method_15_code 226 = .ok (.aload_n 0, 1) := by decide +kernel
theorem d_Mo_isDropped_227 : decode prog_9_method_15_code 227 = .ok (.getfield 63, 3) := by decide +kernel
theorem d_Mo_isDropped_230 : decode prog_9_method_15_code 230 = .ok (.iload_n 3, 1) := by decide +kernel
theorem d_Mo_isDropped_231 : decode prog_9_method_15_code 231 = .ok (.iaload, 1) := by decide +kernel
theorem d_Mo_isDropped_232 : decode prog_9_method_15_code 232 = .ok (.if_icmp .ne (10), 3) := by decide +kernel
theorem d_Mo_isDropped_235 : decode prog_9_method_15_code 235 = .ok (.aload_n 0, 1) := by decide +kernel
theorem d_Mo_isDropped_236 : decode prog_9_method_15_code 236 = .ok (.iload_n 3, 1) := by decide +kernel
theorem d_Mo_isDropped_237 : decode prog_9_method_15_code 237 = .ok (.invokevirtual 181, 3) := by decide +kernel
theorem d_Mo_isDropped_240 : decode prog_9_method_15_code 240 = .ok (.iconst 0, 1) := by decide +kernel
theorem d_Mo_isDropped_241 : decode prog_9_method_15_code 241 = .ok (.ireturn, 1) := by decide +kernel
theorem d_Mo_isDropped_242 : decode prog_9_method_15_code 242 = .ok (.aload_n 0, 1) := by decide +kernel
theorem d_Mo_isDropped_243 : decode prog_9_method_15_code 243 = .ok (.getfield 87, 3) := by decide +kernel
theorem d_Mo_isDropped_246 : decode prog_9_method_15_code 246 = .ok (.iload_n 3, 1) := by decide +kernel
theorem d_Mo_isDropped_247 : decode prog_9_method_15_code 247 = .ok (.aload_n 0, 1) := by decide +kernel
theorem d_Mo_isDropped_248 : decode prog_9_method_15_code 248 = .ok (.getfield 87, 3) := by decide +kernel
theorem d_Mo_isDropped_251 : decode prog_9_method_15_code 251 = .ok (.iload_n 3, 1) := by decide +kernel
theorem d_Mo_isDropped_252 : decode prog_9_method_15_code 252 = .ok (.iaload, 1) := by decide +kernel
theorem d_Mo_isDropped_253 : decode prog_9_method_15_code 253 = .ok (.iconst 1, 1) := by decide +kernel
theorem d_Mo_isDropped_254 : decode prog_9_method_15_code 254 = .ok (.iadd, 1) := by decide +kernel
theorem d_Mo_isDropped_255 : decode prog_9_method_15_code 255 = .ok (.sipush 255, 3) := by decide +kernel
theorem d_Mo_isDropped_258 : decode prog_9_method_15_code 258 = .ok (.iand, 1) := by decide +kernel
theorem d_Mo_isDropped_259 : decode prog_9_method_15_code 259 = .ok (.iastore, 1) := by decide +kernel
theorem d_Mo_isDropped_260 : decode prog_9_method_15_code 260 = .ok (.iload 6, 2) := by decide +kernel
theorem d_Mo_isDropped_262 : decode prog_9_method_15_code 262 = .ok (.ifCond .eq (37), 3) := by decide +kernel
theorem d_Mo_isDropped_265 : decode prog_9_method_15_code 265 = .ok (.aload_n 0, 1) := by decide +kernel
theorem d_Mo_isDropped_266 : decode prog_9_method_15_code 266 = .ok (.iconst 0, 1) := by decide +kernel
theorem d_Mo_isDropped_267 : decode prog_9_method_15_code 267 = .ok (.putfield 138, 3) := by decide +kernel
theorem d_Mo_isDropped_270 : decode prog_9_method_15_code 270 = .ok (.aload_n 0, 1) := by decide +kernel
theorem d_Mo_isDropped_271 : decode prog_9_method_15_code 271 = .ok (.aload_n 0, 1) := by decide +kernel
theorem d_Mo_isDropped_272 : decode prog_9_method_15_code 272 = .ok (.getfield 87, 3) := by decide +kernel
theorem d_Mo_isDropped_275 : decode prog_9_method_15_code 275 = .ok (.iload_n 3, 1) := by decide +kernel
theorem d_Mo_isDropped_276 : decode prog_9_method_15_code 276 = .ok (.iaload, 1) := by decide +kernel
theorem d_Mo_isDropped_277 : decode prog_9_method_15_code 277 = .ok (.invokevirtual 144, 3) := by decide +kernel
theorem d_Mo_isDropped_280 : decode prog_9_method_15_code 280 = .ok (.aload_n 0, 1) := by decide +kernel
theorem d_Mo_isDropped_281 : decode prog_9_method_15_code 281 = .ok (.aload_n 0, 1) := by decide +kernel
theorem d_Mo_isDropped_282 : decode prog_9_method_15_code 282 = .ok (.getfield 84, 3) := by decide +kernel
theorem d_Mo_isDropped_285 : decode prog_9_method_15_code 285 = .ok (.iload_n 3, 1) := by decide +kernel
theorem d_Mo_isDropped_286 : decode prog_9_method_15_code 286 = .ok (.iaload, 1) := by decide +kernel
theorem d_Mo_isDropped_287 : decode prog_9_method_15_code 287 = .ok (.invokevirtual 144, 3) := by decide +kernel
theorem d_Mo_isDropped_290 : decode prog_9_method_15_code 290 = .ok (.aload_n 0, 1) := by decide +kernel
theorem d_Mo_isDropped_291 : decode prog_9_method_15_code 291 = .ok (.iload_n 3, 1) := by decide +kernel
theorem d_Mo_isDropped_292 : decode prog_9_method_15_code 292 = .ok (.iconst 3, 1) := by decide +kernel
theorem d_Mo_isDropped_293 : decode prog_9_method_15_code 293 = .ok (.invokevirtual 159, 3) := by decide +kernel
theorem d_Mo_isDropped_296 : decode prog_9_method_15_code 296 = .ok (.goto (8), 3) := by decide +kernel
theorem d_Mo_isDropped_299 : decode prog_9_method_15_code 299 = .ok (.aload_n 0, 1) := by decide +kernel
theorem d_Mo_isDropped_300 : decode prog_9_method_15_code 300 = .ok (.iload_n 3, 1) := by decide +kernel
theorem d_Mo_isDropped_301 : decode prog_9_method_15_code 301 = .ok (.invokevirtual 175, 3) := by decide +kernel
theorem d_Mo_isDropped_304 : decode prog_9_method_15_code 304 = .ok (.iconst 0, 1) := by decide +kernel
theorem d_Mo_isDropped_305 : decode prog_9_method_15_code 305 = .ok (.ireturn, 1) := by decide +kernel
theorem d_Mo_fact_0 : decode prog_9_method_16_code 0 = .ok (.iload_n 1, 1) := by decide +kernel
theorem d_Mo_fact_1 : decode prog_9_method_16_code 1 = .ok (.iconst 0, 1) := by decide +kernel
theorem d_Mo_fact_2 : decode prog_9_method_16_code 2 = .ok (.sipush 255, 3) := by decide +kernel
theorem d_Mo_fact_5 : decode prog_9_method_16_code 5 = .ok (.invokestatic 163, 3) := by decide +kernel
theorem d_Mo_fact_8 : decode prog_9_method_16_code 8 = .ok (.ifCond .eq (14), 3) := by decide +kernel
theorem d_Mo_fact_11 : decode prog_9_method_16_code 11 = .ok (.iload_n 2, 1) := by decide +kernel
theorem d_Mo_fact_12 : decode prog_9_method_16_code 12 = .ok (.iconst 0, 1) := by decide +kernel
theorem d_Mo_fact_13 : decode prog_9_method_16_code 13 = .ok (.sipush 255, 3) := by decide +kernel
theorem d_Mo_fact_16 : decode prog_9_method_16_code 16 = .ok (.invokestatic 163, 3) := by decide +kernel
theorem d_Mo_fact_19 : decode prog_9_method_16_code 19 = .ok (.ifCond .ne (5), 3) := by decide +kernel
theorem d_Mo_fact_22 : decode prog_9_method_16_code 22 = .ok (.iconst (-1), 1) := by decide +kernel
theorem d_Mo_fact_23 : decode prog_9_method_16_code 23 = .ok (.ireturn, 1) := by decide +kernel
theorem d_Mo_fact_24 : decode prog_9_method_16_code 24 = .ok (.aload_n 0, 1) := by decide +kernel
theorem d_Mo_fact_25 : decode prog_9_method_16_code 25 = .ok (.getfield 184, 3) := by decide +kernel
theorem d_Mo_fact_28 : decode prog_9_method_16_code 28 = .ok (.bipush 60, 2) := by decide +kernel
theorem d_Mo_fact_30 : decode prog_9_method_16_code 30 = .ok (.if_icmp .ne (6), 3) := by decide +kernel
theorem d_Mo_fact_33 : decode prog_9_method_16_code 33 = .ok (.bipush (-3), 2) := by decide +kernel
theorem d_Mo_fact_35 : decode prog_9_method_16_code 35 = .ok (.ireturn, 1) := by decide +kernel
theorem d_Mo_fact_36 : decode prog_9_method_16_code 36 = .ok (.aload_n 0, 1) := by decide +kernel
theorem d_Mo_fact_37 : decode prog_9_method_16_code 37 = .ok (.getfield 111, 3) := by decide +kernel
theorem d_Mo_fact_40 : decode prog_9_method_16_code 40 = .ok (.aload_n 0, 1) := by decide +kernel
theorem d_Mo_fact_41 : decode prog_9_method_16_code 41 = .ok (.getfield 184, 3) := by decide +kernel
theorem d_Mo_fact_44 : decode prog_9_method_16_code 44 = .ok (.iload_n 1, 1) := by decide +kernel
theorem d_Mo_fact_45 : decode prog_9_method_16_code 45 = .ok (.iastore, 1) := by decide +kernel
theorem d_Mo_fact_46 : decode prog_9_method_16_code 46 = .ok (.aload_n 0, 1) := by decide +kernel
theorem d_Mo_fact_47 : decode prog_9_method_16_code 47 = .ok (.getfield 114, 3) := by decide +kernel
theorem d_Mo_fact_50 : decode prog_9_method_16_code 50 = .ok (.aload_n 0, 1) := by decide +kernel
theorem d_Mo_fact_51 : decode prog_9_method_16_code 51 = .ok (.getfield 184, 3) := by decide +kernel
theorem d_Mo_fact_54 : decode prog_9_method_16_code 54 = .ok (.iload_n 2, 1) := by decide +kernel
theorem d_Mo_fact_55 : decode prog_9_method_16_code 55 = .ok (.iastore, 1) := by decide +kernel
theorem d_Mo_fact_56 : decode prog_9_method_16_code 56 = .ok (.aload_n 0, 1) := by decide +kernel
theorem d_Mo_fact_57 : decode prog_9_method_16_code 57 = .ok (.dup, 1) := by decide +kernel
theorem d_Mo_fact_58 : decode prog_9_method_16_code 58 = .ok (.getfield 184, 3) := by decide +kernel
theorem d_Mo_fact_61 : decode prog_9_method_16_code 61 = .ok (.iconst 1, 1) := by decide +kernel
theorem d_Mo_fact_62 : decode prog_9_method_16_code 62 = .ok (.iadd, 1) := by decide +kernel
theorem d_Mo_fact_63 : decode prog_9_method_16_code 63 = .ok (.putfield 184, 3) := by decide +kernel
theorem d_Mo_fact_66 : decode prog_9_method_16_code 66 = .ok (.aload_n 0, 1) := by decide +kernel
theorem d_Mo_fact_67 : decode prog_9_method_16_code 67 = .ok (.getfield 184, 3) := by decide +kernel
theorem d_Mo_fact_70 : decode prog_9_method_16_code 70 = .ok (.ireturn, 1) := by decide +kernel
theorem d_Mo_placeOf_0 : decode prog_9_method_17_code 0 = .ok (.iconst (-1), 1) := by decide +kernel
theorem d_Mo_placeOf_1 : decode prog_9_method_17_code 1 = .ok (.istore_n 2, 1) := by decide +kernel
theorem d_Mo_placeOf_2 : decode prog_9_method_17_code 2 = .ok (.iconst 0, 1) := by decide +kernel
theorem d_Mo_placeOf_3 : decode prog_9_method_17_code 3 = .ok (.istore_n 3, 1) := by decide +kernel
theorem d_Mo_placeOf_4 : decode prog_9_method_17_code 4 = .ok (.iload_n 3, 1) := by decide +kernel
theorem d_Mo_placeOf_5 : decode prog_9_method_17_code 5 = .ok (.aload_n 0, 1) := by decide +kernel
theorem d_Mo_placeOf_6 : decode prog_9_method_17_code 6 = .ok (.getfield 187, 3) := by decide +kernel
theorem d_Mo_placeOf_9 : decode prog_9_method_17_code 9 = .ok (.if_icmp .ge (25), 3) := by decide +kernel
theorem d_Mo_placeOf_12 : decode prog_9_method_17_code 12 = .ok (.aload_n 0, 1) := by decide +kernel
theorem d_Mo_placeOf_13 : decode prog_9_method_17_code 13 = .ok (.getfield 117, 3) := by decide +kernel
theorem d_Mo_placeOf_16 : decode prog_9_method_17_code 16 = .ok (.iload_n 3, 1) := by decide +kernel
theorem d_Mo_placeOf_17 : decode prog_9_method_17_code 17 = .ok (.iaload, 1) := by decide +kernel
theorem d_Mo_placeOf_18 : decode prog_9_method_17_code 18 = .ok (.iload_n 1, 1) := by decide +kernel
theorem d_Mo_placeOf_19 : decode prog_9_method_17_code 19 = .ok (.if_icmp .ne (7), 3) := by decide +kernel
theorem d_Mo_placeOf_22 : decode prog_9_method_17_code 22 = .ok (.iload_n 3, 1) := by decide +kernel
theorem d_Mo_placeOf_23 : decode prog_9_method_17_code 23 = .ok (.goto (4), 3) := by decide +kernel
theorem d_Mo_placeOf_26 : decode prog_9_method_17_code 26 = .ok (.iload_n 2, 1) := by decide +kernel
theorem d_Mo_placeOf_27 : decode prog_9_method_17_code 27 = .ok (.istore_n 2, 1) := by decide +kernel
theorem d_Mo_placeOf_28 : decode prog_9_method_17_code 28 = .ok (.iinc 3 1, 3) := by decide +kernel
theorem d_Mo_placeOf_31 : decode prog_9_method_17_code 31 = .ok (.goto (-27), 3) := by decide +kernel
theorem d_Mo_placeOf_34 : decode prog_9_method_17_code 34 = .ok (.iload_n 2, 1) := by decide +kernel
theorem d_Mo_placeOf_35 : decode prog_9_method_17_code 35 = .ok (.ireturn, 1) := by decide +kernel
theorem d_Mo_copy_0 : decode prog_9_method_18_code 0 = .ok (.aload_n 0, 1) := by decide +kernel
theorem d_Mo_copy_1 : decode prog_9_method_18_code 1 = .ok (.getfield 117, 3) := by decide +kernel
theorem d_Mo_copy_4 : decode prog_9_method_18_code 4 = .ok (.iload_n 1, 1) := by decide +kernel
theorem d_Mo_copy_5 : decode prog_9_method_18_code 5 = .ok (.aload_n 0, 1) := by decide +kernel
theorem d_Mo_copy_6 : decode prog_9_method_18_code 6 = .ok (.getfield 117, 3) := by decide +kernel
theorem d_Mo_copy_9 : decode prog_9_method_18_code 9 = .ok (.iload_n 2, 1) := by decide +kernel
theorem d_Mo_copy_10 : decode prog_9_method_18_code 10 = .ok (.iaload, 1) := by decide +kernel
theorem d_Mo_copy_11 : decode prog_9_method_18_code 11 = .ok (.iastore, 1) := by decide +kernel
theorem d_Mo_copy_12 : decode prog_9_method_18_code 12 = .ok (.aload_n 0, 1) := by decide +kernel
theorem d_Mo_copy_13 : decode prog_9_method_18_code 13 = .ok (.getfield 120, 3) := by decide +kernel
theorem d_Mo_copy_16 : decode prog_9_method_18_code 16 = .ok (.iload_n 1, 1) := by decide +kernel
theorem d_Mo_copy_17 : decode prog_9_method_18_code 17 = .ok (.aload_n 0, 1) := by decide +kernel
theorem d_Mo_copy_18 : decode prog_9_method_18_code 18 = .ok (.getfield 120, 3) := by decide +kernel
theorem d_Mo_copy_21 : decode prog_9_method_18_code 21 = .ok (.iload_n 2, 1) := by decide +kernel
theorem d_Mo_copy_22 : decode prog_9_method_18_code 22 = .ok (.iaload, 1) := by decide +kernel
theorem d_Mo_copy_23 : decode prog_9_method_18_code 23 = .ok (.iastore, 1) := by decide +kernel
theorem d_Mo_copy_24 : decode prog_9_method_18_code 24 = .ok (.aload_n 0, 1) := by decide +kernel
theorem d_Mo_copy_25 : decode prog_9_method_18_code 25 = .ok (.getfield 123, 3) := by decide +kernel
theorem d_Mo_copy_28 : decode prog_9_method_18_code 28 = .ok (.iload_n 1, 1) := by decide +kernel
theorem d_Mo_copy_29 : decode prog_9_method_18_code 29 = .ok (.aload_n 0, 1) := by decide +kernel
theorem d_Mo_copy_30 : decode prog_9_method_18_code 30 = .ok (.getfield 123, 3) := by decide +kernel
theorem d_Mo_copy_33 : decode prog_9_method_18_code 33 = .ok (.iload_n 2, 1) := by decide +kernel
theorem d_Mo_copy_34 : decode prog_9_method_18_code 34 = .ok (.iaload, 1) := by decide +kernel
theorem d_Mo_copy_35 : decode prog_9_method_18_code 35 = .ok (.iastore, 1) := by decide +kernel
theorem d_Mo_copy_36 : decode prog_9_method_18_code 36 = .ok (.aload_n 0, 1) := by decide +kernel
theorem d_Mo_copy_37 : decode prog_9_method_18_code 37 = .ok (.getfield 126, 3) := by decide +kernel
theorem d_Mo_copy_40 : decode prog_9_method_18_code 40 = .ok (.iload_n 1, 1) := by decide +kernel
theorem d_Mo_copy_41 : decode prog_9_method_18_code 41 = .ok (.aload_n 0, 1) := by decide +kernel
theorem d_Mo_copy_42 : decode prog_9_method_18_code 42 = .ok (.getfield 126, 3) := by decide +kernel
theorem d_Mo_copy_45 : decode prog_9_method_18_code 45 = .ok (.iload_n 2, 1) := by decide +kernel
theorem d_Mo_copy_46 : decode prog_9_method_18_code 46 = .ok (.iaload, 1) := by decide +kernel
theorem d_Mo_copy_47 : decode prog_9_method_18_code 47 = .ok (.iastore, 1) := by decide +kernel
theorem d_Mo_copy_48 : decode prog_9_method_18_code 48 = .ok (.iconst 0, 1) := by decide +kernel
theorem d_Mo_copy_49 : decode prog_9_method_18_code 49 = .ok (.istore_n 3, 1) := by decide +kernel
theorem d_Mo_copy_50 : decode prog_9_method_18_code 50 = .ok (.iload_n 3, 1) := by decide +kernel
theorem d_Mo_copy_51 : decode prog_9_method_18_code 51 = .ok (.bipush 60, 2) := by decide +kernel
theorem d_Mo_copy_53 : decode prog_9_method_18_code 53 = .ok (.if_icmp .ge (53), 3) := by decide +kernel
theorem d_Mo_copy_56 : decode prog_9_method_18_code 56 = .ok (.aload_n 0, 1) := by decide +kernel
theorem d_Mo_copy_57 : decode prog_9_method_18_code 57 = .ok (.getfield 129, 3) := by decide +kernel
theorem d_Mo_copy_60 : decode prog_9_method_18_code 60 = .ok (.bipush 60, 2) := by decide +kernel
theorem d_Mo_copy_62 : decode prog_9_method_18_code 62 = .ok (.iload_n 1, 1) := by decide +kernel
theorem d_Mo_copy_63 : decode prog_9_method_18_code 63 = .ok (.imul, 1) := by decide +kernel
theorem d_Mo_copy_64 : decode prog_9_method_18_code 64 = .ok (.iload_n 3, 1) := by decide +kernel
theorem d_Mo_copy_65 : decode prog_9_method_18_code 65 = .ok (.iadd, 1) := by decide +kernel
theorem d_Mo_copy_66 : decode prog_9_method_18_code 66 = .ok (.aload_n 0, 1) := by decide +kernel
theorem d_Mo_copy_67 : decode prog_9_method_18_code 67 = .ok (.getfield 129, 3) := by decide +kernel
theorem d_Mo_copy_70 : decode prog_9_method_18_code 70 = .ok (.bipush 60, 2) := by decide +kernel
theorem d_Mo_copy_72 : decode prog_9_method_18_code 72 = .ok (.iload_n 2, 1) := by decide +kernel
theorem d_Mo_copy_73 : decode prog_9_method_18_code 73 = .ok (.imul, 1) := by decide +kernel
theorem d_Mo_copy_74 : decode prog_9_method_18_code 74 = .ok (.iload_n 3, 1) := by decide +kernel
theorem d_Mo_copy_75 : decode prog_9_method_18_code 75 = .ok (.iadd, 1) := by decide +kernel
theorem d_Mo_copy_76 : decode prog_9_method_18_code 76 = .ok (.iaload, 1) := by decide +kernel
theorem d_Mo_copy_77 : decode prog_9_method_18_code 77 = .ok (.iastore, 1) := by decide +kernel
theorem d_Mo_copy_78 : decode prog_9_method_18_code 78 = .ok (.aload_n 0, 1) := by decide +kernel
theorem d_Mo_copy_79 : decode prog_9_method_18_code 79 = .ok (.getfield 132, 3) := by decide +kernel
theorem d_Mo_copy_82 : decode prog_9_method_18_code 82 = .ok (.bipush 60, 2) := by decide +kernel
theorem d_Mo_copy_84 : decode prog_9_method_18_code 84 = .ok (.iload_n 1, 1) := by decide +kernel
theorem d_Mo_copy_85 : decode prog_9_method_18_code 85 = .ok (.imul, 1) := by decide +kernel
theorem d_Mo_copy_86 : decode prog_9_method_18_code 86 = .ok (.iload_n 3, 1) := by decide +kernel
theorem d_Mo_copy_87 : decode prog_9_method_18_code 87 = .ok (.iadd, 1) := by decide +kernel
theorem d_Mo_copy_88 : decode prog_9_method_18_code 88 = .ok (.aload_n 0, 1) := by decide +kernel
theorem d_Mo_copy_89 : decode prog_9_method_18_code 89 = .ok (.getfield 132, 3) := by decide +kernel
theorem d_Mo_copy_92 : decode prog_9_method_18_code 92 = .ok (.bipush 60, 2) := by decide +kernel
theorem d_Mo_copy_94 : decode prog_9_method_18_code 94 = .ok (.iload_n 2, 1) := by decide +kernel
theorem d_Mo_copy_95 : decode prog_9_method_18_code 95 = .ok (.imul, 1) := by decide +kernel
theorem d_Mo_copy_96 : decode prog_9_method_18_code 96 = .ok (.iload_n 3, 1) := by decide +kernel
theorem d_Mo_copy_97 : decode prog_9_method_18_code 97 = .ok (.iadd, 1) := by decide +kernel
theorem d_Mo_copy_98 : decode prog_9_method_18_code 98 = .ok (.iaload, 1) := by decide +kernel
theorem d_Mo_copy_99 : decode prog_9_method_18_code 99 = .ok (.iastore, 1) := by decide +kernel
theorem d_Mo_copy_100 : decode prog_9_method_18_code 100 = .ok (.iinc 3 1, 3) := by decide +kernel
theorem d_Mo_copy_103 : decode prog_9_method_18_code 103 = .ok (.goto (-53), 3) := by decide +kernel
theorem d_Mo_copy_106 : decode prog_9_method_18_code 106 = .ok (.return_, 1) := by decide +kernel
theorem d_Mo_forget_0 : decode prog_9_method_19_code 0 = .ok (.aload_n 0, 1) := by decide +kernel
theorem d_Mo_forget_1 : decode prog_9_method_19_code 1 = .ok (.dup, 1) := by decide +kernel
theorem d_Mo_forget_2 : decode prog_9_method_19_code 2 = .ok (.getfield 187, 3) := by decide +kernel
theorem d_Mo_forget_5 : decode prog_9_method_19_code 5 = .ok (.iconst 1, 1) := by decide +kernel
theorem d_Mo_forget_6 : decode prog_9_method_19_code 6 = .ok (.isub, 1) := by decide +kernel
theorem d_Mo_forget_7 : decode prog_9_method_19_code 7 = .ok (.putfield 187, 3) := by decide +kernel
theorem d_Mo_forget_10 : decode prog_9_method_19_code 10 = .ok (.iload_n 1, 1) := by decide +kernel
theorem d_Mo_forget_11 : decode prog_9_method_19_code 11 = .ok (.istore_n 2, 1) := by decide +kernel
theorem d_Mo_forget_12 : decode prog_9_method_19_code 12 = .ok (.iload_n 2, 1) := by decide +kernel
theorem d_Mo_forget_13 : decode prog_9_method_19_code 13 = .ok (.aload_n 0, 1) := by decide +kernel
theorem d_Mo_forget_14 : decode prog_9_method_19_code 14 = .ok (.getfield 187, 3) := by decide +kernel
theorem d_Mo_forget_17 : decode prog_9_method_19_code 17 = .ok (.if_icmp .ge (17), 3) := by decide +kernel
theorem d_Mo_forget_20 : decode prog_9_method_19_code 20 = .ok (.aload_n 0, 1) := by decide +kernel
theorem d_Mo_forget_21 : decode prog_9_method_19_code 21 = .ok (.iload_n 2, 1) := by decide +kernel
theorem d_Mo_forget_22 : decode prog_9_method_19_code 22 = .ok (.iload_n 2, 1) := by decide +kernel
theorem d_Mo_forget_23 : decode prog_9_method_19_code 23 = .ok (.iconst 1, 1) := by decide +kernel
theorem d_Mo_forget_24 : decode prog_9_method_19_code 24 = .ok (.iadd, 1) := by decide +kernel
theorem d_Mo_forget_25 : decode prog_9_method_19_code 25 = .ok (.invokevirtual 190, 3) := by decide +kernel
theorem d_Mo_forget_28 : decode prog_9_method_19_code 28 = .ok (.iinc 2 1, 3) := by decide +kernel
theorem d_Mo_forget_31 : decode prog_9_method_19_code 31 = .ok (.goto (-19), 3) := by decide +kernel
theorem d_Mo_forget_34 : decode prog_9_method_19_code 34 = .ok (.return_, 1) := by decide +kernel
theorem d_Mo_answer_0 : decode prog_9_method_20_code 0 = .ok (.aload_n 0, 1) := by decide +kernel
theorem d_Mo_answer_1 : decode prog_9_method_20_code 1 = .ok (.getfield 126, 3) := by decide +kernel
theorem d_Mo_answer_4 : decode prog_9_method_20_code 4 = .ok (.iload_n 1, 1) := by decide +kernel
theorem d_Mo_answer_5 : decode prog_9_method_20_code 5 = .ok (.iaload, 1) := by decide +kernel
theorem d_Mo_answer_6 : decode prog_9_method_20_code 6 = .ok (.iload 4, 2) := by decide +kernel
theorem d_Mo_answer_8 : decode prog_9_method_20_code 8 = .ok (.isub, 1) := by decide +kernel
theorem d_Mo_answer_9 : decode prog_9_method_20_code 9 = .ok (.istore 5, 2) := by decide +kernel
theorem d_Mo_answer_11 : decode prog_9_method_20_code 11 = .ok (.aload_n 0, 1) := by decide +kernel
theorem d_Mo_answer_12 : decode prog_9_method_20_code 12 = .ok (.iconst 0, 1) := by decide +kernel
theorem d_Mo_answer_13 : decode prog_9_method_20_code 13 = .ok (.putfield 138, 3) := by decide +kernel
theorem d_Mo_answer_16 : decode prog_9_method_20_code 16 = .ok (.aload_n 0, 1) := by decide +kernel
theorem d_Mo_answer_17 : decode prog_9_method_20_code 17 = .ok (.iload_n 3, 1) := by decide +kernel
theorem d_Mo_answer_18 : decode prog_9_method_20_code 18 = .ok (.invokevirtual 144, 3) := by decide +kernel
theorem d_Mo_answer_21 : decode prog_9_method_20_code 21 = .ok (.aload_n 0, 1) := by decide +kernel
theorem d_Mo_answer_22 : decode prog_9_method_20_code 22 = .ok (.iload 5, 2) := by decide +kernel
theorem d_Mo_answer_24 : decode prog_9_method_20_code 24 = .ok (.bipush 8, 2) := by decide +kernel
theorem d_Mo_answer_26 : decode prog_9_method_20_code 26 = .ok (.if_icmp .le (7), 3) := by decide +kernel
theorem d_Mo_answer_29 : decode prog_9_method_20_code 29 = .ok (.iconst 1, 1) := by decide +kernel
theorem d_Mo_answer_30 : decode prog_9_method_20_code 30 = .ok (.goto (4), 3) := by decide +kernel
theorem d_Mo_answer_33 : decode prog_9_method_20_code 33 = .ok (.iconst 0, 1) := by decide +kernel
theorem d_Mo_answer_34 : decode prog_9_method_20_code 34 = .ok (.invokevirtual 144, 3) := by decide +kernel
theorem d_Mo_answer_37 : decode prog_9_method_20_code 37 = .ok (.iload 4, 2) := by decide +kernel
theorem d_Mo_answer_39 : decode prog_9_method_20_code 39 = .ok (.istore 6, 2) := by decide +kernel
theorem d_Mo_answer_41 : decode prog_9_method_20_code 41 = .ok (.iload 6, 2) := by decide +kernel
theorem d_Mo_answer_43 : decode prog_9_method_20_code 43 = .ok (.aload_n 0, 1) := by decide +kernel
theorem d_Mo_answer_44 : decode prog_9_method_20_code 44 = .ok (.getfield 126, 3) := by decide +kernel
theorem d_Mo_answer_47 : decode prog_9_method_20_code 47 = .ok (.iload_n 1, 1) := by decide +kernel
theorem d_Mo_answer_48 : decode prog_9_method_20_code 48 = .ok (.iaload, 1) := by decide +kernel
theorem d_Mo_answer_49 : decode prog_9_method_20_code 49 = .ok (.if_icmp .ge (51), 3) := by decide +kernel
theorem d_Mo_answer_52 : decode prog_9_method_20_code 52 = .ok (.iload 6, 2) := by decide +kernel
theorem d_Mo_answer_54 : decode prog_9_method_20_code 54 = .ok (.iload 4, 2) := by decide +kernel
theorem d_Mo_answer_56 : decode prog_9_method_20_code 56 = .ok (.bipush 8, 2) := by decide +kernel
theorem d_Mo_answer_58 : decode prog_9_method_20_code 58 = .ok (.iadd, 1) := by decide +kernel
theorem d_Mo_answer_59 : decode prog_9_method_20_code 59 = .ok (.if_icmp .ge (41), 3) := by decide +kernel
theorem d_Mo_answer_62 : decode prog_9_method_20_code 62 = .ok (.aload_n 0, 1) := by decide +kernel
theorem d_Mo_answer_63 : decode prog_9_method_20_code 63 = .ok (.aload_n 0, 1) := by decide +kernel
theorem d_Mo_answer_64 : decode prog_9_method_20_code 64 = .ok (.getfield 129, 3) := by decide +kernel
theorem d_Mo_answer_67 : decode prog_9_method_20_code 67 = .ok (.bipush 60, 2) := by decide +kernel
theorem d_Mo_answer_69 : decode prog_9_method_20_code 69 = .ok (.iload_n 1, 1) := by decide +kernel
theorem d_Mo_answer_70 : decode prog_9_method_20_code 70 = .ok (.imul, 1) := by decide +kernel
theorem d_Mo_answer_71 : decode prog_9_method_20_code 71 = .ok (.iload 6, 2) := by decide +kernel
theorem d_Mo_answer_73 : decode prog_9_method_20_code 73 = .ok (.iadd, 1) := by decide +kernel
theorem d_Mo_answer_74 : decode prog_9_method_20_code 74 = .ok (.iaload, 1) := by decide +kernel
theorem d_Mo_answer_75 : decode prog_9_method_20_code 75 = .ok (.invokevirtual 144, 3) := by decide +kernel
theorem d_Mo_answer_78 : decode prog_9_method_20_code 78 = .ok (.aload_n 0, 1) := by decide +kernel
theorem d_Mo_answer_79 : decode prog_9_method_20_code 79 = .ok (.aload_n 0, 1) := by decide +kernel
theorem d_Mo_answer_80 : decode prog_9_method_20_code 80 = .ok (.getfield 132, 3) := by decide +kernel
theorem d_Mo_answer_83 : decode prog_9_method_20_code 83 = .ok (.bipush 60, 2) := by decide +kernel
theorem d_Mo_answer_85 : decode prog_9_method_20_code 85 = .ok (.iload_n 1, 1) := by decide +kernel
theorem d_Mo_answer_86 : decode prog_9_method_20_code 86 = .ok (.imul, 1) := by decide +kernel
theorem d_Mo_answer_87 : decode prog_9_method_20_code 87 = .ok (.iload 6, 2) := by decide +kernel
theorem d_Mo_answer_89 : decode prog_9_method_20_code 89 = .ok (.iadd, 1) := by decide +kernel
theorem d_Mo_answer_90 : decode prog_9_method_20_code 90 = .ok (.iaload, 1) := by decide +kernel
theorem d_Mo_answer_91 : decode prog_9_method_20_code 91 = .ok (.invokevirtual 144, 3) := by decide +kernel
theorem d_Mo_answer_94 : decode prog_9_method_20_code 94 = .ok (.iinc 6 1, 3) := by decide +kernel
theorem d_Mo_answer_97 : decode prog_9_method_20_code 97 = .ok (.goto (-56), 3) := by decide +kernel
theorem d_Mo_answer_100 : decode prog_9_method_20_code 100 = .ok (.aload_n 0, 1) := by decide +kernel
theorem d_Mo_answer_101 : decode prog_9_method_20_code 101 = .ok (.iconst 4, 1) := by decide +kernel
theorem d_Mo_answer_102 : decode prog_9_method_20_code 102 = .ok (.iconst 2, 1) := by decide +kernel
theorem d_Mo_answer_103 : decode prog_9_method_20_code 103 = .ok (.iload_n 2, 1) := by decide +kernel
theorem d_Mo_answer_104 : decode prog_9_method_20_code 104 = .ok (.invokevirtual 151, 3) := by decide +kernel
theorem d_Mo_answer_107 : decode prog_9_method_20_code 107 = .ok (.pop, 1) := by decide +kernel
theorem d_Mo_answer_108 : decode prog_9_method_20_code 108 = .ok (.return_, 1) := by decide +kernel
theorem d_Mo_remember_0 : decode prog_9_method_21_code 0 = .ok (.aload_n 0, 1) := by decide +kernel
theorem d_Mo_remember_1 : decode prog_9_method_21_code 1 = .ok (.iload_n 1, 1) := by decide +kernel
theorem d_Mo_remember_2 : decode prog_9_method_21_code 2 = .ok (.invokevirtual 193, 3) := by decide +kernel
theorem d_Mo_remember_5 : decode prog_9_method_21_code 5 = .ok (.istore_n 3, 1) := by decide +kernel
theorem d_Mo_remember_6 : decode prog_9_method_21_code 6 = .ok (.iload_n 3, 1) := by decide +kernel
theorem d_Mo_remember_7 : decode prog_9_method_21_code 7 = .ok (.ifCond .lt (11), 3) := by decide +kernel
theorem d_Mo_remember_10 : decode prog_9_method_21_code 10 = .ok (.aload_n 0, 1) := by decide +kernel
theorem d_Mo_remember_11 : decode prog_9_method_21_code 11 = .ok (.iload_n 3, 1) := by decide +kernel
theorem d_Mo_remember_12 : decode prog_9_method_21_code 12 = .ok (.invokevirtual 197, 3) := by decide +kernel
theorem d_Mo_remember_15 : decode prog_9_method_21_code 15 = .ok (.goto (17), 3) := by decide +kernel
theorem d_Mo_remember_18 : decode prog_9_method_21_code 18 = .ok (.aload_n 0, 1) := by decide +kernel
theorem d_Mo_remember_19 : decode prog_9_method_21_code 19 = .ok (.getfield 187, 3) := by decide +kernel
theorem d_Mo_remember_22 : decode prog_9_method_21_code 22 = .ok (.bipush 8, 2) := by decide +kernel
theorem d_Mo_remember_24 : decode prog_9_method_21_code 24 = .ok (.if_icmp .ne (8), 3) := by decide +kernel
theorem d_Mo_remember_27 : decode prog_9_method_21_code 27 = .ok (.aload_n 0, 1) := by decide +kernel
theorem d_Mo_remember_28 : decode prog_9_method_21_code 28 = .ok (.iconst 0, 1) := by decide +kernel
theorem d_Mo_remember_29 : decode prog_9_method_21_code 29 = .ok (.invokevirtual 197, 3) := by decide +kernel
theorem d_Mo_remember_32 : decode prog_9_method_21_code 32 = .ok (.aload_n 0, 1) := by decide +kernel
theorem d_Mo_remember_33 : decode prog_9_method_21_code 33 = .ok (.getfield 187, 3) := by decide +kernel
theorem d_Mo_remember_36 : decode prog_9_method_21_code 36 = .ok (.istore 4, 2) := by decide +kernel
theorem d_Mo_remember_38 : decode prog_9_method_21_code 38 = .ok (.aload_n 0, 1) := by decide +kernel
theorem d_Mo_remember_39 : decode prog_9_method_21_code 39 = .ok (.dup, 1) := by decide +kernel
theorem d_Mo_remember_40 : decode prog_9_method_21_code 40 = .ok (.getfield 187, 3) := by decide +kernel
theorem d_Mo_remember_43 : decode prog_9_method_21_code 43 = .ok (.iconst 1, 1) := by decide +kernel
theorem d_Mo_remember_44 : decode prog_9_method_21_code 44 = .ok (.iadd, 1) := by decide +kernel
theorem d_Mo_remember_45 : decode prog_9_method_21_code 45 = .ok (.putfield 187, 3) := by decide +kernel
theorem d_Mo_remember_48 : decode prog_9_method_21_code 48 = .ok (.aload_n 0, 1) := by decide +kernel
theorem d_Mo_remember_49 : decode prog_9_method_21_code 49 = .ok (.getfield 117, 3) := by decide +kernel
theorem d_Mo_remember_52 : decode prog_9_method_21_code 52 = .ok (.iload 4, 2) := by decide +kernel
theorem d_Mo_remember_54 : decode prog_9_method_21_code 54 = .ok (.iload_n 1, 1) := by decide +kernel
theorem d_Mo_remember_55 : decode prog_9_method_21_code 55 = .ok (.iastore, 1) := by decide +kernel
theorem d_Mo_remember_56 : decode prog_9_method_21_code 56 = .ok (.aload_n 0, 1) := by decide +kernel
theorem d_Mo_remember_57 : decode prog_9_method_21_code 57 = .ok (.getfield 120, 3) := by decide +kernel
theorem d_Mo_remember_60 : decode prog_9_method_21_code 60 = .ok (.iload 4, 2) := by decide +kernel
theorem d_Mo_remember_62 : decode prog_9_method_21_code 62 = .ok (.aload_n 0, 1) := by decide +kernel
theorem d_Mo_remember_63 : decode prog_9_method_21_code 63 = .ok (.getfield 20, 3) := by decide +kernel
theorem d_Mo_remember_66 : decode prog_9_method_21_code 66 = .ok (.iload_n 2, 1) := by decide +kernel
theorem d_Mo_remember_67 : decode prog_9_method_21_code 67 = .ok (.iconst 4, 1) := by decide +kernel
theorem d_Mo_remember_68 : decode prog_9_method_21_code 68 = .ok (.iadd, 1) := by decide +kernel
theorem d_Mo_remember_69 : decode prog_9_method_21_code 69 = .ok (.iaload, 1) := by decide +kernel
theorem d_Mo_remember_70 : decode prog_9_method_21_code 70 = .ok (.iastore, 1) := by decide +kernel
theorem d_Mo_remember_71 : decode prog_9_method_21_code 71 = .ok (.aload_n 0, 1) := by decide +kernel
theorem d_Mo_remember_72 : decode prog_9_method_21_code 72 = .ok (.getfield 123, 3) := by decide +kernel
theorem d_Mo_remember_75 : decode prog_9_method_21_code 75 = .ok (.iload 4, 2) := by decide +kernel
theorem d_Mo_remember_77 : decode prog_9_method_21_code 77 = .ok (.aload_n 0, 1) := by decide +kernel
theorem d_Mo_remember_78 : decode prog_9_method_21_code 78 = .ok (.getfield 20, 3) := by decide +kernel
theorem d_Mo_remember_81 : decode prog_9_method_21_code 81 = .ok (.iload_n 2, 1) := by decide +kernel
theorem d_Mo_remember_82 : decode prog_9_method_21_code 82 = .ok (.iconst 4, 1) := by decide +kernel
theorem d_Mo_remember_83 : decode prog_9_method_21_code 83 = .ok (.iadd, 1) := by decide +kernel
theorem d_Mo_remember_84 : decode prog_9_method_21_code 84 = .ok (.iaload, 1) := by decide +kernel
theorem d_Mo_remember_85 : decode prog_9_method_21_code 85 = .ok (.iastore, 1) := by decide +kernel
theorem d_Mo_remember_86 : decode prog_9_method_21_code 86 = .ok (.aload_n 0, 1) := by decide +kernel
theorem d_Mo_remember_87 : decode prog_9_method_21_code 87 = .ok (.getfield 126, 3) := by decide +kernel
theorem d_Mo_remember_90 : decode prog_9_method_21_code 90 = .ok (.iload 4, 2) := by decide +kernel
theorem d_Mo_remember_92 : decode prog_9_method_21_code 92 = .ok (.iconst 0, 1) := by decide +kernel
theorem d_Mo_remember_93 : decode prog_9_method_21_code 93 = .ok (.iastore, 1) := by decide +kernel
theorem d_Mo_remember_94 : decode prog_9_method_21_code 94 = .ok (.iconst 1, 1) := by decide +kernel
theorem d_Mo_remember_95 : decode prog_9_method_21_code 95 = .ok (.istore 5, 2) := by decide +kernel
theorem d_Mo_remember_97 : decode prog_9_method_21_code 97 = .ok (.iload 5, 2) := by decide +kernel
theorem d_Mo_remember_99 : decode prog_9_method_21_code 99 = .ok (.aload_n 0, 1) := by decide +kernel
theorem d_Mo_remember_100 : decode prog_9_method_21_code 100 = .ok (.getfield 20, 3) := by decide +kernel
theorem d_Mo_remember_103 : decode prog_9_method_21_code 103 = .ok (.iload_n 2, 1) := by decide +kernel
theorem d_Mo_remember_104 : decode prog_9_method_21_code 104 = .ok (.iconst 3, 1) := by decide +kernel
theorem d_Mo_remember_105 : decode prog_9_method_21_code 105 = .ok (.iadd, 1) := by decide +kernel
theorem d_Mo_remember_106 : decode prog_9_method_21_code 106 = .ok (.iaload, 1) := by decide +kernel
theorem d_Mo_remember_107 : decode prog_9_method_21_code 107 = .ok (.if_icmp .ge (121), 3) := by decide +kernel
theorem d_Mo_remember_110 : decode prog_9_method_21_code 110 = .ok (.iconst 0, 1) := by decide +kernel
theorem d_Mo_remember_111 : decode prog_9_method_21_code 111 = .ok (.istore 6, 2) := by decide +kernel
theorem d_Mo_remember_113 : decode prog_9_method_21_code 113 = .ok (.iload 6, 2) := by decide +kernel
theorem d_Mo_remember_115 : decode prog_9_method_21_code 115 = .ok (.aload_n 0, 1) := by decide +kernel
theorem d_Mo_remember_116 : decode prog_9_method_21_code 116 = .ok (.getfield 184, 3) := by decide +kernel
theorem d_Mo_remember_119 : decode prog_9_method_21_code 119 = .ok (.if_icmp .ge (103), 3) := by decide +kernel
theorem d_Mo_remember_122 : decode prog_9_method_21_code 122 = .ok (.aload_n 0, 1) := by decide +kernel
theorem d_Mo_remember_123 : decode prog_9_method_21_code 123 = .ok (.getfield 111, 3) := by decide +kernel
theorem d_Mo_remember_126 : decode prog_9_method_21_code 126 = .ok (.iload 6, 2) := by decide +kernel
theorem d_Mo_remember_128 : decode prog_9_method_21_code 128 = .ok (.iaload, 1) := by decide +kernel
theorem d_Mo_remember_129 : decode prog_9_method_21_code 129 = .ok (.aload_n 0, 1) := by decide +kernel
theorem d_Mo_remember_130 : decode prog_9_method_21_code 130 = .ok (.getfield 20, 3) := by decide +kernel
theorem d_Mo_remember_133 : decode prog_9_method_21_code 133 = .ok (.iload_n 2, 1) := by decide +kernel
theorem d_Mo_remember_134 : decode prog_9_method_21_code 134 = .ok (.iconst 4, 1) := by decide +kernel
theorem d_Mo_remember_135 : decode prog_9_method_21_code 135 = .ok (.iadd, 1) := by decide +kernel
theorem d_Mo_remember_136 : decode prog_9_method_21_code 136 = .ok (.iload 5, 2) := by decide +kernel
theorem d_Mo_remember_138 : decode prog_9_method_21_code 138 = .ok (.iadd, 1) := by decide +kernel
theorem d_Mo_remember_139 : decode prog_9_method_21_code 139 = .ok (.iaload, 1) := by decide +kernel
theorem d_Mo_remember_140 : decode prog_9_method_21_code 140 = .ok (.if_icmp .ne (76), 3) := by decide +kernel
theorem d_Mo_remember_143 : decode prog_9_method_21_code 143 = .ok (.aload_n 0, 1) := by decide +kernel
theorem d_Mo_remember_144 : decode prog_9_method_21_code 144 = .ok (.getfield 126, 3) := by decide +kernel
theorem d_Mo_remember_147 : decode prog_9_method_21_code 147 = .ok (.iload 4, 2) := by decide +kernel
theorem d_Mo_remember_149 : decode prog_9_method_21_code 149 = .ok (.iaload, 1) := by decide +kernel
theorem d_Mo_remember_150 : decode prog_9_method_21_code 150 = .ok (.bipush 60, 2) := by decide +kernel
theorem d_Mo_remember_152 : decode prog_9_method_21_code 152 = .ok (.if_icmp .ge (64), 3) := by decide +kernel
theorem d_Mo_remember_155 : decode prog_9_method_21_code 155 = .ok (.aload_n 0, 1) := by decide +kernel
theorem d_Mo_remember_156 : decode prog_9_method_21_code 156 = .ok (.getfield 129, 3) := by decide +kernel
theorem d_Mo_remember_159 : decode prog_9_method_21_code 159 = .ok (.bipush 60, 2) := by decide +kernel
theorem d_Mo_remember_161 : decode prog_9_method_21_code 161 = .ok (.iload 4, 2) := by decide +kernel
theorem d_Mo_remember_163 : decode prog_9_method_21_code 163 = .ok (.imul, 1) := by decide +kernel
theorem d_Mo_remember_164 : decode prog_9_method_21_code 164 = .ok (.aload_n 0, 1) := by decide +kernel
theorem d_Mo_remember_165 : decode prog_9_method_21_code 165 = .ok (.getfield 126, 3) := by decide +kernel
theorem d_Mo_remember_168 : decode prog_9_method_21_code 168 = .ok (.iload 4, 2) := by decide +kernel
theorem d_Mo_remember_170 : decode prog_9_method_21_code 170 = .ok (.iaload, 1) := by decide +kernel
theorem d_Mo_remember_171 : decode prog_9_method_21_code 171 = .ok (.iadd, 1) := by decide +kernel
theorem d_Mo_remember_172 : decode prog_9_method_21_code 172 = .ok (.aload_n 0, 1) := by decide +kernel
theorem d_Mo_remember_173 : decode prog_9_method_21_code 173 = .ok (.getfield 111, 3) := by decide +kernel
theorem d_Mo_remember_176 : decode prog_9_method_21_code 176 = .ok (.iload 6, 2) := by decide +kernel
theorem d_Mo_remember_178 : decode prog_9_method_21_code 178 = .ok (.iaload, 1) := by decide +kernel
theorem d_Mo_remember_179 : decode prog_9_method_21_code 179 = .ok (.iastore, 1) := by decide +kernel
theorem d_Mo_remember_180 : decode prog_9_method_21_code 180 = .ok (.aload_n 0, 1) := by decide +kernel
theorem d_Mo_remember_181 : decode prog_9_method_21_code 181 = .ok (.getfield 132, 3) := by decide +kernel
theorem d_Mo_remember_184 : decode prog_9_method_21_code 184 = .ok (.bipush 60, 2) := by decide +kernel
theorem d_Mo_remember_186 : decode prog_9_method_21_code 186 = .ok (.iload 4, 2) := by decide +kernel
theorem d_Mo_remember_188 : decode prog_9_method_21_code 188 = .ok (.imul, 1) := by decide +kernel
theorem d_Mo_remember_189 : decode prog_9_method_21_code 189 = .ok (.aload_n 0, 1) := by decide +kernel
theorem d_Mo_remember_190 : decode prog_9_method_21_code 190 = .ok (.getfield 126, 3) := by decide +kernel
theorem d_Mo_remember_193 : decode prog_9_method_21_code 193 = .ok (.iload 4, 2) := by decide +kernel
theorem d_Mo_remember_195 : decode prog_9_method_21_code 195 = .ok (.iaload, 1) := by decide +kernel
theorem d_Mo_remember_196 : decode prog_9_method_21_code 196 = .ok (.iadd, 1) := by decide +kernel
theorem d_Mo_remember_197 : decode prog_9_method_21_code 197 = .ok (.aload_n 0, 1) := by decide +kernel
theorem d_Mo_remember_198 : decode prog_9_method_21_code 198 = .ok (.getfield 114, 3) := by decide +kernel
theorem d_Mo_remember_201 : decode prog_9_method_21_code 201 = .ok (.iload 6, 2) := by decide +kernel
theorem d_Mo_remember_203 : decode prog_9_method_21_code 203 = .ok (.iaload, 1) := by decide +kernel
theorem d_Mo_remember_204 : decode prog_9_method_21_code 204 = .ok (.iastore, 1) := by decide +kernel
theorem d_Mo_remember_205 : decode prog_9_method_21_code 205 = .ok (.aload_n 0, 1) := by decide +kernel
theorem d_Mo_remember_206 : decode prog_9_method_21_code 206 = .ok (.getfield 126, 3) := by decide +kernel
theorem d_Mo_remember_209 : decode prog_9_method_21_code 209 = .ok (.iload 4, 2) := by decide +kernel
theorem d_Mo_remember_211 : decode prog_9_method_21_code 211 = .ok (.dup2, 1) := by decide +kernel
theorem d_Mo_remember_212 : decode prog_9_method_21_code 212 = .ok (.iaload, 1) := by decide +kernel
theorem d_Mo_remember_213 : decode prog_9_method_21_code 213 = .ok (.iconst 1, 1) := by decide +kernel
theorem d_Mo_remember_214 : decode prog_9_method_21_code 214 = .ok (.iadd, 1) := by decide +kernel
theorem d_Mo_remember_215 : decode prog_9_method_21_code 215 = .ok (.iastore, 1) := by decide +kernel
theorem d_Mo_remember_216 : decode prog_9_method_21_code 216 = .ok (.iinc 6 1, 3) := by decide +kernel
theorem d_Mo_remember_219 : decode prog_9_method_21_code 219 = .ok (.goto (-106), 3) := by decide +kernel
theorem d_Mo_remember_222 : decode prog_9_method_21_code 222 = .ok (.iinc 5 1, 3) := by decide +kernel
theorem d_Mo_remember_225 : decode prog_9_method_21_code 225 = .ok (.goto (-128), 3) := by decide +kernel
theorem d_Mo_remember_228 : decode prog_9_method_21_code 228 = .ok (.return_, 1) := by decide +kernel
theorem d_Mo_isServed_0 : decode prog_9_method_22_code 0 = .ok (.aload_n 0, 1) := by decide +kernel
theorem d_Mo_isServed_1 : decode prog_9_method_22_code 1 = .ok (.getfield 20, 3) := by decide +kernel
theorem d_Mo_isServed_4 : decode prog_9_method_22_code 4 = .ok (.iload_n 3, 1) := by decide +kernel
theorem d_Mo_isServed_5 : decode prog_9_method_22_code 5 = .ok (.iconst 4, 1) := by decide +kernel
theorem d_Mo_isServed_6 : decode prog_9_method_22_code 6 = .ok (.iadd, 1) := by decide +kernel
theorem d_Mo_isServed_7 : decode prog_9_method_22_code 7 = .ok (.iaload, 1) := by decide +kernel
theorem d_Mo_isServed_8 : decode prog_9_method_22_code 8 = .ok (.istore 4, 2) := by decide +kernel
theorem d_Mo_isServed_10 : decode prog_9_method_22_code 10 = .ok (.aload_n 0, 1) := by decide +kernel
theorem d_Mo_isServed_11 : decode prog_9_method_22_code 11 = .ok (.iload_n 2, 1) := by decide +kernel
theorem d_Mo_isServed_12 : decode prog_9_method_22_code 12 = .ok (.invokevirtual 193, 3) := by decide +kernel
theorem d_Mo_isServed_15 : decode prog_9_method_22_code 15 = .ok (.istore 5, 2) := by decide +kernel
theorem d_Mo_isServed_17 : decode prog_9_method_22_code 17 = .ok (.iload_n 1, 1) := by decide +kernel
theorem d_Mo_isServed_18 : decode prog_9_method_22_code 18 = .ok (.iconst 1, 1) := by decide +kernel
theorem d_Mo_isServed_19 : decode prog_9_method_22_code 19 = .ok (.if_icmp .ne (54), 3) := by decide +kernel
theorem d_Mo_isServed_22 : decode prog_9_method_22_code 22 = .ok (.iload 5, 2) := by decide +kernel
theorem d_Mo_isServed_24 : decode prog_9_method_22_code 24 = .ok (.ifCond .lt (28), 3) := by decide +kernel
theorem d_Mo_isServed_27 : decode prog_9_method_22_code 27 = .ok (.aload_n 0, 1) := by decide +kernel
theorem d_Mo_isServed_28 : decode prog_9_method_22_code 28 = .ok (.getfield 120, 3) := by decide +kernel
theorem d_Mo_isServed_31 : decode prog_9_method_22_code 31 = .ok (.iload 5, 2) := by decide +kernel
theorem d_Mo_isServed_33 : decode prog_9_method_22_code 33 = .ok (.iaload, 1) := by decide +kernel
theorem d_Mo_isServed_34 : decode prog_9_method_22_code 34 = .ok (.iload 4, 2) := by decide +kernel
theorem d_Mo_isServed_36 : decode prog_9_method_22_code 36 = .ok (.if_icmp .ne (16), 3) := by decide +kernel
theorem d_Mo_isServed_39 : decode prog_9_method_22_code 39 = .ok (.aload_n 0, 1) := by decide +kernel
theorem d_Mo_isServed_40 : decode prog_9_method_22_code 40 = .ok (.dup, 1) := by decide +kernel
theorem d_Mo_isServed_41 : decode prog_9_method_22_code 41 = .ok (.getfield 200, 3) := by decide +kernel
theorem d_Mo_isServed_44 : decode prog_9_method_22_code 44 = .ok (.iconst 1, 1) := by decide +kernel
theorem d_Mo_isServed_45 : decode prog_9_method_22_code 45 = .ok (.iadd, 1) := by decide +kernel
theorem d_Mo_isServed_46 : decode prog_9_method_22_code 46 = .ok (.putfield 200, 3) := by decide +kernel
theorem d_Mo_isServed_49 : decode prog_9_method_22_code 49 = .ok (.goto (9), 3) := by decide +kernel
theorem d_Mo_isServed_52 : decode prog_9_method_22_code 52 = .ok (.aload_n 0, 1) := by decide +kernel
theorem d_Mo_isServed_53 : decode prog_9_method_22_code 53 = .ok (.iload_n 2, 1) := by decide +kernel
theorem d_Mo_isServed_54 : decode prog_9_method_22_code 54 = .ok (.iload_n 3, 1) := by decide +kernel
theorem d_Mo_isServed_55 : decode prog_9_method_22_code 55 = .ok (.invokevirtual 203, 3) := by decide +kernel
theorem d_Mo_isServed_58 : decode prog_9_method_22_code 58 = .ok (.aload_n 0, 1) := by decide +kernel
theorem d_Mo_isServed_59 : decode prog_9_method_22_code 59 = .ok (.aload_n 0, 1) := by decide +kernel
theorem d_Mo_isServed_60 : decode prog_9_method_22_code 60 = .ok (.iload_n 2, 1) := by decide +kernel
theorem d_Mo_isServed_61 : decode prog_9_method_22_code 61 = .ok (.invokevirtual 193, 3) := by decide +kernel
theorem d_Mo_isServed_64 : decode prog_9_method_22_code 64 = .ok (.iload_n 2, 1) := by decide +kernel
theorem d_Mo_isServed_65 : decode prog_9_method_22_code 65 = .ok (.iload 4, 2) := by decide +kernel
theorem d_Mo_isServed_67 : decode prog_9_method_22_code 67 = .ok (.iconst 0, 1) := by decide +kernel
theorem d_Mo_isServed_68 : decode prog_9_method_22_code 68 = .ok (.invokevirtual 206, 3) := by decide +kernel
theorem d_Mo_isServed_71 : decode prog_9_method_22_code 71 = .ok (.iconst 1, 1) := by decide +kernel
theorem d_Mo_isServed_72 : decode prog_9_method_22_code 72 = .ok (.ireturn, 1) := by decide +kernel
theorem d_Mo_isServed_73 : decode prog_9_method_22_code 73 = .ok (.iload_n 1, 1) := by decide +kernel
theorem d_Mo_isServed_74 : decode prog_9_method_22_code 74 = .ok (.iconst 3, 1) := by decide +kernel
theorem d_Mo_isServed_75 : decode prog_9_method_22_code 75 = .ok (.if_icmp .eq (5), 3) := by decide +kernel
theorem d_Mo_isServed_78 : decode prog_9_method_22_code 78 = .ok (.iconst 0, 1) := by decide +kernel
theorem d_Mo_isServed_79 : decode prog_9_method_22_code 79 = .ok (.ireturn, 1) := by decide +kernel
theorem d_Mo_isServed_80 : decode prog_9_method_22_code 80 = .ok (.iload 5, 2) := by decide +kernel
theorem d_Mo_isServed_82 : decode prog_9_method_22_code 82 = .ok (.ifCond .lt (55), 3) := by decide +kernel
theorem d_Mo_isServed_85 : decode prog_9_method_22_code 85 = .ok (.aload_n 0, 1) := by decide +kernel
theorem d_Mo_isServed_86 : decode prog_9_method_22_code 86 = .ok (.getfield 20, 3) := by decide +kernel
theorem d_Mo_isServed_89 : decode prog_9_method_22_code 89 = .ok (.iload_n 3, 1) := by decide +kernel
theorem d_Mo_isServed_90 : decode prog_9_method_22_code 90 = .ok (.iconst 5, 1) := by decide +kernel
theorem d_Mo_isServed_91 : decode prog_9_method_22_code 91 = .ok (.iadd, 1) := by decide +kernel
theorem d_Mo_isServed_92 : decode prog_9_method_22_code 92 = .ok (.iaload, 1) := by decide +kernel
theorem d_Mo_isServed_93 : decode prog_9_method_22_code 93 = .ok (.aload_n 0, 1) := by decide +kernel
theorem d_Mo_isServed_94 : decode prog_9_method_22_code 94 = .ok (.getfield 126, 3) := by decide +kernel
theorem d_Mo_isServed_97 : decode prog_9_method_22_code 97 = .ok (.iload 5, 2) := by decide +kernel
theorem d_Mo_isServed_99 : decode prog_9_method_22_code 99 = .ok (.iaload, 1) := by decide +kernel
theorem d_Mo_isServed_100 : decode prog_9_method_22_code 100 = .ok (.if_icmp .gt (37), 3) := by decide +kernel
theorem d_Mo_isServed_103 : decode prog_9_method_22_code 103 = .ok (.iload 4, 2) := by decide +kernel
theorem d_Mo_isServed_105 : decode prog_9_method_22_code 105 = .ok (.aload_n 0, 1) := by decide +kernel
theorem d_Mo_isServed_106 : decode prog_9_method_22_code 106 = .ok (.getfield 123, 3) := by decide +kernel
theorem d_Mo_isServed_109 : decode prog_9_method_22_code 109 = .ok (.iload 5, 2) := by decide +kernel
theorem d_Mo_isServed_111 : decode prog_9_method_22_code 111 = .ok (.iaload, 1) := by decide +kernel
theorem d_Mo_isServed_112 : decode prog_9_method_22_code 112 = .ok (.if_icmp .eq (21), 3) := by decide +kernel
theorem d_Mo_isServed_115 : decode prog_9_method_22_code 115 = .ok (.iload 4, 2) := by decide +kernel
theorem d_Mo_isServed_117 : decode prog_9_method_22_code 117 = .ok (.aload_n 0, 1) := by decide +kernel
theorem d_Mo_isServed_118 : decode prog_9_method_22_code 118 = .ok (.getfield 123, 3) := by decide +kernel
theorem d_Mo_isServed_121 : decode prog_9_method_22_code 121 = .ok (.iload 5, 2) := by decide +kernel
theorem d_Mo_isServed_123 : decode prog_9_method_22_code 123 = .ok (.iaload, 1) := by decide +kernel
theorem d_Mo_isServed_124 : decode prog_9_method_22_code 124 = .ok (.iconst 1, 1) := by decide +kernel
theorem d_Mo_isServed_125 : decode prog_9_method_22_code 125 = .ok (.iadd, 1) := by decide +kernel
theorem d_Mo_isServed_126 : decode prog_9_method_22_code 126 = .ok (.sipush 255, 3) := by decide +kernel
theorem d_Mo_isServed_129 : decode prog_9_method_22_code 129 = .ok (.iand, 1) := by decide +kernel
theorem d_Mo_isServed_130 : decode prog_9_method_22_code 130 = .ok (.if_icmp .ne (7), 3) := by decide +kernel
theorem d_Mo_isServed_133 : decode prog_9_method_22_code 133 = .ok (.iconst 1, 1) := by decide +kernel
theorem d_Mo_isServed_134 : decode prog_9_method_22_code 134 = .ok (.goto (4), 3) := by decide +kernel
theorem d_Mo_isServed_137 : decode prog_9_method_22_code 137 = .ok (.iconst 0, 1) := by decide +kernel
theorem d_Mo_isServed_138 : decode prog_9_method_22_code 138 = .ok (.istore 6, 2) := by decide +kernel
theorem d_Mo_isServed_140 : decode prog_9_method_22_code 140 = .ok (.iload 6, 2) := by decide +kernel
theorem d_Mo_isServed_142 : decode prog_9_method_22_code 142 = .ok (.ifCond .eq (32), 3) := by decide +kernel
theorem d_Mo_isServed_145 : decode prog_9_method_22_code 145 = .ok (.aload_n 0, 1) := by decide +kernel
theorem d_Mo_isServed_146 : decode prog_9_method_22_code 146 = .ok (.getfield 123, 3) := by decide +kernel
theorem d_Mo_isServed_149 : decode prog_9_method_22_code 149 = .ok (.iload 5, 2) := by decide +kernel
theorem d_Mo_isServed_151 : decode prog_9_method_22_code 151 = .ok (.iload 4, 2) := by decide +kernel
theorem d_Mo_isServed_153 : decode prog_9_method_22_code 153 = .ok (.iastore, 1) := by decide +kernel
theorem d_Mo_isServed_154 : decode prog_9_method_22_code 154 = .ok (.aload_n 0, 1) := by decide +kernel
theorem d_Mo_isServed_155 : decode prog_9_method_22_code 155 = .ok (.iload 5, 2) := by decide +kernel
theorem d_Mo_isServed_157 : decode prog_9_method_22_code 157 = .ok (.iload_n 2, 1) := by decide +kernel
theorem d_Mo_isServed_158 : decode prog_9_method_22_code 158 = .ok (.iload 4, 2) := by decide +kernel
theorem d_Mo_isServed_160 : decode prog_9_method_22_code 160 = .ok (.aload_n 0, 1) := by decide +kernel
theorem d_Mo_isServed_161 : decode prog_9_method_22_code 161 = .ok (.getfield 20, 3) := by decide +kernel
theorem d_Mo_isServed_164 : decode prog_9_method_22_code 164 = .ok (.iload_n 3, 1) := by decide +kernel
theorem d_Mo_isServed_165 : decode prog_9_method_22_code 165 = .ok (.iconst 5, 1) := by decide +kernel
theorem d_Mo_isServed_166 : decode prog_9_method_22_code 166 = .ok (.iadd, 1) := by decide +kernel
theorem d_Mo_isServed_167 : decode prog_9_method_22_code 167 = .ok (.iaload, 1) := by decide +kernel
theorem d_Mo_isServed_168 : decode prog_9_method_22_code 168 = .ok (.invokevirtual 206, 3) := by decide +kernel
theorem d_Mo_isServed_171 : decode prog_9_method_22_code 171 = .ok (.goto (22), 3) := by decide +kernel
theorem d_Mo_isServed_174 : decode prog_9_method_22_code 174 = .ok (.aload_n 0, 1) := by decide +kernel
theorem d_Mo_isServed_175 : decode prog_9_method_22_code 175 = .ok (.iconst 0, 1) := by decide +kernel
theorem d_Mo_isServed_176 : decode prog_9_method_22_code 176 = .ok (.putfield 138, 3) := by decide +kernel
theorem d_Mo_isServed_179 : decode prog_9_method_22_code 179 = .ok (.aload_n 0, 1) := by decide +kernel
theorem d_Mo_isServed_180 : decode prog_9_method_22_code 180 = .ok (.iload 4, 2) := by decide +kernel
theorem d_Mo_isServed_182 : decode prog_9_method_22_code 182 = .ok (.invokevirtual 144, 3) := by decide +kernel
theorem d_Mo_isServed_185 : decode prog_9_method_22_code 185 = .ok (.aload_n 0, 1) := by decide +kernel
theorem d_Mo_isServed_186 : decode prog_9_method_22_code 186 = .ok (.iconst 4, 1) := by decide +kernel
theorem d_Mo_isServed_187 : decode prog_9_method_22_code 187 = .ok (.iconst 4, 1) := by decide +kernel
theorem d_Mo_isServed_188 : decode prog_9_method_22_code 188 = .ok (.iload_n 2, 1) := by decide +kernel
theorem d_Mo_isServed_189 : decode prog_9_method_22_code 189 = .ok (.invokevirtual 151, 3) := by decide +kernel
theorem d_Mo_isServed_192 : decode prog_9_method_22_code 192 = .ok (.pop, 1) := by decide +kernel
theorem d_Mo_isServed_193 : decode prog_9_method_22_code 193 = .ok (.iconst 1, 1) := by decide +kernel
theorem d_Mo_isServed_194 : decode prog_9_method_22_code 194 = .ok (.ireturn, 1) := by decide +kernel
theorem d_Mo_end_0 : decode prog_9_method_23_code 0 = .ok (.aload_n 0, 1) := by decide +kernel
theorem d_Mo_end_1 : decode prog_9_method_23_code 1 = .ok (.getfield 23, 3) := by decide +kernel
theorem d_Mo_end_4 : decode prog_9_method_23_code 4 = .ok (.iload_n 1, 1) := by decide +kernel
theorem d_Mo_end_5 : decode prog_9_method_23_code 5 = .ok (.iconst 0, 1) := by decide +kernel
theorem d_Mo_end_6 : decode prog_9_method_23_code 6 = .ok (.iastore, 1) := by decide +kernel
theorem d_Mo_end_7 : decode prog_9_method_23_code 7 = .ok (.iload_n 1, 1) := by decide +kernel
theorem d_Mo_end_8 : decode prog_9_method_23_code 8 = .ok (.iconst 4, 1) := by decide +kernel
theorem d_Mo_end_9 : decode prog_9_method_23_code 9 = .ok (.if_icmp .ge (17), 3) := by decide +kernel
theorem d_Mo_end_12 : decode prog_9_method_23_code 12 = .ok (.aload_n 0, 1) := by decide +kernel
theorem d_Mo_end_13 : decode prog_9_method_23_code 13 = .ok (.getfield 7, 3) := by decide +kernel
theorem d_Mo_end_16 : decode prog_9_method_23_code 16 = .ok (.iload_n 1, 1) := by decide +kernel
theorem d_Mo_end_17 : decode prog_9_method_23_code 17 = .ok (.iconst 0, 1) := by decide +kernel
theorem d_Mo_end_18 : decode prog_9_method_23_code 18 = .ok (.bastore, 1) := by decide +kernel
theorem d_Mo_end_19 : decode prog_9_method_23_code 19 = .ok (.aload_n 0, 1) := by decide +kernel
theorem d_Mo_end_20 : decode prog_9_method_23_code 20 = .ok (.getfield 17, 3) := by decide +kernel
theorem d_Mo_end_23 : decode prog_9_method_23_code 23 = .ok (.iload_n 1, 1) := by decide +kernel
theorem d_Mo_end_24 : decode prog_9_method_23_code 24 = .ok (.iconst 0, 1) := by decide +kernel
theorem d_Mo_end_25 : decode prog_9_method_23_code 25 = .ok (.iastore, 1) := by decide +kernel
theorem d_Mo_end_26 : decode prog_9_method_23_code 26 = .ok (.return_, 1) := by decide +kernel
theorem d_Mo_isLength_0 : decode prog_9_method_24_code 0 = .ok (.iload_n 0, 1) := by decide +kernel
theorem d_Mo_isLength_1 : decode prog_9_method_24_code 1 = .ok (.iconst 1, 1) := by decide +kernel
theorem d_Mo_isLength_2 : decode prog_9_method_24_code 2 = .ok (.if_icmp .ne (13), 3) := by decide +kernel
theorem d_Mo_isLength_5 : decode prog_9_method_24_code 5 = .ok (.iload_n 1, 1) := by decide +kernel
theorem d_Mo_isLength_6 : decode prog_9_method_24_code 6 = .ok (.iconst 2, 1) := by decide +kernel
theorem d_Mo_isLength_7 : decode prog_9_method_24_code 7 = .ok (.bipush 9, 2) := by decide +kernel
theorem d_Mo_isLength_9 : decode prog_9_method_24_code 9 = .ok (.invokestatic 163, 3) := by decide +kernel
theorem d_Mo_isLength_12 : decode prog_9_method_24_code 12 = .ok (.goto (60), 3) := by decide +kernel
theorem d_Mo_isLength_15 : decode prog_9_method_24_code 15 = .ok (.iload_n 0, 1) := by decide +kernel
theorem d_Mo_isLength_16 : decode prog_9_method_24_code 16 = .ok (.iconst 2, 1) := by decide +kernel
theorem d_Mo_isLength_17 : decode prog_9_method_24_code 17 = .ok (.if_icmp .ne (27), 3) := by decide +kernel
theorem d_Mo_isLength_20 : decode prog_9_method_24_code 20 = .ok (.iload_n 1, 1) := by decide +kernel
theorem d_Mo_isLength_21 : decode prog_9_method_24_code 21 = .ok (.iconst 2, 1) := by decide +kernel
theorem d_Mo_isLength_22 : decode prog_9_method_24_code 22 = .ok (.bipush 18, 2) := by decide +kernel
theorem d_Mo_isLength_24 : decode prog_9_method_24_code 24 = .ok (.invokestatic 163, 3) := by decide +kernel
theorem d_Mo_isLength_27 : decode prog_9_method_24_code 27 = .ok (.ifCond .eq (13), 3) := by decide +kernel
theorem d_Mo_isLength_30 : decode prog_9_method_24_code 30 = .ok (.iload_n 1, 1) := by decide +kernel
theorem d_Mo_isLength_31 : decode prog_9_method_24_code 31 = .ok (.iconst 2, 1) := by decide +kernel
theorem d_Mo_isLength_32 : decode prog_9_method_24_code 32 = .ok (.irem, 1) := by decide +kernel
theorem d_Mo_isLength_33 : decode prog_9_method_24_code 33 = .ok (.ifCond .ne (7), 3) := by decide +kernel
theorem d_Mo_isLength_36 : decode prog_9_method_24_code 36 = .ok (.iconst 1, 1) := by decide +kernel
theorem d_Mo_isLength_37 : decode prog_9_method_24_code 37 = .ok (.goto (35), 3) := by decide +kernel
theorem d_Mo_isLength_40 : decode prog_9_method_24_code 40 = .ok (.iconst 0, 1) := by decide +kernel
theorem d_Mo_isLength_41 : decode prog_9_method_24_code 41 = .ok (.goto (31), 3) := by decide +kernel
theorem d_Mo_isLength_44 : decode prog_9_method_24_code 44 = .ok (.iload_n 0, 1) := by decide +kernel
theorem d_Mo_isLength_45 : decode prog_9_method_24_code 45 = .ok (.iconst 3, 1) := by decide +kernel
theorem d_Mo_isLength_46 : decode prog_9_method_24_code 46 = .ok (.if_icmp .ne (16), 3) := by decide +kernel
theorem d_Mo_isLength_49 : decode prog_9_method_24_code 49 = .ok (.iload_n 1, 1) := by decide +kernel
theorem d_Mo_isLength_50 : decode prog_9_method_24_code 50 = .ok (.iconst 2, 1) := by decide +kernel
theorem d_Mo_isLength_51 : decode prog_9_method_24_code 51 = .ok (.if_icmp .ne (7), 3) := by decide +kernel
theorem d_Mo_isLength_54 : decode prog_9_method_24_code 54 = .ok (.iconst 1, 1) := by decide +kernel
theorem d_Mo_isLength_55 : decode prog_9_method_24_code 55 = .ok (.goto (17), 3) := by decide +kernel
theorem d_Mo_isLength_58 : decode prog_9_method_24_code 58 = .ok (.iconst 0, 1) := by decide +kernel
theorem d_Mo_isLength_59 : decode prog_9_method_24_code 59 = .ok (.goto (13), 3) := by decide +kernel
theorem d_Mo_isLength_62 : decode prog_9_method_24_code 62 = .ok (.iload_n 1, 1) := by decide +kernel
theorem d_Mo_isLength_63 : decode prog_9_method_24_code 63 = .ok (.iconst 1, 1) := by decide +kernel
theorem d_Mo_isLength_64 : decode prog_9_method_24_code 64 = .ok (.if_icmp .ne (7), 3) := by decide +kernel
theorem d_Mo_isLength_67 : decode prog_9_method_24_code 67 = .ok (.iconst 1, 1) := by decide +kernel
theorem d_Mo_isLength_68 : decode prog_9_method_24_code 68 = .ok (.goto (4), 3) := by decide +kernel
theorem d_Mo_isLength_71 : decode prog_9_method_24_code 71 = .ok (.iconst 0, 1) := by decide +kernel
theorem d_Mo_isLength_72 : decode prog_9_method_24_code 72 = .ok (.ireturn, 1) := by decide +kernel
theorem d_Mo_fits_0 : decode prog_9_method_25_code 0 = .ok (.iload_n 2, 1) := by decide +kernel
theorem d_Mo_fits_1 : decode prog_9_method_25_code 1 = .ok (.ifCond .ne (15), 3) := by decide +kernel
theorem d_Mo_fits_4 : decode prog_9_method_25_code 4 = .ok (.iload_n 3, 1) := by decide +kernel
theorem d_Mo_fits_5 : decode prog_9_method_25_code 5 = .ok (.bipush 126, 2) := by decide +kernel
theorem d_Mo_fits_7 : decode prog_9_method_25_code 7 = .ok (.if_icmp .ne (7), 3) := by decide +kernel
theorem d_Mo_fits_10 : decode prog_9_method_25_code 10 = .ok (.iconst 1, 1) := by decide +kernel
theorem d_Mo_fits_11 : decode prog_9_method_25_code 11 = .ok (.goto (4), 3) := by decide +kernel
theorem d_Mo_fits_14 : decode prog_9_method_25_code 14 = .ok (.iconst 0, 1) := by decide +kernel
theorem d_Mo_fits_15 : decode prog_9_method_25_code 15 = .ok (.ireturn, 1) := by decide +kernel
theorem d_Mo_fits_16 : decode prog_9_method_25_code 16 = .ok (.iload_n 2, 1) := by decide +kernel
theorem d_Mo_fits_17 : decode prog_9_method_25_code 17 = .ok (.iconst 1, 1) := by decide +kernel
theorem d_Mo_fits_18 : decode prog_9_method_25_code 18 = .ok (.if_icmp .ne (10), 3) := by decide +kernel
theorem d_Mo_fits_21 : decode prog_9_method_25_code 21 = .ok (.iload_n 3, 1) := by decide +kernel
theorem d_Mo_fits_22 : decode prog_9_method_25_code 22 = .ok (.iconst 1, 1) := by decide +kernel
theorem d_Mo_fits_23 : decode prog_9_method_25_code 23 = .ok (.iconst 4, 1) := by decide +kernel
theorem d_Mo_fits_24 : decode prog_9_method_25_code 24 = .ok (.invokestatic 163, 3) := by decide +kernel
theorem d_Mo_fits_27 : decode prog_9_method_25_code 27 = .ok (.ireturn, 1) := by decide +kernel
theorem d_Mo_fits_28 : decode prog_9_method_25_code 28 = .ok (.iload_n 2, 1) := by decide +kernel
theorem d_Mo_fits_29 : decode prog_9_method_25_code 29 = .ok (.iconst 3, 1) := by decide +kernel
theorem d_Mo_fits_30 : decode prog_9_method_25_code 30 = .ok (.if_icmp .ne (16), 3) := by decide +kernel
theorem d_Mo_fits_33 : decode prog_9_method_25_code 33 = .ok (.aload_n 0, 1) := by decide +kernel
theorem d_Mo_fits_34 : decode prog_9_method_25_code 34 = .ok (.getfield 20, 3) := by decide +kernel
theorem d_Mo_fits_37 : decode prog_9_method_25_code 37 = .ok (.iload_n 1, 1) := by decide +kernel
theorem d_Mo_fits_38 : decode prog_9_method_25_code 38 = .ok (.iconst 1, 1) := by decide +kernel
theorem d_Mo_fits_39 : decode prog_9_method_25_code 39 = .ok (.iadd, 1) := by decide +kernel
theorem d_Mo_fits_40 : decode prog_9_method_25_code 40 = .ok (.iaload, 1) := by decide +kernel
theorem d_Mo_fits_41 : decode prog_9_method_25_code 41 = .ok (.iload_n 3, 1) := by decide +kernel
theorem d_Mo_fits_42 : decode prog_9_method_25_code 42 = .ok (.invokestatic 210, 3) := by decide +kernel
theorem d_Mo_fits_45 : decode prog_9_method_25_code 45 = .ok (.ireturn, 1) := by decide +kernel
theorem d_Mo_fits_46 : decode prog_9_method_25_code 46 = .ok (.iload_n 2, 1) := by decide +kernel
theorem d_Mo_fits_47 : decode prog_9_method_25_code 47 = .ok (.iconst 5, 1) := by decide +kernel
theorem d_Mo_fits_48 : decode prog_9_method_25_code 48 = .ok (.if_icmp .ne (26), 3) := by decide +kernel
theorem d_Mo_fits_51 : decode prog_9_method_25_code 51 = .ok (.aload_n 0, 1) := by decide +kernel
theorem d_Mo_fits_52 : decode prog_9_method_25_code 52 = .ok (.getfield 20, 3) := by decide +kernel
theorem d_Mo_fits_55 : decode prog_9_method_25_code 55 = .ok (.iload_n 1, 1) := by decide +kernel
theorem d_Mo_fits_56 : decode prog_9_method_25_code 56 = .ok (.iconst 1, 1) := by decide +kernel
theorem d_Mo_fits_57 : decode prog_9_method_25_code 57 = .ok (.iadd, 1) := by decide +kernel
theorem d_Mo_fits_58 : decode prog_9_method_25_code 58 = .ok (.iaload, 1) := by decide +kernel
theorem d_Mo_fits_59 : decode prog_9_method_25_code 59 = .ok (.iconst 2, 1) := by decide +kernel
theorem d_Mo_fits_60 : decode prog_9_method_25_code 60 = .ok (.if_icmp .ne (14), 3) := by decide +kernel
theorem d_Mo_fits_63 : decode prog_9_method_25_code 63 = .ok (.iload_n 3, 1) := by decide +kernel
theorem d_Mo_fits_64 : decode prog_9_method_25_code 64 = .ok (.iconst 2, 1) := by decide +kernel
theorem d_Mo_fits_65 : decode prog_9_method_25_code 65 = .ok (.if_icmp .ge (7), 3) := by decide +kernel
theorem d_Mo_fits_68 : decode prog_9_method_25_code 68 = .ok (.iconst 1, 1) := by decide +kernel
theorem d_Mo_fits_69 : decode prog_9_method_25_code 69 = .ok (.goto (4), 3) := by decide +kernel
theorem d_Mo_fits_72 : decode prog_9_method_25_code 72 = .ok (.iconst 0, 1) := by decide +kernel
theorem d_Mo_fits_73 : decode prog_9_method_25_code 73 = .ok (.ireturn, 1) := by decide +kernel
theorem d_Mo_fits_74 : decode prog_9_method_25_code 74 = .ok (.iload_n 2, 1) := by decide +kernel
theorem d_Mo_fits_75 : decode prog_9_method_25_code 75 = .ok (.iconst 4, 1) := by decide +kernel
theorem d_Mo_fits_76 : decode prog_9_method_25_code 76 = .ok (.if_icmp .lt (17), 3) := by decide +kernel
theorem d_Mo_fits_79 : decode prog_9_method_25_code 79 = .ok (.iload_n 2, 1) := by decide +kernel
theorem d_Mo_fits_80 : decode prog_9_method_25_code 80 = .ok (.aload_n 0, 1) := by decide +kernel
theorem d_Mo_fits_81 : decode prog_9_method_25_code 81 = .ok (.getfield 20, 3) := by decide +kernel
theorem d_Mo_fits_84 : decode prog_9_method_25_code 84 = .ok (.iload_n 1, 1) := by decide +kernel
theorem d_Mo_fits_85 : decode prog_9_method_25_code 85 = .ok (.iconst 3, 1) := by decide +kernel
theorem d_Mo_fits_86 : decode prog_9_method_25_code 86 = .ok (.iadd, 1) := by decide +kernel
theorem d_Mo_fits_87 : decode prog_9_method_25_code 87 = .ok (.iaload, 1) := by decide +kernel
theorem d_Mo_fits_88 : decode prog_9_method_25_code 88 = .ok (.iconst 4, 1) := by decide +kernel
theorem d_Mo_fits_89 : decode prog_9_method_25_code 89 = .ok (.iadd, 1) := by decide +kernel
theorem d_Mo_fits_90 : decode prog_9_method_25_code 90 = .ok (.if_icmp .ge (5), 3) := by decide +kernel
theorem d_Mo_fits_93 : decode prog_9_method_25_code 93 = .ok (.iconst 1, 1) := by decide +kernel
theorem d_Mo_fits_94 : decode prog_9_method_25_code 94 = .ok (.ireturn, 1) := by decide +kernel
theorem d_Mo_fits_95 : decode prog_9_method_25_code 95 = .ok (.iconst 0, 1) := by decide +kernel
theorem d_Mo_fits_96 : decode prog_9_method_25_code 96 = .ok (.istore 4, 2) := by decide +kernel
theorem d_Mo_fits_98 : decode prog_9_method_25_code 98 = .ok (.iconst 1, 1) := by decide +kernel
theorem d_Mo_fits_99 : decode prog_9_method_25_code 99 = .ok (.istore 5, 2) := by decide +kernel
theorem d_Mo_fits_101 : decode prog_9_method_25_code 101 = .ok (.iload 5, 2) := by decide +kernel
theorem d_Mo_fits_103 : decode prog_9_method_25_code 103 = .ok (.iload_n 2, 1) := by decide +kernel
theorem d_Mo_fits_104 : decode prog_9_method_25_code 104 = .ok (.if_icmp .ge (23), 3) := by decide +kernel
theorem d_Mo_fits_107 : decode prog_9_method_25_code 107 = .ok (.iload 4, 2) := by decide +kernel
theorem d_Mo_fits_109 : decode prog_9_method_25_code 109 = .ok (.aload_n 0, 1) := by decide +kernel
theorem d_Mo_fits_110 : decode prog_9_method_25_code 110 = .ok (.getfield 20, 3) := by decide +kernel
theorem d_Mo_fits_113 : decode prog_9_method_25_code 113 = .ok (.iload_n 1, 1) := by decide +kernel
theorem d_Mo_fits_114 : decode prog_9_method_25_code 114 = .ok (.iload 5, 2) := by decide +kernel
theorem d_Mo_fits_116 : decode prog_9_method_25_code 116 = .ok (.iadd, 1) := by decide +kernel
theorem d_Mo_fits_117 : decode prog_9_method_25_code 117 = .ok (.iaload, 1) := by decide +kernel
theorem d_Mo_fits_118 : decode prog_9_method_25_code 118 = .ok (.ixor, 1) := by decide +kernel
theorem d_Mo_fits_119 : decode prog_9_method_25_code 119 = .ok (.istore 4, 2) := by decide +kernel
theorem d_Mo_fits_121 : decode prog_9_method_25_code 121 = .ok (.iinc 5 1, 3) := by decide +kernel
theorem d_Mo_fits_124 : decode prog_9_method_25_code 124 = .ok (.goto (-23), 3) := by decide +kernel
theorem d_Mo_fits_127 : decode prog_9_method_25_code 127 = .ok (.iload 4, 2) := by decide +kernel
theorem d_Mo_fits_129 : decode prog_9_method_25_code 129 = .ok (.iload_n 3, 1) := by decide +kernel
theorem d_Mo_fits_130 : decode prog_9_method_25_code 130 = .ok (.if_icmp .ne (7), 3) := by decide +kernel
theorem d_Mo_fits_133 : decode prog_9_method_25_code 133 = .ok (.iconst 1, 1) := by decide +kernel
theorem d_Mo_fits_134 : decode prog_9_method_25_code 134 = .ok (.goto (4), 3) := by decide +kernel
theorem d_Mo_fits_137 : decode prog_9_method_25_code 137 = .ok (.iconst 0, 1) := by decide +kernel
theorem d_Mo_fits_138 : decode prog_9_method_25_code 138 = .ok (.ireturn, 1) := by decide +kernel
theorem d_Mo_come_0 : decode prog_9_method_26_code 0 = .ok (.bipush 30, 2) := by decide +kernel
theorem d_Mo_come_2 : decode prog_9_method_26_code 2 = .ok (.iload_n 1, 1) := by decide +kernel
theorem d_Mo_come_3 : decode prog_9_method_26_code 3 = .ok (.imul, 1) := by decide +kernel
theorem d_Mo_come_4 : decode prog_9_method_26_code 4 = .ok (.istore_n 3, 1) := by decide +kernel
theorem d_Mo_come_5 : decode prog_9_method_26_code 5 = .ok (.aload_n 0, 1) := by decide +kernel
theorem d_Mo_come_6 : decode prog_9_method_26_code 6 = .ok (.getfield 23, 3) := by decide +kernel
theorem d_Mo_come_9 : decode prog_9_method_26_code 9 = .ok (.iload_n 1, 1) := by decide +kernel
theorem d_Mo_come_10 : decode prog_9_method_26_code 10 = .ok (.iaload, 1) := by decide +kernel
theorem d_Mo_come_11 : decode prog_9_method_26_code 11 = .ok (.istore 4, 2) := by decide +kernel
theorem d_Mo_come_13 : decode prog_9_method_26_code 13 = .ok (.aload_n 0, 1) := by decide +kernel
theorem d_Mo_come_14 : decode prog_9_method_26_code 14 = .ok (.iload_n 3, 1) := by decide +kernel
theorem d_Mo_come_15 : decode prog_9_method_26_code 15 = .ok (.iload 4, 2) := by decide +kernel
theorem d_Mo_come_17 : decode prog_9_method_26_code 17 = .ok (.iload_n 2, 1) := by decide +kernel
theorem d_Mo_come_18 : decode prog_9_method_26_code 18 = .ok (.invokevirtual 214, 3) := by decide +kernel
theorem d_Mo_come_21 : decode prog_9_method_26_code 21 = .ok (.ifCond .ne (11), 3) := by decide +kernel
theorem d_Mo_come_24 : decode prog_9_method_26_code 24 = .ok (.aload_n 0, 1) := by decide +kernel
theorem d_Mo_come_25 : decode prog_9_method_26_code 25 = .ok (.iload_n 1, 1) := by decide +kernel
theorem d_Mo_come_26 : decode prog_9_method_26_code 26 = .ok (.invokevirtual 217, 3) := by decide +kernel
theorem d_Mo_come_29 : decode prog_9_method_26_code 29 = .ok (.bipush (-10), 2) := by decide +kernel
theorem d_Mo_come_31 : decode prog_9_method_26_code 31 = .ok (.ireturn, 1) := by decide +kernel
theorem d_Mo_come_32 : decode prog_9_method_26_code 32 = .ok (.aload_n 0, 1) := by decide +kernel
theorem d_Mo_come_33 : decode prog_9_method_26_code 33 = .ok (.getfield 20, 3) := by decide +kernel
theorem d_Mo_come_36 : decode prog_9_method_26_code 36 = .ok (.iload_n 3, 1) := by decide +kernel
theorem d_Mo_come_37 : decode prog_9_method_26_code 37 = .ok (.iload 4, 2) := by decide +kernel
theorem d_Mo_come_39 : decode prog_9_method_26_code 39 = .ok (.iadd, 1) := by decide +kernel
theorem d_Mo_come_40 : decode prog_9_method_26_code 40 = .ok (.iload_n 2, 1) := by decide +kernel
theorem d_Mo_come_41 : decode prog_9_method_26_code 41 = .ok (.iastore, 1) := by decide +kernel
theorem d_Mo_come_42 : decode prog_9_method_26_code 42 = .ok (.aload_n 0, 1) := by decide +kernel
theorem d_Mo_come_43 : decode prog_9_method_26_code 43 = .ok (.getfield 23, 3) := by decide +kernel
theorem d_Mo_come_46 : decode prog_9_method_26_code 46 = .ok (.iload_n 1, 1) := by decide +kernel
theorem d_Mo_come_47 : decode prog_9_method_26_code 47 = .ok (.dup2, 1) := by decide +kernel
theorem d_Mo_come_48 : decode prog_9_method_26_code 48 = .ok (.iaload, 1) := by decide +kernel
theorem d_Mo_come_49 : decode prog_9_method_26_code 49 = .ok (.iconst 1, 1) := by decide +kernel
theorem d_Mo_come_50 : decode prog_9_method_26_code 50 = .ok (.iadd, 1) := by decide +kernel
theorem d_Mo_come_51 : decode prog_9_method_26_code 51 = .ok (.iastore, 1) := by decide +kernel
theorem d_Mo_come_52 : decode prog_9_method_26_code 52 = .ok (.iload 4, 2) := by decide +kernel
theorem d_Mo_come_54 : decode prog_9_method_26_code 54 = .ok (.iconst 4, 1) := by decide +kernel
theorem d_Mo_come_55 : decode prog_9_method_26_code 55 = .ok (.if_icmp .lt (18), 3) := by decide +kernel
theorem d_Mo_come_58 : decode prog_9_method_26_code 58 = .ok (.iload 4, 2) := by decide +kernel
theorem d_Mo_come_60 : decode prog_9_method_26_code 60 = .ok (.aload_n 0, 1) := by decide +kernel
theorem d_Mo_come_61 : decode prog_9_method_26_code 61 = .ok (.getfield 20, 3) := by decide +kernel
theorem d_Mo_come_64 : decode prog_9_method_26_code 64 = .ok (.iload_n 3, 1) := by decide +kernel
theorem d_Mo_come_65 : decode prog_9_method_26_code 65 = .ok (.iconst 3, 1) := by decide +kernel
theorem d_Mo_come_66 : decode prog_9_method_26_code 66 = .ok (.iadd, 1) := by decide +kernel
theorem d_Mo_come_67 : decode prog_9_method_26_code 67 = .ok (.iaload, 1) := by decide +kernel
theorem d_Mo_come_68 : decode prog_9_method_26_code 68 = .ok (.iconst 4, 1) := by decide +kernel
theorem d_Mo_come_69 : decode prog_9_method_26_code 69 = .ok (.iadd, 1) := by decide +kernel
theorem d_Mo_come_70 : decode prog_9_method_26_code 70 = .ok (.if_icmp .ge (5), 3) := by decide +kernel
theorem d_Mo_come_73 : decode prog_9_method_26_code 73 = .ok (.iconst 0, 1) := by decide +kernel
theorem d_Mo_come_74 : decode prog_9_method_26_code 74 = .ok (.ireturn, 1) := by decide +kernel
theorem d_Mo_come_75 : decode prog_9_method_26_code 75 = .ok (.aload_n 0, 1) := by decide +kernel
theorem d_Mo_come_76 : decode prog_9_method_26_code 76 = .ok (.getfield 23, 3) := by decide +kernel
theorem d_Mo_come_79 : decode prog_9_method_26_code 79 = .ok (.iload_n 1, 1) := by decide +kernel
theorem d_Mo_come_80 : decode prog_9_method_26_code 80 = .ok (.iconst 0, 1) := by decide +kernel
theorem d_Mo_come_81 : decode prog_9_method_26_code 81 = .ok (.iastore, 1) := by decide +kernel
theorem d_Mo_come_82 : decode prog_9_method_26_code 82 = .ok (.aload_n 0, 1) := by decide +kernel
theorem d_Mo_come_83 : decode prog_9_method_26_code 83 = .ok (.getfield 20, 3) := by decide +kernel
theorem d_Mo_come_86 : decode prog_9_method_26_code 86 = .ok (.iload_n 3, 1) := by decide +kernel
theorem d_Mo_come_87 : decode prog_9_method_26_code 87 = .ok (.iconst 1, 1) := by decide +kernel
theorem d_Mo_come_88 : decode prog_9_method_26_code 88 = .ok (.iadd, 1) := by decide +kernel
theorem d_Mo_come_89 : decode prog_9_method_26_code 89 = .ok (.iaload, 1) := by decide +kernel
theorem d_Mo_come_90 : decode prog_9_method_26_code 90 = .ok (.istore 5, 2) := by decide +kernel
theorem d_Mo_come_92 : decode prog_9_method_26_code 92 = .ok (.aload_n 0, 1) := by decide +kernel
theorem d_Mo_come_93 : decode prog_9_method_26_code 93 = .ok (.getfield 20, 3) := by decide +kernel
theorem d_Mo_come_96 : decode prog_9_method_26_code 96 = .ok (.iload_n 3, 1) := by decide +kernel
theorem d_Mo_come_97 : decode prog_9_method_26_code 97 = .ok (.iconst 2, 1) := by decide +kernel
theorem d_Mo_come_98 : decode prog_9_method_26_code 98 = .ok (.iadd, 1) := by decide +kernel
theorem d_Mo_come_99 : decode prog_9_method_26_code 99 = .ok (.iaload, 1) := by decide +kernel
theorem d_Mo_come_100 : decode prog_9_method_26_code 100 = .ok (.istore 6, 2) := by decide +kernel
theorem d_Mo_come_102 : decode prog_9_method_26_code 102 = .ok (.iload_n 1, 1) := by decide +kernel
theorem d_Mo_come_103 : decode prog_9_method_26_code 103 = .ok (.iconst 4, 1) := by decide +kernel
theorem d_Mo_come_104 : decode prog_9_method_26_code 104 = .ok (.if_icmp .ne (23), 3) := by decide +kernel
theorem d_Mo_come_107 : decode prog_9_method_26_code 107 = .ok (.aload_n 0, 1) := by decide +kernel
theorem d_Mo_come_108 : decode prog_9_method_26_code 108 = .ok (.iload 5, 2) := by decide +kernel
theorem d_Mo_come_110 : decode prog_9_method_26_code 110 = .ok (.iload 6, 2) := by decide +kernel
theorem d_Mo_come_112 : decode prog_9_method_26_code 112 = .ok (.iload_n 3, 1) := by decide +kernel
theorem d_Mo_come_113 : decode prog_9_method_26_code 113 = .ok (.invokevirtual 220, 3) := by decide +kernel
theorem d_Mo_come_116 : decode prog_9_method_26_code 116 = .ok (.ifCond .ne (7), 3) := by decide +kernel
theorem d_Mo_come_119 : decode prog_9_method_26_code 119 = .ok (.iconst 1, 1) := by decide +kernel
theorem d_Mo_come_120 : decode prog_9_method_26_code 120 = .ok (.goto (17), 3) := by decide +kernel
theorem d_Mo_come_123 : decode prog_9_method_26_code 123 = .ok (.iconst 0, 1) := by decide +kernel
theorem d_Mo_come_124 : decode prog_9_method_26_code 124 = .ok (.goto (13), 3) := by decide +kernel
theorem d_Mo_come_127 : decode prog_9_method_26_code 127 = .ok (.aload_n 0, 1) := by decide +kernel
theorem d_Mo_come_128 : decode prog_9_method_26_code 128 = .ok (.iload_n 1, 1) := by decide +kernel
theorem d_Mo_come_129 : decode prog_9_method_26_code 129 = .ok (.iload 5, 2) := by decide +kernel
theorem d_Mo_come_131 : decode prog_9_method_26_code 131 = .ok (.iload 6, 2) := by decide +kernel
theorem d_Mo_come_133 : decode prog_9_method_26_code 133 = .ok (.iload_n 3, 1) := by decide +kernel
theorem d_Mo_come_134 : decode prog_9_method_26_code 134 = .ok (.invokevirtual 223, 3) := by decide +kernel
theorem d_Mo_come_137 : decode prog_9_method_26_code 137 = .ok (.istore 7, 2) := by decide +kernel
theorem d_Mo_come_139 : decode prog_9_method_26_code 139 = .ok (.aload_n 0, 1) := by decide +kernel
theorem d_Mo_come_140 : decode prog_9_method_26_code 140 = .ok (.iload 7, 2) := by decide +kernel
theorem d_Mo_come_142 : decode prog_9_method_26_code 142 = .ok (.ifCond .eq (12), 3) := by decide +kernel
theorem d_Mo_come_145 : decode prog_9_method_26_code 145 = .ok (.aload_n 0, 1) := by decide +kernel
theorem d_Mo_come_146 : decode prog_9_method_26_code 146 = .ok (.getfield 227, 3) := by decide +kernel
theorem d_Mo_come_149 : decode prog_9_method_26_code 149 = .ok (.iconst 1, 1) := by decide +kernel
theorem d_Mo_come_150 : decode prog_9_method_26_code 150 = .ok (.iadd, 1) := by decide +kernel
theorem d_Mo_come_151 : decode prog_9_method_26_code 151 = .ok (.goto (7), 3) := by decide +kernel
theorem d_Mo_come_154 : decode prog_9_method_26_code 154 = .ok (.aload_n 0, 1) := by decide +kernel
theorem d_Mo_come_155 : decode prog_9_method_26_code 155 = .ok (.getfield 227, 3) := by decide +kernel
theorem d_Mo_come_158 : decode prog_9_method_26_code 158 = .ok (.putfield 227, 3) := by decide +kernel
theorem d_Mo_come_161 : decode prog_9_method_26_code 161 = .ok (.iload 7, 2) := by decide +kernel
theorem d_Mo_come_163 : decode prog_9_method_26_code 163 = .ok (.ifCond .eq (11), 3) := by decide +kernel
theorem d_Mo_come_166 : decode prog_9_method_26_code 166 = .ok (.iload 5, 2) := by decide +kernel
theorem d_Mo_come_168 : decode prog_9_method_26_code 168 = .ok (.bipush 10, 2) := by decide +kernel
theorem d_Mo_come_170 : decode prog_9_method_26_code 170 = .ok (.iadd, 1) := by decide +kernel
theorem d_Mo_come_171 : decode prog_9_method_26_code 171 = .ok (.goto (5), 3) := by decide +kernel
theorem d_Mo_come_174 : decode prog_9_method_26_code 174 = .ok (.iload 5, 2) := by decide +kernel
theorem d_Mo_come_176 : decode prog_9_method_26_code 176 = .ok (.ireturn, 1) := by decide +kernel
theorem d_Mo_octet_0 : decode prog_9_method_27_code 0 = .ok (.iload_n 1, 1) := by decide +kernel
theorem d_Mo_octet_1 : decode prog_9_method_27_code 1 = .ok (.iconst 0, 1) := by decide +kernel
theorem d_Mo_octet_2 : decode prog_9_method_27_code 2 = .ok (.iconst 4, 1) := by decide +kernel
theorem d_Mo_octet_3 : decode prog_9_method_27_code 3 = .ok (.invokestatic 163, 3) := by decide +kernel
theorem d_Mo_octet_6 : decode prog_9_method_27_code 6 = .ok (.ifCond .ne (7), 3) := by decide +kernel

theorem d_Frame_init_0 : decode prog_2_method_1_code 0 = .ok (.aload_n 0, 1) := by decide +kernel
theorem d_Frame_init_1 : decode prog_2_method_1_code 1 = .ok (.invokespecial 3, 3) := by decide +kernel
theorem d_Frame_init_4 : decode prog_2_method_1_code 4 = .ok (.aload_n 0, 1) := by decide +kernel
theorem d_Frame_init_5 : decode prog_2_method_1_code 5 = .ok (.iconst 0, 1) := by decide +kernel
theorem d_Frame_init_6 : decode prog_2_method_1_code 6 = .ok (.putfield 9, 3) := by decide +kernel
theorem d_Frame_init_9 : decode prog_2_method_1_code 9 = .ok (.aload_n 0, 1) := by decide +kernel
theorem d_Frame_init_10 : decode prog_2_method_1_code 10 = .ok (.iconst 0, 1) := by decide +kernel
theorem d_Frame_init_11 : decode prog_2_method_1_code 11 = .ok (.putfield 15, 3) := by decide +kernel
theorem d_Frame_init_14 : decode prog_2_method_1_code 14 = .ok (.aload_n 0, 1) := by decide +kernel
theorem d_Frame_init_15 : decode prog_2_method_1_code 15 = .ok (.iconst 0, 1) := by decide +kernel
theorem d_Frame_init_16 : decode prog_2_method_1_code 16 = .ok (.putfield 18, 3) := by decide +kernel
theorem d_Frame_init_19 : decode prog_2_method_1_code 19 = .ok (.aload_n 0, 1) := by decide +kernel
theorem d_Frame_init_20 : decode prog_2_method_1_code 20 = .ok (.bipush 18, 2) := by decide +kernel
theorem d_Frame_init_22 : decode prog_2_method_1_code 22 = .ok (.newarray .int, 2) := by decide +kernel
theorem d_Frame_init_24 : decode prog_2_method_1_code 24 = .ok (.putfield 21, 3) := by decide +kernel
theorem d_Frame_init_27 : decode prog_2_method_1_code 27 = .ok (.return_, 1) := by decide +kernel
theorem d_Frame_begin_0 : decode prog_2_method_2_code 0 = .ok (.aload_n 0, 1) := by decide +kernel
theorem d_Frame_begin_1 : decode prog_2_method_2_code 1 = .ok (.iload_n 1, 1) := by decide +kernel
theorem d_Frame_begin_2 : decode prog_2_method_2_code 2 = .ok (.putfield 9, 3) := by decide +kernel
theorem d_Frame_begin_5 : decode prog_2_method_2_code 5 = .ok (.aload_n 0, 1) := by decide +kernel
theorem d_Frame_begin_6 : decode prog_2_method_2_code 6 = .ok (.iload_n 2, 1) := by decide +kernel
theorem d_Frame_begin_7 : decode prog_2_method_2_code 7 = .ok (.putfield 15, 3) := by decide +kernel
theorem d_Frame_begin_10 : decode prog_2_method_2_code 10 = .ok (.aload_n 0, 1) := by decide +kernel
theorem d_Frame_begin_11 : decode prog_2_method_2_code 11 = .ok (.iconst 0, 1) := by decide +kernel
theorem d_Frame_begin_12 : decode prog_2_method_2_code 12 = .ok (.putfield 18, 3) := by decide +kernel
theorem d_Frame_begin_15 : decode prog_2_method_2_code 15 = .ok (.return_, 1) := by decide +kernel
theorem d_Frame_put_0 : decode prog_2_method_3_code 0 = .ok (.aload_n 0, 1) := by decide +kernel
theorem d_Frame_put_1 : decode prog_2_method_3_code 1 = .ok (.getfield 18, 3) := by decide +kernel
theorem d_Frame_put_4 : decode prog_2_method_3_code 4 = .ok (.ifCond .lt (39), 3) := by decide +kernel
theorem d_Frame_put_7 : decode prog_2_method_3_code 7 = .ok (.aload_n 0, 1) := by decide +kernel
theorem d_Frame_put_8 : decode prog_2_method_3_code 8 = .ok (.getfield 18, 3) := by decide +kernel
theorem d_Frame_put_11 : decode prog_2_method_3_code 11 = .ok (.aload_n 0, 1) := by decide +kernel
theorem d_Frame_put_12 : decode prog_2_method_3_code 12 = .ok (.getfield 21, 3) := by decide +kernel
theorem d_Frame_put_15 : decode prog_2_method_3_code 15 = .ok (.arraylength, 1) := by decide +kernel
theorem d_Frame_put_16 : decode prog_2_method_3_code 16 = .ok (.if_icmp .ge (27), 3) := by decide +kernel
theorem d_Frame_put_19 : decode prog_2_method_3_code 19 = .ok (.aload_n 0, 1) := by decide +kernel
theorem d_Frame_put_20 : decode prog_2_method_3_code 20 = .ok (.getfield 21, 3) := by decide +kernel
theorem d_Frame_put_23 : decode prog_2_method_3_code 23 = .ok (.aload_n 0, 1) := by decide +kernel
theorem d_Frame_put_24 : decode prog_2_method_3_code 24 = .ok (.getfield 18, 3) := by decide +kernel
theorem d_Frame_put_27 : decode prog_2_method_3_code 27 = .ok (.iload_n 1, 1) := by decide +kernel
theorem d_Frame_put_28 : decode prog_2_method_3_code 28 = .ok (.sipush 255, 3) := by decide +kernel
theorem d_Frame_put_31 : decode prog_2_method_3_code 31 = .ok (.iand, 1) := by decide +kernel
theorem d_Frame_put_32 : decode prog_2_method_3_code 32 = .ok (.iastore, 1) := by decide +kernel
theorem d_Frame_put_33 : decode prog_2_method_3_code 33 = .ok (.aload_n 0, 1) := by decide +kernel
theorem d_Frame_put_34 : decode prog_2_method_3_code 34 = .ok (.dup, 1) := by decide +kernel
theorem d_Frame_put_35 : decode prog_2_method_3_code 35 = .ok (.getfield 18, 3) := by decide +kernel
theorem d_Frame_put_38 : decode prog_2_method_3_code 38 = .ok (.iconst 1, 1) := by decide +kernel
theorem d_Frame_put_39 : decode prog_2_method_3_code 39 = .ok (.iadd, 1) := by decide +kernel
theorem d_Frame_put_40 : decode prog_2_method_3_code 40 = .ok (.putfield 18, 3) := by decide +kernel
theorem d_Frame_put_43 : decode prog_2_method_3_code 43 = .ok (.return_, 1) := by decide +kernel
theorem d_Frame_byteAt_0 : decode prog_2_method_4_code 0 = .ok (.iload_n 1, 1) := by decide +kernel
theorem d_Frame_byteAt_1 : decode prog_2_method_4_code 1 = .ok (.ifCond .lt (29), 3) := by decide +kernel
theorem d_Frame_byteAt_4 : decode prog_2_method_4_code 4 = .ok (.iload_n 1, 1) := by decide +kernel
theorem d_Frame_byteAt_5 : decode prog_2_method_4_code 5 = .ok (.aload_n 0, 1) := by decide +kernel
theorem d_Frame_byteAt_6 : decode prog_2_method_4_code 6 = .ok (.getfield 18, 3) := by decide +kernel
theorem d_Frame_byteAt_9 : decode prog_2_method_4_code 9 = .ok (.if_icmp .ge (21), 3) := by decide +kernel
theorem d_Frame_byteAt_12 : decode prog_2_method_4_code 12 = .ok (.iload_n 1, 1) := by decide +kernel
theorem d_Frame_byteAt_13 : decode prog_2_method_4_code 13 = .ok (.aload_n 0, 1) := by decide +kernel
theorem d_Frame_byteAt_14 : decode prog_2_method_4_code 14 = .ok (.getfield 21, 3) := by decide +kernel
theorem d_Frame_byteAt_17 : decode prog_2_method_4_code 17 = .ok (.arraylength, 1) := by decide +kernel
theorem d_Frame_byteAt_18 : decode prog_2_method_4_code 18 = .ok (.if_icmp .ge (12), 3) := by decide +kernel
theorem d_Frame_byteAt_21 : decode prog_2_method_4_code 21 = .ok (.aload_n 0, 1) := by decide +kernel
theorem d_Frame_byteAt_22 : decode prog_2_method_4_code 22 = .ok (.getfield 21, 3) := by decide +kernel
theorem d_Frame_byteAt_25 : decode prog_2_method_4_code 25 = .ok (.iload_n 1, 1) := by decide +kernel
theorem d_Frame_byteAt_26 : decode prog_2_method_4_code 26 = .ok (.iaload, 1) := by decide +kernel
theorem d_Frame_byteAt_27 : decode prog_2_method_4_code 27 = .ok (.goto (4), 3) := by decide +kernel
theorem d_Frame_byteAt_30 : decode prog_2_method_4_code 30 = .ok (.iconst 0, 1) := by decide +kernel
theorem d_Frame_byteAt_31 : decode prog_2_method_4_code 31 = .ok (.ireturn, 1) := by decide +kernel
theorem d_Frame_sum_0 : decode prog_2_method_5_code 0 = .ok (.aload_n 0, 1) := by decide +kernel
theorem d_Frame_sum_1 : decode prog_2_method_5_code 1 = .ok (.getfield 9, 3) := by decide +kernel
theorem d_Frame_sum_4 : decode prog_2_method_5_code 4 = .ok (.aload_n 0, 1) := by decide +kernel
theorem d_Frame_sum_5 : decode prog_2_method_5_code 5 = .ok (.getfield 15, 3) := by decide +kernel
theorem d_Frame_sum_8 : decode prog_2_method_5_code 8 = .ok (.ixor, 1) := by decide +kernel
theorem d_Frame_sum_9 : decode prog_2_method_5_code 9 = .ok (.aload_n 0, 1) := by decide +kernel
theorem d_Frame_sum_10 : decode prog_2_method_5_code 10 = .ok (.getfield 18, 3) := by decide +kernel
theorem d_Frame_sum_13 : decode prog_2_method_5_code 13 = .ok (.ixor, 1) := by decide +kernel
theorem d_Frame_sum_14 : decode prog_2_method_5_code 14 = .ok (.istore_n 1, 1) := by decide +kernel
theorem d_Frame_sum_15 : decode prog_2_method_5_code 15 = .ok (.iconst 0, 1) := by decide +kernel
theorem d_Frame_sum_16 : decode prog_2_method_5_code 16 = .ok (.istore_n 2, 1) := by decide +kernel
theorem d_Frame_sum_17 : decode prog_2_method_5_code 17 = .ok (.iload_n 2, 1) := by decide +kernel
theorem d_Frame_sum_18 : decode prog_2_method_5_code 18 = .ok (.aload_n 0, 1) := by decide +kernel
theorem d_Frame_sum_19 : decode prog_2_method_5_code 19 = .ok (.getfield 18, 3) := by decide +kernel
theorem d_Frame_sum_22 : decode prog_2_method_5_code 22 = .ok (.if_icmp .ge (27), 3) := by decide +kernel
theorem d_Frame_sum_25 : decode prog_2_method_5_code 25 = .ok (.iload_n 2, 1) := by decide +kernel
theorem d_Frame_sum_26 : decode prog_2_method_5_code 26 = .ok (.aload_n 0, 1) := by decide +kernel
theorem d_Frame_sum_27 : decode prog_2_method_5_code 27 = .ok (.getfield 21, 3) := by decide +kernel
theorem d_Frame_sum_30 : decode prog_2_method_5_code 30 = .ok (.arraylength, 1) := by decide +kernel
theorem d_Frame_sum_31 : decode prog_2_method_5_code 31 = .ok (.if_icmp .ge (18), 3) := by decide +kernel
theorem d_Frame_sum_34 : decode prog_2_method_5_code 34 = .ok (.iload_n 1, 1) := by decide +kernel
theorem d_Frame_sum_35 : decode prog_2_method_5_code 35 = .ok (.aload_n 0, 1) := by decide +kernel
theorem d_Frame_sum_36 : decode prog_2_method_5_code 36 = .ok (.getfield 21, 3) := by decide +kernel
theorem d_Frame_sum_39 : decode prog_2_method_5_code 39 = .ok (.iload_n 2, 1) := by decide +kernel
theorem d_Frame_sum_40 : decode prog_2_method_5_code 40 = .ok (.iaload, 1) := by decide +kernel
theorem d_Frame_sum_41 : decode prog_2_method_5_code 41 = .ok (.ixor, 1) := by decide +kernel
theorem d_Frame_sum_42 : decode prog_2_method_5_code 42 = .ok (.istore_n 1, 1) := by decide +kernel
theorem d_Frame_sum_43 : decode prog_2_method_5_code 43 = .ok (.iinc 2 1, 3) := by decide +kernel
theorem d_Frame_sum_46 : decode prog_2_method_5_code 46 = .ok (.goto (-29), 3) := by decide +kernel
theorem d_Frame_sum_49 : decode prog_2_method_5_code 49 = .ok (.iload_n 1, 1) := by decide +kernel
theorem d_Frame_sum_50 : decode prog_2_method_5_code 50 = .ok (.ireturn, 1) := by decide +kernel
theorem d_Pairs_init_0 : decode prog_4_method_1_code 0 = .ok (.aload_n 0, 1) := by decide +kernel
theorem d_Pairs_init_1 : decode prog_4_method_1_code 1 = .ok (.invokespecial 3, 3) := by decide +kernel
theorem d_Pairs_init_4 : decode prog_4_method_1_code 4 = .ok (.aload_n 0, 1) := by decide +kernel
theorem d_Pairs_init_5 : decode prog_4_method_1_code 5 = .ok (.iconst 0, 1) := by decide +kernel
theorem d_Pairs_init_6 : decode prog_4_method_1_code 6 = .ok (.putfield 9, 3) := by decide +kernel
theorem d_Pairs_init_9 : decode prog_4_method_1_code 9 = .ok (.iload_n 1, 1) := by decide +kernel
theorem d_Pairs_init_10 : decode prog_4_method_1_code 10 = .ok (.iconst 0, 1) := by decide +kernel
theorem d_Pairs_init_11 : decode prog_4_method_1_code 11 = .ok (.invokestatic 15, 3) := by decide +kernel
theorem d_Pairs_init_14 : decode prog_4_method_1_code 14 = .ok (.istore_n 2, 1) := by decide +kernel
theorem d_Pairs_init_15 : decode prog_4_method_1_code 15 = .ok (.aload_n 0, 1) := by decide +kernel
theorem d_Pairs_init_16 : decode prog_4_method_1_code 16 = .ok (.iload_n 2, 1) := by decide +kernel
theorem d_Pairs_init_17 : decode prog_4_method_1_code 17 = .ok (.newarray .int, 2) := by decide +kernel
theorem d_Pairs_init_19 : decode prog_4_method_1_code 19 = .ok (.putfield 21, 3) := by decide +kernel
theorem d_Pairs_init_22 : decode prog_4_method_1_code 22 = .ok (.aload_n 0, 1) := by decide +kernel
theorem d_Pairs_init_23 : decode prog_4_method_1_code 23 = .ok (.iload_n 2, 1) := by decide +kernel
theorem d_Pairs_init_24 : decode prog_4_method_1_code 24 = .ok (.newarray .int, 2) := by decide +kernel
theorem d_Pairs_init_26 : decode prog_4_method_1_code 26 = .ok (.putfield 25, 3) := by decide +kernel
theorem d_Pairs_init_29 : decode prog_4_method_1_code 29 = .ok (.return_, 1) := by decide +kernel
theorem d_Memory_init_0 : decode prog_3_method_1_code 0 = .ok (.aload_n 0, 1) := by decide +kernel
theorem d_Memory_init_1 : decode prog_3_method_1_code 1 = .ok (.invokespecial 3, 3) := by decide +kernel
theorem d_Memory_init_4 : decode prog_3_method_1_code 4 = .ok (.aload_n 0, 1) := by decide +kernel
theorem d_Memory_init_5 : decode prog_3_method_1_code 5 = .ok (.iconst 0, 1) := by decide +kernel
theorem d_Memory_init_6 : decode prog_3_method_1_code 6 = .ok (.putfield 9, 3) := by decide +kernel
theorem d_Memory_init_9 : decode prog_3_method_1_code 9 = .ok (.aload_n 0, 1) := by decide +kernel
theorem d_Memory_init_10 : decode prog_3_method_1_code 10 = .ok (.iconst 0, 1) := by decide +kernel
theorem d_Memory_init_11 : decode prog_3_method_1_code 11 = .ok (.putfield 15, 3) := by decide +kernel
theorem d_Memory_init_14 : decode prog_3_method_1_code 14 = .ok (.aload_n 0, 1) := by decide +kernel
theorem d_Memory_init_15 : decode prog_3_method_1_code 15 = .ok (.iconst 0, 1) := by decide +kernel
theorem d_Memory_init_16 : decode prog_3_method_1_code 16 = .ok (.putfield 18, 3) := by decide +kernel
theorem d_Memory_init_19 : decode prog_3_method_1_code 19 = .ok (.aload_n 0, 1) := by decide +kernel
theorem d_Memory_init_20 : decode prog_3_method_1_code 20 = .ok (.new 21, 3) := by decide +kernel
theorem d_Memory_init_23 : decode prog_3_method_1_code 23 = .ok (.dup, 1) := by decide +kernel
theorem d_Memory_init_24 : decode prog_3_method_1_code 24 = .ok (.bipush 60, 2) := by decide +kernel
theorem d_Memory_init_26 : decode prog_3_method_1_code 26 = .ok (.invokespecial 23, 3) := by decide +kernel
theorem d_Memory_init_29 : decode prog_3_method_1_code 29 = .ok (.putfield 26, 3) := by decide +kernel
theorem d_Memory_init_32 : decode prog_3_method_1_code 32 = .ok (.return_, 1) := by decide +kernel
theorem d_Pairs_add_0 : decode prog_4_method_2_code 0 = .ok (.aload_n 0, 1) := by decide +kernel
theorem d_Pairs_add_1 : decode prog_4_method_2_code 1 = .ok (.getfield 9, 3) := by decide +kernel
theorem d_Pairs_add_4 : decode prog_4_method_2_code 4 = .ok (.ifCond .lt (27), 3) := by decide +kernel
theorem d_Pairs_add_7 : decode prog_4_method_2_code 7 = .ok (.aload_n 0, 1) := by decide +kernel
theorem d_Pairs_add_8 : decode prog_4_method_2_code 8 = .ok (.getfield 9, 3) := by decide +kernel
theorem d_Pairs_add_11 : decode prog_4_method_2_code 11 = .ok (.aload_n 0, 1) := by decide +kernel
theorem d_Pairs_add_12 : decode prog_4_method_2_code 12 = .ok (.getfield 21, 3) := by decide +kernel
theorem d_Pairs_add_15 : decode prog_4_method_2_code 15 = .ok (.arraylength, 1) := by decide +kernel
theorem d_Pairs_add_16 : decode prog_4_method_2_code 16 = .ok (.if_icmp .ge (15), 3) := by decide +kernel
theorem d_Pairs_add_19 : decode prog_4_method_2_code 19 = .ok (.aload_n 0, 1) := by decide +kernel
theorem d_Pairs_add_20 : decode prog_4_method_2_code 20 = .ok (.getfield 9, 3) := by decide +kernel
theorem d_Pairs_add_23 : decode prog_4_method_2_code 23 = .ok (.aload_n 0, 1) := by decide +kernel
theorem d_Pairs_add_24 : decode prog_4_method_2_code 24 = .ok (.getfield 25, 3) := by decide +kernel
theorem d_Pairs_add_27 : decode prog_4_method_2_code 27 = .ok (.arraylength, 1) := by decide +kernel
theorem d_Pairs_add_28 : decode prog_4_method_2_code 28 = .ok (.if_icmp .lt (5), 3) := by decide +kernel
theorem d_Pairs_add_31 : decode prog_4_method_2_code 31 = .ok (.iconst 0, 1) := by decide +kernel
theorem d_Pairs_add_32 : decode prog_4_method_2_code 32 = .ok (.ireturn, 1) := by decide +kernel
theorem d_Pairs_add_33 : decode prog_4_method_2_code 33 = .ok (.aload_n 0, 1) := by decide +kernel
theorem d_Pairs_add_34 : decode prog_4_method_2_code 34 = .ok (.getfield 21, 3) := by decide +kernel
theorem d_Pairs_add_37 : decode prog_4_method_2_code 37 = .ok (.aload_n 0, 1) := by decide +kernel
theorem d_Pairs_add_38 : decode prog_4_method_2_code 38 = .ok (.getfield 9, 3) := by decide +kernel
theorem d_Pairs_add_41 : decode prog_4_method_2_code 41 = .ok (.iload_n 1, 1) := by decide +kernel
theorem d_Pairs_add_42 : decode prog_4_method_2_code 42 = .ok (.iastore, 1) := by decide +kernel
theorem d_Pairs_add_43 : decode prog_4_method_2_code 43 = .ok (.aload_n 0, 1) := by decide +kernel
theorem d_Pairs_add_44 : decode prog_4_method_2_code 44 = .ok (.getfield 25, 3) := by decide +kernel
theorem d_Pairs_add_47 : decode prog_4_method_2_code 47 = .ok (.aload_n 0, 1) := by decide +kernel
theorem d_Pairs_add_48 : decode prog_4_method_2_code 48 = .ok (.getfield 9, 3) := by decide +kernel
theorem d_Pairs_add_51 : decode prog_4_method_2_code 51 = .ok (.iload_n 2, 1) := by decide +kernel
theorem d_Pairs_add_52 : decode prog_4_method_2_code 52 = .ok (.iastore, 1) := by decide +kernel
theorem d_Pairs_add_53 : decode prog_4_method_2_code 53 = .ok (.aload_n 0, 1) := by decide +kernel
theorem d_Pairs_add_54 : decode prog_4_method_2_code 54 = .ok (.dup, 1) := by decide +kernel
theorem d_Pairs_add_55 : decode prog_4_method_2_code 55 = .ok (.getfield 9, 3) := by decide +kernel
theorem d_Pairs_add_58 : decode prog_4_method_2_code 58 = .ok (.iconst 1, 1) := by decide +kernel
theorem d_Pairs_add_59 : decode prog_4_method_2_code 59 = .ok (.iadd, 1) := by decide +kernel
theorem d_Pairs_add_60 : decode prog_4_method_2_code 60 = .ok (.putfield 9, 3) := by decide +kernel
theorem d_Pairs_add_63 : decode prog_4_method_2_code 63 = .ok (.iconst 1, 1) := by decide +kernel
theorem d_Pairs_add_64 : decode prog_4_method_2_code 64 = .ok (.ireturn, 1) := by decide +kernel
theorem d_Pairs_keyAt_0 : decode prog_4_method_3_code 0 = .ok (.iload_n 1, 1) := by decide +kernel
theorem d_Pairs_keyAt_1 : decode prog_4_method_3_code 1 = .ok (.ifCond .lt (29), 3) := by decide +kernel
theorem d_Pairs_keyAt_4 : decode prog_4_method_3_code 4 = .ok (.iload_n 1, 1) := by decide +kernel
theorem d_Pairs_keyAt_5 : decode prog_4_method_3_code 5 = .ok (.aload_n 0, 1) := by decide +kernel
theorem d_Pairs_keyAt_6 : decode prog_4_method_3_code 6 = .ok (.getfield 9, 3) := by decide +kernel
theorem d_Pairs_keyAt_9 : decode prog_4_method_3_code 9 = .ok (.if_icmp .ge (21), 3) := by decide +kernel
theorem d_Pairs_keyAt_12 : decode prog_4_method_3_code 12 = .ok (.iload_n 1, 1) := by decide +kernel
theorem d_Pairs_keyAt_13 : decode prog_4_method_3_code 13 = .ok (.aload_n 0, 1) := by decide +kernel
theorem d_Pairs_keyAt_14 : decode prog_4_method_3_code 14 = .ok (.getfield 21, 3) := by decide +kernel
theorem d_Pairs_keyAt_17 : decode prog_4_method_3_code 17 = .ok (.arraylength, 1) := by decide +kernel
theorem d_Pairs_keyAt_18 : decode prog_4_method_3_code 18 = .ok (.if_icmp .ge (12), 3) := by decide +kernel
theorem d_Pairs_keyAt_21 : decode prog_4_method_3_code 21 = .ok (.aload_n 0, 1) := by decide +kernel
theorem d_Pairs_keyAt_22 : decode prog_4_method_3_code 22 = .ok (.getfield 21, 3) := by decide +kernel
theorem d_Pairs_keyAt_25 : decode prog_4_method_3_code 25 = .ok (.iload_n 1, 1) := by decide +kernel
theorem d_Pairs_keyAt_26 : decode prog_4_method_3_code 26 = .ok (.iaload, 1) := by decide +kernel
theorem d_Pairs_keyAt_27 : decode prog_4_method_3_code 27 = .ok (.goto (5), 3) := by decide +kernel
theorem d_Pairs_keyAt_30 : decode prog_4_method_3_code 30 = .ok (.bipush (-2), 2) := by decide +kernel
theorem d_Pairs_keyAt_32 : decode prog_4_method_3_code 32 = .ok (.ireturn, 1) := by decide +kernel
theorem d_Pairs_valueAt_0 : decode prog_4_method_4_code 0 = .ok (.iload_n 1, 1) := by decide +kernel
theorem d_Pairs_valueAt_1 : decode prog_4_method_4_code 1 = .ok (.ifCond .lt (29), 3) := by decide +kernel
theorem d_Pairs_valueAt_4 : decode prog_4_method_4_code 4 = .ok (.iload_n 1, 1) := by decide +kernel
theorem d_Pairs_valueAt_5 : decode prog_4_method_4_code 5 = .ok (.aload_n 0, 1) := by decide +kernel
theorem d_Pairs_valueAt_6 : decode prog_4_method_4_code 6 = .ok (.getfield 9, 3) := by decide +kernel
theorem d_Pairs_valueAt_9 : decode prog_4_method_4_code 9 = .ok (.if_icmp .ge (21), 3) := by decide +kernel
theorem d_Pairs_valueAt_12 : decode prog_4_method_4_code 12 = .ok (.iload_n 1, 1) := by decide +kernel
theorem d_Pairs_valueAt_13 : decode prog_4_method_4_code 13 = .ok (.aload_n 0, 1) := by decide +kernel
theorem d_Pairs_valueAt_14 : decode prog_4_method_4_code 14 = .ok (.getfield 25, 3) := by decide +kernel
theorem d_Pairs_valueAt_17 : decode prog_4_method_4_code 17 = .ok (.arraylength, 1) := by decide +kernel
theorem d_Pairs_valueAt_18 : decode prog_4_method_4_code 18 = .ok (.if_icmp .ge (12), 3) := by decide +kernel
theorem d_Pairs_valueAt_21 : decode prog_4_method_4_code 21 = .ok (.aload_n 0, 1) := by decide +kernel
theorem d_Pairs_valueAt_22 : decode prog_4_method_4_code 22 = .ok (.getfield 25, 3) := by decide +kernel
theorem d_Pairs_valueAt_25 : decode prog_4_method_4_code 25 = .ok (.iload_n 1, 1) := by decide +kernel
theorem d_Pairs_valueAt_26 : decode prog_4_method_4_code 26 = .ok (.iaload, 1) := by decide +kernel
theorem d_Pairs_valueAt_27 : decode prog_4_method_4_code 27 = .ok (.goto (5), 3) := by decide +kernel
theorem d_Pairs_valueAt_30 : decode prog_4_method_4_code 30 = .ok (.bipush (-2), 2) := by decide +kernel
theorem d_Pairs_valueAt_32 : decode prog_4_method_4_code 32 = .ok (.ireturn, 1) := by decide +kernel
theorem d_Pairs_clear_0 : decode prog_4_method_5_code 0 = .ok (.aload_n 0, 1) := by decide +kernel
theorem d_Pairs_clear_1 : decode prog_4_method_5_code 1 = .ok (.iconst 0, 1) := by decide +kernel
theorem d_Pairs_clear_2 : decode prog_4_method_5_code 2 = .ok (.putfield 9, 3) := by decide +kernel
theorem d_Pairs_clear_5 : decode prog_4_method_5_code 5 = .ok (.return_, 1) := by decide +kernel
theorem d_Request_addKey_0 : decode prog_5_method_2_code 0 = .ok (.iconst 0, 1) := by decide +kernel
theorem d_Request_addKey_1 : decode prog_5_method_2_code 1 = .ok (.istore_n 2, 1) := by decide +kernel
theorem d_Request_addKey_2 : decode prog_5_method_2_code 2 = .ok (.iload_n 2, 1) := by decide +kernel
theorem d_Request_addKey_3 : decode prog_5_method_2_code 3 = .ok (.aload_n 0, 1) := by decide +kernel
theorem d_Request_addKey_4 : decode prog_5_method_2_code 4 = .ok (.getfield 9, 3) := by decide +kernel
theorem d_Request_addKey_7 : decode prog_5_method_2_code 7 = .ok (.if_icmp .ge (29), 3) := by decide +kernel
theorem d_Request_addKey_10 : decode prog_5_method_2_code 10 = .ok (.iload_n 2, 1) := by decide +kernel
theorem d_Request_addKey_11 : decode prog_5_method_2_code 11 = .ok (.aload_n 0, 1) := by decide +kernel
theorem d_Request_addKey_12 : decode prog_5_method_2_code 12 = .ok (.getfield 77, 3) := by decide +kernel
theorem d_Request_addKey_15 : decode prog_5_method_2_code 15 = .ok (.arraylength, 1) := by decide +kernel
theorem d_Request_addKey_16 : decode prog_5_method_2_code 16 = .ok (.if_icmp .ge (20), 3) := by decide +kernel
theorem d_Request_addKey_19 : decode prog_5_method_2_code 19 = .ok (.aload_n 0, 1) := by decide +kernel
theorem d_Request_addKey_20 : decode prog_5_method_2_code 20 = .ok (.getfield 77, 3) := by decide +kernel
theorem d_Request_addKey_23 : decode prog_5_method_2_code 23 = .ok (.iload_n 2, 1) := by decide +kernel
theorem d_Request_addKey_24 : decode prog_5_method_2_code 24 = .ok (.iaload, 1) := by decide +kernel
theorem d_Request_addKey_25 : decode prog_5_method_2_code 25 = .ok (.iload_n 1, 1) := by decide +kernel
theorem d_Request_addKey_26 : decode prog_5_method_2_code 26 = .ok (.if_icmp .ne (4), 3) := by decide +kernel
theorem d_Request_addKey_29 : decode prog_5_method_2_code 29 = .ok (.return_, 1) := by decide +kernel
theorem d_Request_addKey_30 : decode prog_5_method_2_code 30 = .ok (.iinc 2 1, 3) := by decide +kernel
theorem d_Request_addKey_33 : decode prog_5_method_2_code 33 = .ok (.goto (-31), 3) := by decide +kernel
theorem d_Request_addKey_36 : decode prog_5_method_2_code 36 = .ok (.aload_n 0, 1) := by decide +kernel
theorem d_Request_addKey_37 : decode prog_5_method_2_code 37 = .ok (.getfield 9, 3) := by decide +kernel
theorem d_Request_addKey_40 : decode prog_5_method_2_code 40 = .ok (.ifCond .lt (35), 3) := by decide +kernel
theorem d_Request_addKey_43 : decode prog_5_method_2_code 43 = .ok (.aload_n 0, 1) := by decide +kernel
theorem d_Request_addKey_44 : decode prog_5_method_2_code 44 = .ok (.getfield 9, 3) := by decide +kernel
theorem d_Request_addKey_47 : decode prog_5_method_2_code 47 = .ok (.aload_n 0, 1) := by decide +kernel
theorem d_Request_addKey_48 : decode prog_5_method_2_code 48 = .ok (.getfield 77, 3) := by decide +kernel
theorem d_Request_addKey_51 : decode prog_5_method_2_code 51 = .ok (.arraylength, 1) := by decide +kernel
theorem d_Request_addKey_52 : decode prog_5_method_2_code 52 = .ok (.if_icmp .ge (23), 3) := by decide +kernel
theorem d_Request_addKey_55 : decode prog_5_method_2_code 55 = .ok (.aload_n 0, 1) := by decide +kernel
theorem d_Request_addKey_56 : decode prog_5_method_2_code 56 = .ok (.getfield 77, 3) := by decide +kernel
theorem d_Request_addKey_59 : decode prog_5_method_2_code 59 = .ok (.aload_n 0, 1) := by decide +kernel
theorem d_Request_addKey_60 : decode prog_5_method_2_code 60 = .ok (.getfield 9, 3) := by decide +kernel
theorem d_Request_addKey_63 : decode prog_5_method_2_code 63 = .ok (.iload_n 1, 1) := by decide +kernel
theorem d_Request_addKey_64 : decode prog_5_method_2_code 64 = .ok (.iastore, 1) := by decide +kernel
theorem d_Request_addKey_65 : decode prog_5_method_2_code 65 = .ok (.aload_n 0, 1) := by decide +kernel
theorem d_Request_addKey_66 : decode prog_5_method_2_code 66 = .ok (.dup, 1) := by decide +kernel
theorem d_Request_addKey_67 : decode prog_5_method_2_code 67 = .ok (.getfield 9, 3) := by decide +kernel
theorem d_Request_addKey_70 : decode prog_5_method_2_code 70 = .ok (.iconst 1, 1) := by decide +kernel
theorem d_Request_addKey_71 : decode prog_5_method_2_code 71 = .ok (.iadd, 1) := by decide +kernel
theorem d_Request_addKey_72 : decode prog_5_method_2_code 72 = .ok (.putfield 9, 3) := by decide +kernel
theorem d_Request_addKey_75 : decode prog_5_method_2_code 75 = .ok (.return_, 1) := by decide +kernel
theorem d_Request_init_0 : decode prog_5_method_1_code 0 = .ok (.aload_n 0, 1) := by decide +kernel
theorem d_Request_init_1 : decode prog_5_method_1_code 1 = .ok (.invokespecial 3, 3) := by decide +kernel
theorem d_Request_init_4 : decode prog_5_method_1_code 4 = .ok (.aload_n 0, 1) := by decide +kernel
theorem d_Request_init_5 : decode prog_5_method_1_code 5 = .ok (.iconst 0, 1) := by decide +kernel
theorem d_Request_init_6 : decode prog_5_method_1_code 6 = .ok (.putfield 9, 3) := by decide +kernel
theorem d_Request_init_9 : decode prog_5_method_1_code 9 = .ok (.aload_n 0, 1) := by decide +kernel
theorem d_Request_init_10 : decode prog_5_method_1_code 10 = .ok (.iconst 0, 1) := by decide +kernel
theorem d_Request_init_11 : decode prog_5_method_1_code 11 = .ok (.putfield 15, 3) := by decide +kernel
theorem d_Request_init_14 : decode prog_5_method_1_code 14 = .ok (.aload_n 0, 1) := by decide +kernel
theorem d_Request_init_15 : decode prog_5_method_1_code 15 = .ok (.new 18, 3) := by decide +kernel
theorem d_Request_init_18 : decode prog_5_method_1_code 18 = .ok (.dup, 1) := by decide +kernel
theorem d_Request_init_19 : decode prog_5_method_1_code 19 = .ok (.bipush 60, 2) := by decide +kernel
theorem d_Request_init_21 : decode prog_5_method_1_code 21 = .ok (.invokespecial 20, 3) := by decide +kernel
theorem d_Request_init_24 : decode prog_5_method_1_code 24 = .ok (.putfield 23, 3) := by decide +kernel
theorem d_Request_init_27 : decode prog_5_method_1_code 27 = .ok (.aload_n 0, 1) := by decide +kernel
theorem d_Request_init_28 : decode prog_5_method_1_code 28 = .ok (.iconst 0, 1) := by decide +kernel
theorem d_Request_init_29 : decode prog_5_method_1_code 29 = .ok (.putfield 27, 3) := by decide +kernel
theorem d_Request_init_32 : decode prog_5_method_1_code 32 = .ok (.aload_n 0, 1) := by decide +kernel
theorem d_Request_init_33 : decode prog_5_method_1_code 33 = .ok (.new 30, 3) := by decide +kernel
theorem d_Request_init_36 : decode prog_5_method_1_code 36 = .ok (.dup, 1) := by decide +kernel
theorem d_Request_init_37 : decode prog_5_method_1_code 37 = .ok (.invokespecial 32, 3) := by decide +kernel
theorem d_Request_init_40 : decode prog_5_method_1_code 40 = .ok (.putfield 33, 3) := by decide +kernel
theorem d_Request_init_43 : decode prog_5_method_1_code 43 = .ok (.aload_n 0, 1) := by decide +kernel
theorem d_Request_init_44 : decode prog_5_method_1_code 44 = .ok (.iconst (-1), 1) := by decide +kernel
theorem d_Request_init_45 : decode prog_5_method_1_code 45 = .ok (.putfield 37, 3) := by decide +kernel
theorem d_Request_init_48 : decode prog_5_method_1_code 48 = .ok (.aload_n 0, 1) := by decide +kernel
theorem d_Request_init_49 : decode prog_5_method_1_code 49 = .ok (.iconst 0, 1) := by decide +kernel
theorem d_Request_init_50 : decode prog_5_method_1_code 50 = .ok (.putfield 40, 3) := by decide +kernel
theorem d_Request_init_53 : decode prog_5_method_1_code 53 = .ok (.aload_n 0, 1) := by decide +kernel
theorem d_Request_init_54 : decode prog_5_method_1_code 54 = .ok (.iconst 0, 1) := by decide +kernel
theorem d_Request_init_55 : decode prog_5_method_1_code 55 = .ok (.putfield 43, 3) := by decide +kernel
theorem d_Request_init_58 : decode prog_5_method_1_code 58 = .ok (.aload_n 0, 1) := by decide +kernel
theorem d_Request_init_59 : decode prog_5_method_1_code 59 = .ok (.iconst 0, 1) := by decide +kernel
theorem d_Request_init_60 : decode prog_5_method_1_code 60 = .ok (.putfield 46, 3) := by decide +kernel
theorem d_Request_init_63 : decode prog_5_method_1_code 63 = .ok (.aload_n 0, 1) := by decide +kernel
theorem d_Request_init_64 : decode prog_5_method_1_code 64 = .ok (.iconst 0, 1) := by decide +kernel
theorem d_Request_init_65 : decode prog_5_method_1_code 65 = .ok (.putfield 49, 3) := by decide +kernel
theorem d_Request_init_68 : decode prog_5_method_1_code 68 = .ok (.aload_n 0, 1) := by decide +kernel
theorem d_Request_init_69 : decode prog_5_method_1_code 69 = .ok (.iload_n 1, 1) := by decide +kernel
theorem d_Request_init_70 : decode prog_5_method_1_code 70 = .ok (.putfield 52, 3) := by decide +kernel
theorem d_Request_init_73 : decode prog_5_method_1_code 73 = .ok (.aload_n 0, 1) := by decide +kernel
theorem d_Request_init_74 : decode prog_5_method_1_code 74 = .ok (.iload_n 2, 1) := by decide +kernel
theorem d_Request_init_75 : decode prog_5_method_1_code 75 = .ok (.putfield 55, 3) := by decide +kernel
theorem d_Request_init_78 : decode prog_5_method_1_code 78 = .ok (.aload_n 0, 1) := by decide +kernel
theorem d_Request_init_79 : decode prog_5_method_1_code 79 = .ok (.iload_n 3, 1) := by decide +kernel
theorem d_Request_init_80 : decode prog_5_method_1_code 80 = .ok (.putfield 58, 3) := by decide +kernel
theorem d_Request_init_83 : decode prog_5_method_1_code 83 = .ok (.aload_n 0, 1) := by decide +kernel
theorem d_Request_init_84 : decode prog_5_method_1_code 84 = .ok (.iload 4, 2) := by decide +kernel
theorem d_Request_init_86 : decode prog_5_method_1_code 86 = .ok (.putfield 62, 3) := by decide +kernel
theorem d_Request_init_89 : decode prog_5_method_1_code 89 = .ok (.aload_n 0, 1) := by decide +kernel
theorem d_Request_init_90 : decode prog_5_method_1_code 90 = .ok (.new 18, 3) := by decide +kernel
theorem d_Request_init_93 : decode prog_5_method_1_code 93 = .ok (.dup, 1) := by decide +kernel
theorem d_Request_init_94 : decode prog_5_method_1_code 94 = .ok (.aload 5, 2) := by decide +kernel
theorem d_Request_init_96 : decode prog_5_method_1_code 96 = .ok (.getfield 65, 3) := by decide +kernel
theorem d_Request_init_99 : decode prog_5_method_1_code 99 = .ok (.invokespecial 20, 3) := by decide +kernel
theorem d_Request_init_102 : decode prog_5_method_1_code 102 = .ok (.putfield 68, 3) := by decide +kernel
theorem d_Request_init_105 : decode prog_5_method_1_code 105 = .ok (.aload_n 0, 1) := by decide +kernel
theorem d_Request_init_106 : decode prog_5_method_1_code 106 = .ok (.aload 5, 2) := by decide +kernel
theorem d_Request_init_108 : decode prog_5_method_1_code 108 = .ok (.getfield 65, 3) := by decide +kernel
theorem d_Request_init_111 : decode prog_5_method_1_code 111 = .ok (.iconst 0, 1) := by decide +kernel
theorem d_Request_init_112 : decode prog_5_method_1_code 112 = .ok (.invokestatic 71, 3) := by decide +kernel
theorem d_Request_init_115 : decode prog_5_method_1_code 115 = .ok (.newarray .int, 2) := by decide +kernel
theorem d_Request_init_117 : decode prog_5_method_1_code 117 = .ok (.putfield 77, 3) := by decide +kernel
theorem d_Request_init_120 : decode prog_5_method_1_code 120 = .ok (.iconst 0, 1) := by decide +kernel
theorem d_Request_init_121 : decode prog_5_method_1_code 121 = .ok (.istore 6, 2) := by decide +kernel
theorem d_Request_init_123 : decode prog_5_method_1_code 123 = .ok (.iload 6, 2) := by decide +kernel
theorem d_Request_init_125 : decode prog_5_method_1_code 125 = .ok (.aload 5, 2) := by decide +kernel
theorem d_Request_init_127 : decode prog_5_method_1_code 127 = .ok (.getfield 65, 3) := by decide +kernel
theorem d_Request_init_130 : decode prog_5_method_1_code 130 = .ok (.if_icmp .ge (42), 3) := by decide +kernel
theorem d_Request_init_133 : decode prog_5_method_1_code 133 = .ok (.aload_n 0, 1) := by decide +kernel
theorem d_Request_init_134 : decode prog_5_method_1_code 134 = .ok (.getfield 68, 3) := by decide +kernel
theorem d_Request_init_137 : decode prog_5_method_1_code 137 = .ok (.aload 5, 2) := by decide +kernel
theorem d_Request_init_139 : decode prog_5_method_1_code 139 = .ok (.iload 6, 2) := by decide +kernel
theorem d_Request_init_141 : decode prog_5_method_1_code 141 = .ok (.invokevirtual 81, 3) := by decide +kernel
theorem d_Request_init_144 : decode prog_5_method_1_code 144 = .ok (.aload 5, 2) := by decide +kernel
theorem d_Request_init_146 : decode prog_5_method_1_code 146 = .ok (.iload 6, 2) := by decide +kernel
theorem d_Request_init_148 : decode prog_5_method_1_code 148 = .ok (.invokevirtual 85, 3) := by decide +kernel
theorem d_Request_init_151 : decode prog_5_method_1_code 151 = .ok (.invokevirtual 88, 3) := by decide +kernel
theorem d_Request_init_154 : decode prog_5_method_1_code 154 = .ok (.pop, 1) := by decide +kernel
theorem d_Request_init_155 : decode prog_5_method_1_code 155 = .ok (.aload_n 0, 1) := by decide +kernel
theorem d_Request_init_156 : decode prog_5_method_1_code 156 = .ok (.aload 5, 2) := by decide +kernel
theorem d_Request_init_158 : decode prog_5_method_1_code 158 = .ok (.iload 6, 2) := by decide +kernel
theorem d_Request_init_160 : decode prog_5_method_1_code 160 = .ok (.invokevirtual 81, 3) := by decide +kernel
theorem d_Request_init_163 : decode prog_5_method_1_code 163 = .ok (.invokevirtual 92, 3) := by decide +kernel
theorem d_Request_init_166 : decode prog_5_method_1_code 166 = .ok (.iinc 6 1, 3) := by decide +kernel
theorem d_Request_init_169 : decode prog_5_method_1_code 169 = .ok (.goto (-46), 3) := by decide +kernel
theorem d_Request_init_172 : decode prog_5_method_1_code 172 = .ok (.return_, 1) := by decide +kernel
theorem d_Request_hasKeysLeft_0 : decode prog_5_method_3_code 0 = .ok (.aload_n 0, 1) := by decide +kernel
theorem d_Request_hasKeysLeft_1 : decode prog_5_method_3_code 1 = .ok (.getfield 15, 3) := by decide +kernel
theorem d_Request_hasKeysLeft_4 : decode prog_5_method_3_code 4 = .ok (.aload_n 0, 1) := by decide +kernel
theorem d_Request_hasKeysLeft_5 : decode prog_5_method_3_code 5 = .ok (.getfield 9, 3) := by decide +kernel
theorem d_Request_hasKeysLeft_8 : decode prog_5_method_3_code 8 = .ok (.if_icmp .ge (7), 3) := by decide +kernel
theorem d_Request_hasKeysLeft_11 : decode prog_5_method_3_code 11 = .ok (.iconst 1, 1) := by decide +kernel
theorem d_Request_hasKeysLeft_12 : decode prog_5_method_3_code 12 = .ok (.goto (4), 3) := by decide +kernel
theorem d_Request_hasKeysLeft_15 : decode prog_5_method_3_code 15 = .ok (.iconst 0, 1) := by decide +kernel
theorem d_Request_hasKeysLeft_16 : decode prog_5_method_3_code 16 = .ok (.ireturn, 1) := by decide +kernel
theorem d_Request_nextStep_0 : decode prog_5_method_6_code 0 = .ok (.aload_n 0, 1) := by decide +kernel
theorem d_Request_nextStep_1 : decode prog_5_method_6_code 1 = .ok (.aload_n 0, 1) := by decide +kernel
theorem d_Request_nextStep_2 : decode prog_5_method_6_code 2 = .ok (.getfield 37, 3) := by decide +kernel
theorem d_Request_nextStep_5 : decode prog_5_method_6_code 5 = .ok (.iconst 1, 1) := by decide +kernel
theorem d_Request_nextStep_6 : decode prog_5_method_6_code 6 = .ok (.iadd, 1) := by decide +kernel
theorem d_Request_nextStep_7 : decode prog_5_method_6_code 7 = .ok (.sipush 255, 3) := by decide +kernel
theorem d_Request_nextStep_10 : decode prog_5_method_6_code 10 = .ok (.iand, 1) := by decide +kernel
theorem d_Request_nextStep_11 : decode prog_5_method_6_code 11 = .ok (.putfield 37, 3) := by decide +kernel
theorem d_Request_nextStep_14 : decode prog_5_method_6_code 14 = .ok (.aload_n 0, 1) := by decide +kernel
theorem d_Request_nextStep_15 : decode prog_5_method_6_code 15 = .ok (.getfield 33, 3) := by decide +kernel
theorem d_Request_nextStep_18 : decode prog_5_method_6_code 18 = .ok (.iload_n 1, 1) := by decide +kernel
theorem d_Request_nextStep_19 : decode prog_5_method_6_code 19 = .ok (.aload_n 0, 1) := by decide +kernel
theorem d_Request_nextStep_20 : decode prog_5_method_6_code 20 = .ok (.getfield 52, 3) := by decide +kernel
theorem d_Request_nextStep_23 : decode prog_5_method_6_code 23 = .ok (.invokevirtual 104, 3) := by decide +kernel
theorem d_Request_nextStep_26 : decode prog_5_method_6_code 26 = .ok (.aload_n 0, 1) := by decide +kernel
theorem d_Request_nextStep_27 : decode prog_5_method_6_code 27 = .ok (.getfield 33, 3) := by decide +kernel
theorem d_Request_nextStep_30 : decode prog_5_method_6_code 30 = .ok (.aload_n 0, 1) := by decide +kernel
theorem d_Request_nextStep_31 : decode prog_5_method_6_code 31 = .ok (.getfield 37, 3) := by decide +kernel
theorem d_Request_nextStep_34 : decode prog_5_method_6_code 34 = .ok (.invokevirtual 101, 3) := by decide +kernel
theorem d_Request_nextStep_37 : decode prog_5_method_6_code 37 = .ok (.return_, 1) := by decide +kernel
theorem d_Request_writeAsk_0 : decode prog_5_method_4_code 0 = .ok (.aload_n 0, 1) := by decide +kernel
theorem d_Request_writeAsk_1 : decode prog_5_method_4_code 1 = .ok (.iconst 1, 1) := by decide +kernel
theorem d_Request_writeAsk_2 : decode prog_5_method_4_code 2 = .ok (.invokevirtual 95, 3) := by decide +kernel
theorem d_Request_writeAsk_5 : decode prog_5_method_4_code 5 = .ok (.aload_n 0, 1) := by decide +kernel
theorem d_Request_writeAsk_6 : decode prog_5_method_4_code 6 = .ok (.getfield 15, 3) := by decide +kernel
theorem d_Request_writeAsk_9 : decode prog_5_method_4_code 9 = .ok (.aload_n 0, 1) := by decide +kernel
theorem d_Request_writeAsk_10 : decode prog_5_method_4_code 10 = .ok (.getfield 62, 3) := by decide +kernel
theorem d_Request_writeAsk_13 : decode prog_5_method_4_code 13 = .ok (.iadd, 1) := by decide +kernel
theorem d_Request_writeAsk_14 : decode prog_5_method_4_code 14 = .ok (.aload_n 0, 1) := by decide +kernel
theorem d_Request_writeAsk_15 : decode prog_5_method_4_code 15 = .ok (.getfield 9, 3) := by decide +kernel
theorem d_Request_writeAsk_18 : decode prog_5_method_4_code 18 = .ok (.invokestatic 98, 3) := by decide +kernel
theorem d_Request_writeAsk_21 : decode prog_5_method_4_code 21 = .ok (.aload_n 0, 1) := by decide +kernel
theorem d_Request_writeAsk_22 : decode prog_5_method_4_code 22 = .ok (.getfield 77, 3) := by decide +kernel
theorem d_Request_writeAsk_25 : decode prog_5_method_4_code 25 = .ok (.arraylength, 1) := by decide +kernel
theorem d_Request_writeAsk_26 : decode prog_5_method_4_code 26 = .ok (.invokestatic 98, 3) := by decide +kernel
theorem d_Request_writeAsk_29 : decode prog_5_method_4_code 29 = .ok (.istore_n 1, 1) := by decide +kernel
theorem d_Request_writeAsk_30 : decode prog_5_method_4_code 30 = .ok (.aload_n 0, 1) := by decide +kernel
theorem d_Request_writeAsk_31 : decode prog_5_method_4_code 31 = .ok (.getfield 15, 3) := by decide +kernel
theorem d_Request_writeAsk_34 : decode prog_5_method_4_code 34 = .ok (.iconst 0, 1) := by decide +kernel
theorem d_Request_writeAsk_35 : decode prog_5_method_4_code 35 = .ok (.invokestatic 71, 3) := by decide +kernel
theorem d_Request_writeAsk_38 : decode prog_5_method_4_code 38 = .ok (.istore_n 2, 1) := by decide +kernel
theorem d_Request_writeAsk_39 : decode prog_5_method_4_code 39 = .ok (.iload_n 2, 1) := by decide +kernel
theorem d_Request_writeAsk_40 : decode prog_5_method_4_code 40 = .ok (.iload_n 1, 1) := by decide +kernel
theorem d_Request_writeAsk_41 : decode prog_5_method_4_code 41 = .ok (.if_icmp .ge (22), 3) := by decide +kernel
theorem d_Request_writeAsk_44 : decode prog_5_method_4_code 44 = .ok (.aload_n 0, 1) := by decide +kernel
theorem d_Request_writeAsk_45 : decode prog_5_method_4_code 45 = .ok (.getfield 33, 3) := by decide +kernel
theorem d_Request_writeAsk_48 : decode prog_5_method_4_code 48 = .ok (.aload_n 0, 1) := by decide +kernel
theorem d_Request_writeAsk_49 : decode prog_5_method_4_code 49 = .ok (.getfield 77, 3) := by decide +kernel
theorem d_Request_writeAsk_52 : decode prog_5_method_4_code 52 = .ok (.iload_n 2, 1) := by decide +kernel
theorem d_Request_writeAsk_53 : decode prog_5_method_4_code 53 = .ok (.iaload, 1) := by decide +kernel
theorem d_Request_writeAsk_54 : decode prog_5_method_4_code 54 = .ok (.invokevirtual 101, 3) := by decide +kernel
theorem d_Request_writeAsk_57 : decode prog_5_method_4_code 57 = .ok (.iinc 2 1, 3) := by decide +kernel
theorem d_Request_writeAsk_60 : decode prog_5_method_4_code 60 = .ok (.goto (-21), 3) := by decide +kernel
theorem d_Request_writeAsk_63 : decode prog_5_method_4_code 63 = .ok (.aload_n 0, 1) := by decide +kernel
theorem d_Request_writeAsk_64 : decode prog_5_method_4_code 64 = .ok (.iload_n 1, 1) := by decide +kernel
theorem d_Request_writeAsk_65 : decode prog_5_method_4_code 65 = .ok (.putfield 15, 3) := by decide +kernel
theorem d_Request_writeAsk_68 : decode prog_5_method_4_code 68 = .ok (.aload_n 0, 1) := by decide +kernel
theorem d_Request_writeAsk_69 : decode prog_5_method_4_code 69 = .ok (.iconst 0, 1) := by decide +kernel
theorem d_Request_writeAsk_70 : decode prog_5_method_4_code 70 = .ok (.putfield 27, 3) := by decide +kernel
theorem d_Request_writeAsk_73 : decode prog_5_method_4_code 73 = .ok (.return_, 1) := by decide +kernel
theorem d_Request_writeMore_0 : decode prog_5_method_5_code 0 = .ok (.aload_n 0, 1) := by decide +kernel
theorem d_Request_writeMore_1 : decode prog_5_method_5_code 1 = .ok (.iconst 3, 1) := by decide +kernel
theorem d_Request_writeMore_2 : decode prog_5_method_5_code 2 = .ok (.invokevirtual 95, 3) := by decide +kernel
theorem d_Request_writeMore_5 : decode prog_5_method_5_code 5 = .ok (.aload_n 0, 1) := by decide +kernel
theorem d_Request_writeMore_6 : decode prog_5_method_5_code 6 = .ok (.getfield 33, 3) := by decide +kernel
theorem d_Request_writeMore_9 : decode prog_5_method_5_code 9 = .ok (.aload_n 0, 1) := by decide +kernel
theorem d_Request_writeMore_10 : decode prog_5_method_5_code 10 = .ok (.getfield 27, 3) := by decide +kernel
theorem d_Request_writeMore_13 : decode prog_5_method_5_code 13 = .ok (.invokevirtual 101, 3) := by decide +kernel
theorem d_Request_writeMore_16 : decode prog_5_method_5_code 16 = .ok (.return_, 1) := by decide +kernel
theorem d_Request_waitsFor_0 : decode prog_5_method_7_code 0 = .ok (.aload_n 0, 1) := by decide +kernel
theorem d_Request_waitsFor_1 : decode prog_5_method_7_code 1 = .ok (.getfield 46, 3) := by decide +kernel
theorem d_Request_waitsFor_4 : decode prog_5_method_7_code 4 = .ok (.ifCond .ne (43), 3) := by decide +kernel
theorem d_Request_waitsFor_7 : decode prog_5_method_7_code 7 = .ok (.aload_n 0, 1) := by decide +kernel
theorem d_Request_waitsFor_8 : decode prog_5_method_7_code 8 = .ok (.getfield 55, 3) := by decide +kernel
theorem d_Request_waitsFor_11 : decode prog_5_method_7_code 11 = .ok (.iload_n 2, 1) := by decide +kernel
theorem d_Request_waitsFor_12 : decode prog_5_method_7_code 12 = .ok (.if_icmp .ne (35), 3) := by decide +kernel
theorem d_Request_waitsFor_15 : decode prog_5_method_7_code 15 = .ok (.aload_n 1, 1) := by decide +kernel
theorem d_Request_waitsFor_16 : decode prog_5_method_7_code 16 = .ok (.iconst 0, 1) := by decide +kernel
theorem d_Request_waitsFor_17 : decode prog_5_method_7_code 17 = .ok (.invokevirtual 108, 3) := by decide +kernel
theorem d_Request_waitsFor_20 : decode prog_5_method_7_code 20 = .ok (.aload_n 0, 1) := by decide +kernel
theorem d_Request_waitsFor_21 : decode prog_5_method_7_code 21 = .ok (.getfield 37, 3) := by decide +kernel
theorem d_Request_waitsFor_24 : decode prog_5_method_7_code 24 = .ok (.if_icmp .ne (23), 3) := by decide +kernel
theorem d_Request_waitsFor_27 : decode prog_5_method_7_code 27 = .ok (.aload_n 1, 1) := by decide +kernel
theorem d_Request_waitsFor_28 : decode prog_5_method_7_code 28 = .ok (.getfield 111, 3) := by decide +kernel
theorem d_Request_waitsFor_31 : decode prog_5_method_7_code 31 = .ok (.iconst 2, 1) := by decide +kernel
theorem d_Request_waitsFor_32 : decode prog_5_method_7_code 32 = .ok (.if_icmp .eq (11), 3) := by decide +kernel
theorem d_Request_waitsFor_35 : decode prog_5_method_7_code 35 = .ok (.aload_n 1, 1) := by decide +kernel
theorem d_Request_waitsFor_36 : decode prog_5_method_7_code 36 = .ok (.getfield 111, 3) := by decide +kernel
theorem d_Request_waitsFor_39 : decode prog_5_method_7_code 39 = .ok (.iconst 4, 1) := by decide +kernel
theorem d_Request_waitsFor_40 : decode prog_5_method_7_code 40 = .ok (.if_icmp .ne (7), 3) := by decide +kernel
theorem d_Request_waitsFor_43 : decode prog_5_method_7_code 43 = .ok (.iconst 1, 1) := by decide +kernel
theorem d_Request_waitsFor_44 : decode prog_5_method_7_code 44 = .ok (.goto (4), 3) := by decide +kernel
theorem d_Request_waitsFor_47 : decode prog_5_method_7_code 47 = .ok (.iconst 0, 1) := by decide +kernel
theorem d_Request_waitsFor_48 : decode prog_5_method_7_code 48 = .ok (.ireturn, 1) := by decide +kernel
theorem d_Request_takeRows_0 : decode prog_5_method_8_code 0 = .ok (.iconst 2, 1) := by decide +kernel
theorem d_Request_takeRows_1 : decode prog_5_method_8_code 1 = .ok (.istore_n 2, 1) := by decide +kernel
theorem d_Request_takeRows_2 : decode prog_5_method_8_code 2 = .ok (.iload_n 2, 1) := by decide +kernel
theorem d_Request_takeRows_3 : decode prog_5_method_8_code 3 = .ok (.iconst 1, 1) := by decide +kernel
theorem d_Request_takeRows_4 : decode prog_5_method_8_code 4 = .ok (.iadd, 1) := by decide +kernel
theorem d_Request_takeRows_5 : decode prog_5_method_8_code 5 = .ok (.aload_n 1, 1) := by decide +kernel
theorem d_Request_takeRows_6 : decode prog_5_method_8_code 6 = .ok (.getfield 114, 3) := by decide +kernel
theorem d_Request_takeRows_9 : decode prog_5_method_8_code 9 = .ok (.if_icmp .ge (39), 3) := by decide +kernel
theorem d_Request_takeRows_12 : decode prog_5_method_8_code 12 = .ok (.aload_n 0, 1) := by decide +kernel
theorem d_Request_takeRows_13 : decode prog_5_method_8_code 13 = .ok (.getfield 23, 3) := by decide +kernel
theorem d_Request_takeRows_16 : decode prog_5_method_8_code 16 = .ok (.aload_n 1, 1) := by decide +kernel
theorem d_Request_takeRows_17 : decode prog_5_method_8_code 17 = .ok (.iload_n 2, 1) := by decide +kernel
theorem d_Request_takeRows_18 : decode prog_5_method_8_code 18 = .ok (.invokevirtual 108, 3) := by decide +kernel
theorem d_Request_takeRows_21 : decode prog_5_method_8_code 21 = .ok (.aload_n 1, 1) := by decide +kernel
theorem d_Request_takeRows_22 : decode prog_5_method_8_code 22 = .ok (.iload_n 2, 1) := by decide +kernel
theorem d_Request_takeRows_23 : decode prog_5_method_8_code 23 = .ok (.iconst 1, 1) := by decide +kernel
theorem d_Request_takeRows_24 : decode prog_5_method_8_code 24 = .ok (.iadd, 1) := by decide +kernel
theorem d_Request_takeRows_25 : decode prog_5_method_8_code 25 = .ok (.invokevirtual 108, 3) := by decide +kernel
theorem d_Request_takeRows_28 : decode prog_5_method_8_code 28 = .ok (.invokevirtual 88, 3) := by decide +kernel
theorem d_Request_takeRows_31 : decode prog_5_method_8_code 31 = .ok (.pop, 1) := by decide +kernel
theorem d_Request_takeRows_32 : decode prog_5_method_8_code 32 = .ok (.aload_n 0, 1) := by decide +kernel
theorem d_Request_takeRows_33 : decode prog_5_method_8_code 33 = .ok (.dup, 1) := by decide +kernel
theorem d_Request_takeRows_34 : decode prog_5_method_8_code 34 = .ok (.getfield 27, 3) := by decide +kernel
theorem d_Request_takeRows_37 : decode prog_5_method_8_code 37 = .ok (.iconst 1, 1) := by decide +kernel
theorem d_Request_takeRows_38 : decode prog_5_method_8_code 38 = .ok (.iadd, 1) := by decide +kernel
theorem d_Request_takeRows_39 : decode prog_5_method_8_code 39 = .ok (.putfield 27, 3) := by decide +kernel
theorem d_Request_takeRows_42 : decode prog_5_method_8_code 42 = .ok (.iinc 2 2, 3) := by decide +kernel
theorem d_Request_takeRows_45 : decode prog_5_method_8_code 45 = .ok (.goto (-43), 3) := by decide +kernel
theorem d_Request_takeRows_48 : decode prog_5_method_8_code 48 = .ok (.return_, 1) := by decide +kernel
theorem d_Request_fail_0 : decode prog_5_method_9_code 0 = .ok (.aload_n 0, 1) := by decide +kernel
theorem d_Request_fail_1 : decode prog_5_method_9_code 1 = .ok (.iload_n 1, 1) := by decide +kernel
theorem d_Request_fail_2 : decode prog_5_method_9_code 2 = .ok (.putfield 49, 3) := by decide +kernel
theorem d_Request_fail_5 : decode prog_5_method_9_code 5 = .ok (.aload_n 0, 1) := by decide +kernel
theorem d_Request_fail_6 : decode prog_5_method_9_code 6 = .ok (.getfield 58, 3) := by decide +kernel
theorem d_Request_fail_9 : decode prog_5_method_9_code 9 = .ok (.ifCond .eq (18), 3) := by decide +kernel
theorem d_Request_fail_12 : decode prog_5_method_9_code 12 = .ok (.aload_n 0, 1) := by decide +kernel
theorem d_Request_fail_13 : decode prog_5_method_9_code 13 = .ok (.iconst 1, 1) := by decide +kernel
theorem d_Request_fail_14 : decode prog_5_method_9_code 14 = .ok (.putfield 46, 3) := by decide +kernel
theorem d_Request_fail_17 : decode prog_5_method_9_code 17 = .ok (.aload_n 0, 1) := by decide +kernel
theorem d_Request_fail_18 : decode prog_5_method_9_code 18 = .ok (.getfield 23, 3) := by decide +kernel
theorem d_Request_fail_21 : decode prog_5_method_9_code 21 = .ok (.invokevirtual 117, 3) := by decide +kernel
theorem d_Request_fail_24 : decode prog_5_method_9_code 24 = .ok (.goto (8), 3) := by decide +kernel
theorem d_Request_fail_27 : decode prog_5_method_9_code 27 = .ok (.aload_n 0, 1) := by decide +kernel
theorem d_Request_fail_28 : decode prog_5_method_9_code 28 = .ok (.iconst 2, 1) := by decide +kernel
theorem d_Request_fail_29 : decode prog_5_method_9_code 29 = .ok (.putfield 46, 3) := by decide +kernel
theorem d_Request_fail_32 : decode prog_5_method_9_code 32 = .ok (.return_, 1) := by decide +kernel
theorem d_Request_joinedSize_0 : decode prog_5_method_10_code 0 = .ok (.aload_n 0, 1) := by decide +kernel
theorem d_Request_joinedSize_1 : decode prog_5_method_10_code 1 = .ok (.getfield 46, 3) := by decide +kernel
theorem d_Request_joinedSize_4 : decode prog_5_method_10_code 4 = .ok (.iconst 1, 1) := by decide +kernel
theorem d_Request_joinedSize_5 : decode prog_5_method_10_code 5 = .ok (.if_icmp .eq (5), 3) := by decide +kernel
theorem d_Request_joinedSize_8 : decode prog_5_method_10_code 8 = .ok (.iconst 0, 1) := by decide +kernel
theorem d_Request_joinedSize_9 : decode prog_5_method_10_code 9 = .ok (.ireturn, 1) := by decide +kernel
theorem d_Request_joinedSize_10 : decode prog_5_method_10_code 10 = .ok (.aload_n 0, 1) := by decide +kernel
theorem d_Request_joinedSize_11 : decode prog_5_method_10_code 11 = .ok (.getfield 49, 3) := by decide +kernel
theorem d_Request_joinedSize_14 : decode prog_5_method_10_code 14 = .ok (.ifCond .eq (11), 3) := by decide +kernel
theorem d_Request_joinedSize_17 : decode prog_5_method_10_code 17 = .ok (.aload_n 0, 1) := by decide +kernel
theorem d_Request_joinedSize_18 : decode prog_5_method_10_code 18 = .ok (.getfield 68, 3) := by decide +kernel
theorem d_Request_joinedSize_21 : decode prog_5_method_10_code 21 = .ok (.getfield 65, 3) := by decide +kernel
theorem d_Request_joinedSize_24 : decode prog_5_method_10_code 24 = .ok (.ireturn, 1) := by decide +kernel
theorem d_Request_joinedSize_25 : decode prog_5_method_10_code 25 = .ok (.iconst 0, 1) := by decide +kernel
theorem d_Request_joinedSize_26 : decode prog_5_method_10_code 26 = .ok (.istore_n 1, 1) := by decide +kernel
theorem d_Request_joinedSize_27 : decode prog_5_method_10_code 27 = .ok (.iconst 0, 1) := by decide +kernel
theorem d_Request_joinedSize_28 : decode prog_5_method_10_code 28 = .ok (.istore_n 2, 1) := by decide +kernel
theorem d_Request_joinedSize_29 : decode prog_5_method_10_code 29 = .ok (.iload_n 2, 1) := by decide +kernel
theorem d_Request_joinedSize_30 : decode prog_5_method_10_code 30 = .ok (.aload_n 0, 1) := by decide +kernel
theorem d_Request_joinedSize_31 : decode prog_5_method_10_code 31 = .ok (.getfield 68, 3) := by decide +kernel
theorem d_Request_joinedSize_34 : decode prog_5_method_10_code 34 = .ok (.getfield 65, 3) := by decide +kernel
theorem d_Request_joinedSize_37 : decode prog_5_method_10_code 37 = .ok (.if_icmp .ge (50), 3) := by decide +kernel
theorem d_Request_joinedSize_40 : decode prog_5_method_10_code 40 = .ok (.iconst 0, 1) := by decide +kernel
theorem d_Request_joinedSize_41 : decode prog_5_method_10_code 41 = .ok (.istore_n 3, 1) := by decide +kernel
theorem d_Request_joinedSize_42 : decode prog_5_method_10_code 42 = .ok (.iload_n 3, 1) := by decide +kernel
theorem d_Request_joinedSize_43 : decode prog_5_method_10_code 43 = .ok (.aload_n 0, 1) := by decide +kernel
theorem d_Request_joinedSize_44 : decode prog_5_method_10_code 44 = .ok (.getfield 23, 3) := by decide +kernel
theorem d_Request_joinedSize_47 : decode prog_5_method_10_code 47 = .ok (.getfield 65, 3) := by decide +kernel
theorem d_Request_joinedSize_50 : decode prog_5_method_10_code 50 = .ok (.if_icmp .ge (31), 3) := by decide +kernel
theorem d_Request_joinedSize_53 : decode prog_5_method_10_code 53 = .ok (.aload_n 0, 1) := by decide +kernel
theorem d_Request_joinedSize_54 : decode prog_5_method_10_code 54 = .ok (.getfield 23, 3) := by decide +kernel
theorem d_Request_joinedSize_57 : decode prog_5_method_10_code 57 = .ok (.iload_n 3, 1) := by decide +kernel
theorem d_Request_joinedSize_58 : decode prog_5_method_10_code 58 = .ok (.invokevirtual 81, 3) := by decide +kernel
theorem d_Request_joinedSize_61 : decode prog_5_method_10_code 61 = .ok (.aload_n 0, 1) := by decide +kernel
theorem d_Request_joinedSize_62 : decode prog_5_method_10_code 62 = .ok (.getfield 68, 3) := by decide +kernel
theorem d_Request_joinedSize_65 : decode prog_5_method_10_code 65 = .ok (.iload_n 2, 1) := by decide +kernel
theorem d_Request_joinedSize_66 : decode prog_5_method_10_code 66 = .ok (.invokevirtual 81, 3) := by decide +kernel
theorem d_Request_joinedSize_69 : decode prog_5_method_10_code 69 = .ok (.if_icmp .ne (6), 3) := by decide +kernel
theorem d_Request_joinedSize_72 : decode prog_5_method_10_code 72 = .ok (.iinc 1 1, 3) := by decide +kernel
theorem d_Request_joinedSize_75 : decode prog_5_method_10_code 75 = .ok (.iinc 3 1, 3) := by decide +kernel
theorem d_Request_joinedSize_78 : decode prog_5_method_10_code 78 = .ok (.goto (-36), 3) := by decide +kernel
theorem d_Request_joinedSize_81 : decode prog_5_method_10_code 81 = .ok (.iinc 2 1, 3) := by decide +kernel
theorem d_Request_joinedSize_84 : decode prog_5_method_10_code 84 = .ok (.goto (-55), 3) := by decide +kernel
theorem d_Request_joinedSize_87 : decode prog_5_method_10_code 87 = .ok (.iload_n 1, 1) := by decide +kernel
theorem d_Request_joinedSize_88 : decode prog_5_method_10_code 88 = .ok (.ireturn, 1) := by decide +kernel
theorem d_Request_silentPart_0 : decode prog_5_method_12_code 0 = .ok (.iload_n 1, 1) := by decide +kernel
theorem d_Request_silentPart_1 : decode prog_5_method_12_code 1 = .ok (.ifCond .lt (14), 3) := by decide +kernel
theorem d_Request_silentPart_4 : decode prog_5_method_12_code 4 = .ok (.iload_n 1, 1) := by decide +kernel
theorem d_Request_silentPart_5 : decode prog_5_method_12_code 5 = .ok (.aload_n 0, 1) := by decide +kernel
theorem d_Request_silentPart_6 : decode prog_5_method_12_code 6 = .ok (.getfield 68, 3) := by decide +kernel
theorem d_Request_silentPart_9 : decode prog_5_method_12_code 9 = .ok (.getfield 65, 3) := by decide +kernel
theorem d_Request_silentPart_12 : decode prog_5_method_12_code 12 = .ok (.if_icmp .lt (6), 3) := by decide +kernel
theorem d_Request_silentPart_15 : decode prog_5_method_12_code 15 = .ok (.bipush (-2), 2) := by decide +kernel
theorem d_Request_silentPart_17 : decode prog_5_method_12_code 17 = .ok (.ireturn, 1) := by decide +kernel
theorem d_Request_silentPart_18 : decode prog_5_method_12_code 18 = .ok (.iload_n 2, 1) := by decide +kernel
theorem d_Request_silentPart_19 : decode prog_5_method_12_code 19 = .ok (.ifCond .eq (14), 3) := by decide +kernel
theorem d_Request_silentPart_22 : decode prog_5_method_12_code 22 = .ok (.aload_n 0, 1) := by decide +kernel
theorem d_Request_silentPart_23 : decode prog_5_method_12_code 23 = .ok (.getfield 68, 3) := by decide +kernel
theorem d_Request_silentPart_26 : decode prog_5_method_12_code 26 = .ok (.iload_n 1, 1) := by decide +kernel
theorem d_Request_silentPart_27 : decode prog_5_method_12_code 27 = .ok (.invokevirtual 85, 3) := by decide +kernel
theorem d_Request_silentPart_30 : decode prog_5_method_12_code 30 = .ok (.goto (4), 3) := by decide +kernel
theorem d_Request_silentPart_33 : decode prog_5_method_12_code 33 = .ok (.iconst (-1), 1) := by decide +kernel
theorem d_Request_silentPart_34 : decode prog_5_method_12_code 34 = .ok (.ireturn, 1) := by decide +kernel
theorem d_Request_joinedPart_0 : decode prog_5_method_11_code 0 = .ok (.aload_n 0, 1) := by decide +kernel
theorem d_Request_joinedPart_1 : decode prog_5_method_11_code 1 = .ok (.getfield 49, 3) := by decide +kernel
theorem d_Request_joinedPart_4 : decode prog_5_method_11_code 4 = .ok (.ifCond .eq (10), 3) := by decide +kernel
theorem d_Request_joinedPart_7 : decode prog_5_method_11_code 7 = .ok (.aload_n 0, 1) := by decide +kernel
theorem d_Request_joinedPart_8 : decode prog_5_method_11_code 8 = .ok (.iload_n 1, 1) := by decide +kernel
theorem d_Request_joinedPart_9 : decode prog_5_method_11_code 9 = .ok (.iload_n 2, 1) := by decide +kernel
theorem d_Request_joinedPart_10 : decode prog_5_method_11_code 10 = .ok (.invokevirtual 120, 3) := by decide +kernel
theorem d_Request_joinedPart_13 : decode prog_5_method_11_code 13 = .ok (.ireturn, 1) := by decide +kernel
theorem d_Request_joinedPart_14 : decode prog_5_method_11_code 14 = .ok (.iconst 0, 1) := by decide +kernel
theorem d_Request_joinedPart_15 : decode prog_5_method_11_code 15 = .ok (.istore_n 3, 1) := by decide +kernel
theorem d_Request_joinedPart_16 : decode prog_5_method_11_code 16 = .ok (.iconst 0, 1) := by decide +kernel
theorem d_Request_joinedPart_17 : decode prog_5_method_11_code 17 = .ok (.istore 4, 2) := by decide +kernel
theorem d_Request_joinedPart_19 : decode prog_5_method_11_code 19 = .ok (.iload 4, 2) := by decide +kernel
theorem d_Request_joinedPart_21 : decode prog_5_method_11_code 21 = .ok (.aload_n 0, 1) := by decide +kernel
theorem d_Request_joinedPart_22 : decode prog_5_method_11_code 22 = .ok (.getfield 68, 3) := by decide +kernel
theorem d_Request_joinedPart_25 : decode prog_5_method_11_code 25 = .ok (.getfield 65, 3) := by decide +kernel
theorem d_Request_joinedPart_28 : decode prog_5_method_11_code 28 = .ok (.if_icmp .ge (88), 3) := by decide +kernel
theorem d_Request_joinedPart_31 : decode prog_5_method_11_code 31 = .ok (.iconst 0, 1) := by decide +kernel
theorem d_Request_joinedPart_32 : decode prog_5_method_11_code 32 = .ok (.istore 5, 2) := by decide +kernel
theorem d_Request_joinedPart_34 : decode prog_5_method_11_code 34 = .ok (.iload 5, 2) := by decide +kernel
theorem d_Request_joinedPart_36 : decode prog_5_method_11_code 36 = .ok (.aload_n 0, 1) := by decide +kernel
theorem d_Request_joinedPart_37 : decode prog_5_method_11_code 37 = .ok (.getfield 23, 3) := by decide +kernel
theorem d_Request_joinedPart_40 : decode prog_5_method_11_code 40 = .ok (.getfield 65, 3) := by decide +kernel
theorem d_Request_joinedPart_43 : decode prog_5_method_11_code 43 = .ok (.if_icmp .ge (67), 3) := by decide +kernel
theorem d_Request_joinedPart_46 : decode prog_5_method_11_code 46 = .ok (.aload_n 0, 1) := by decide +kernel
theorem d_Request_joinedPart_47 : decode prog_5_method_11_code 47 = .ok (.getfield 23, 3) := by decide +kernel
theorem d_Request_joinedPart_50 : decode prog_5_method_11_code 50 = .ok (.iload 5, 2) := by decide +kernel
theorem d_Request_joinedPart_52 : decode prog_5_method_11_code 52 = .ok (.invokevirtual 81, 3) := by decide +kernel
theorem d_Request_joinedPart_55 : decode prog_5_method_11_code 55 = .ok (.aload_n 0, 1) := by decide +kernel
theorem d_Request_joinedPart_56 : decode prog_5_method_11_code 56 = .ok (.getfield 68, 3) := by decide +kernel
theorem d_Request_joinedPart_59 : decode prog_5_method_11_code 59 = .ok (.iload 4, 2) := by decide +kernel
theorem d_Request_joinedPart_61 : decode prog_5_method_11_code 61 = .ok (.invokevirtual 81, 3) := by decide +kernel
theorem d_Request_joinedPart_64 : decode prog_5_method_11_code 64 = .ok (.if_icmp .eq (6), 3) := by decide +kernel
theorem d_Request_joinedPart_67 : decode prog_5_method_11_code 67 = .ok (.goto (37), 3) := by decide +kernel
theorem d_Request_joinedPart_70 : decode prog_5_method_11_code 70 = .ok (.iload_n 3, 1) := by decide +kernel
theorem d_Request_joinedPart_71 : decode prog_5_method_11_code 71 = .ok (.iload_n 1, 1) := by decide +kernel
theorem d_Request_joinedPart_72 : decode prog_5_method_11_code 72 = .ok (.if_icmp .ne (29), 3) := by decide +kernel
theorem d_Request_joinedPart_75 : decode prog_5_method_11_code 75 = .ok (.iload_n 2, 1) := by decide +kernel
theorem d_Request_joinedPart_76 : decode prog_5_method_11_code 76 = .ok (.ifCond .eq (15), 3) := by decide +kernel
theorem d_Request_joinedPart_79 : decode prog_5_method_11_code 79 = .ok (.aload_n 0, 1) := by decide +kernel
theorem d_Request_joinedPart_80 : decode prog_5_method_11_code 80 = .ok (.getfield 68, 3) := by decide +kernel
theorem d_Request_joinedPart_83 : decode prog_5_method_11_code 83 = .ok (.iload 4, 2) := by decide +kernel
theorem d_Request_joinedPart_85 : decode prog_5_method_11_code 85 = .ok (.invokevirtual 85, 3) := by decide +kernel
theorem d_Request_joinedPart_88 : decode prog_5_method_11_code 88 = .ok (.goto (12), 3) := by decide +kernel
theorem d_Request_joinedPart_91 : decode prog_5_method_11_code 91 = .ok (.aload_n 0, 1) := by decide +kernel
theorem d_Request_joinedPart_92 : decode prog_5_method_11_code 92 = .ok (.getfield 23, 3) := by decide +kernel
theorem d_Request_joinedPart_95 : decode prog_5_method_11_code 95 = .ok (.iload 5, 2) := by decide +kernel
theorem d_Request_joinedPart_97 : decode prog_5_method_11_code 97 = .ok (.invokevirtual 85, 3) := by decide +kernel
theorem d_Request_joinedPart_100 : decode prog_5_method_11_code 100 = .ok (.ireturn, 1) := by decide +kernel
theorem d_Request_joinedPart_101 : decode prog_5_method_11_code 101 = .ok (.iinc 3 1, 3) := by decide +kernel
theorem d_Request_joinedPart_104 : decode prog_5_method_11_code 104 = .ok (.iinc 5 1, 3) := by decide +kernel
theorem d_Request_joinedPart_107 : decode prog_5_method_11_code 107 = .ok (.goto (-73), 3) := by decide +kernel
theorem d_Request_joinedPart_110 : decode prog_5_method_11_code 110 = .ok (.iinc 4 1, 3) := by decide +kernel
theorem d_Request_joinedPart_113 : decode prog_5_method_11_code 113 = .ok (.goto (-94), 3) := by decide +kernel
theorem d_Request_joinedPart_116 : decode prog_5_method_11_code 116 = .ok (.bipush (-2), 2) := by decide +kernel
theorem d_Request_joinedPart_118 : decode prog_5_method_11_code 118 = .ok (.ireturn, 1) := by decide +kernel
theorem d_ServingEnd_init_0 : decode prog_6_method_1_code 0 = .ok (.aload_n 0, 1) := by decide +kernel
theorem d_ServingEnd_init_1 : decode prog_6_method_1_code 1 = .ok (.invokespecial 3, 3) := by decide +kernel
theorem d_ServingEnd_init_4 : decode prog_6_method_1_code 4 = .ok (.aload_n 0, 1) := by decide +kernel
theorem d_ServingEnd_init_5 : decode prog_6_method_1_code 5 = .ok (.new 9, 3) := by decide +kernel
theorem d_ServingEnd_init_8 : decode prog_6_method_1_code 8 = .ok (.dup, 1) := by decide +kernel
theorem d_ServingEnd_init_9 : decode prog_6_method_1_code 9 = .ok (.bipush 60, 2) := by decide +kernel
theorem d_ServingEnd_init_11 : decode prog_6_method_1_code 11 = .ok (.invokespecial 11, 3) := by decide +kernel
theorem d_ServingEnd_init_14 : decode prog_6_method_1_code 14 = .ok (.putfield 14, 3) := by decide +kernel
theorem d_ServingEnd_init_17 : decode prog_6_method_1_code 17 = .ok (.aload_n 0, 1) := by decide +kernel
theorem d_ServingEnd_init_18 : decode prog_6_method_1_code 18 = .ok (.bipush 8, 2) := by decide +kernel
theorem d_ServingEnd_init_20 : decode prog_6_method_1_code 20 = .ok (.anewarray 20, 3) := by decide +kernel
theorem d_ServingEnd_init_23 : decode prog_6_method_1_code 23 = .ok (.putfield 22, 3) := by decide +kernel
theorem d_ServingEnd_init_26 : decode prog_6_method_1_code 26 = .ok (.aload_n 0, 1) := by decide +kernel
theorem d_ServingEnd_init_27 : decode prog_6_method_1_code 27 = .ok (.iconst 0, 1) := by decide +kernel
theorem d_ServingEnd_init_28 : decode prog_6_method_1_code 28 = .ok (.putfield 26, 3) := by decide +kernel
theorem d_ServingEnd_init_31 : decode prog_6_method_1_code 31 = .ok (.aload_n 0, 1) := by decide +kernel
theorem d_ServingEnd_init_32 : decode prog_6_method_1_code 32 = .ok (.iconst 0, 1) := by decide +kernel
theorem d_ServingEnd_init_33 : decode prog_6_method_1_code 33 = .ok (.putfield 30, 3) := by decide +kernel
theorem d_ServingEnd_init_36 : decode prog_6_method_1_code 36 = .ok (.aload_n 0, 1) := by decide +kernel
theorem d_ServingEnd_init_37 : decode prog_6_method_1_code 37 = .ok (.new 33, 3) := by decide +kernel
theorem d_ServingEnd_init_40 : decode prog_6_method_1_code 40 = .ok (.dup, 1) := by decide +kernel
theorem d_ServingEnd_init_41 : decode prog_6_method_1_code 41 = .ok (.invokespecial 35, 3) := by decide +kernel
theorem d_ServingEnd_init_44 : decode prog_6_method_1_code 44 = .ok (.putfield 36, 3) := by decide +kernel
theorem d_ServingEnd_init_47 : decode prog_6_method_1_code 47 = .ok (.iconst 0, 1) := by decide +kernel
theorem d_ServingEnd_init_48 : decode prog_6_method_1_code 48 = .ok (.istore_n 1, 1) := by decide +kernel
theorem d_ServingEnd_init_49 : decode prog_6_method_1_code 49 = .ok (.iload_n 1, 1) := by decide +kernel
theorem d_ServingEnd_init_50 : decode prog_6_method_1_code 50 = .ok (.bipush 8, 2) := by decide +kernel
theorem d_ServingEnd_init_52 : decode prog_6_method_1_code 52 = .ok (.if_icmp .ge (22), 3) := by decide +kernel
theorem d_ServingEnd_init_55 : decode prog_6_method_1_code 55 = .ok (.aload_n 0, 1) := by decide +kernel
theorem d_ServingEnd_init_56 : decode prog_6_method_1_code 56 = .ok (.getfield 22, 3) := by decide +kernel
theorem d_ServingEnd_init_59 : decode prog_6_method_1_code 59 = .ok (.iload_n 1, 1) := by decide +kernel
theorem d_ServingEnd_init_60 : decode prog_6_method_1_code 60 = .ok (.new 20, 3) := by decide +kernel
theorem d_ServingEnd_init_63 : decode prog_6_method_1_code 63 = .ok (.dup, 1) := by decide +kernel
theorem d_ServingEnd_init_64 : decode prog_6_method_1_code 64 = .ok (.invokespecial 40, 3) := by decide +kernel
theorem d_ServingEnd_init_67 : decode prog_6_method_1_code 67 = .ok (.aastore, 1) := by decide +kernel
theorem d_ServingEnd_init_68 : decode prog_6_method_1_code 68 = .ok (.iinc 1 1, 3) := by decide +kernel
theorem d_ServingEnd_init_71 : decode prog_6_method_1_code 71 = .ok (.goto (-22), 3) := by decide +kernel
theorem d_ServingEnd_init_74 : decode prog_6_method_1_code 74 = .ok (.return_, 1) := by decide +kernel
theorem d_ServingEnd_memoryAt_0 : decode prog_6_method_4_code 0 = .ok (.iload_n 1, 1) := by decide +kernel
theorem d_ServingEnd_memoryAt_1 : decode prog_6_method_4_code 1 = .ok (.ifCond .lt (29), 3) := by decide +kernel
theorem d_ServingEnd_memoryAt_4 : decode prog_6_method_4_code 4 = .ok (.iload_n 1, 1) := by decide +kernel
theorem d_ServingEnd_memoryAt_5 : decode prog_6_method_4_code 5 = .ok (.aload_n 0, 1) := by decide +kernel
theorem d_ServingEnd_memoryAt_6 : decode prog_6_method_4_code 6 = .ok (.getfield 26, 3) := by decide +kernel
theorem d_ServingEnd_memoryAt_9 : decode prog_6_method_4_code 9 = .ok (.if_icmp .ge (21), 3) := by decide +kernel
theorem d_ServingEnd_memoryAt_12 : decode prog_6_method_4_code 12 = .ok (.iload_n 1, 1) := by decide +kernel
theorem d_ServingEnd_memoryAt_13 : decode prog_6_method_4_code 13 = .ok (.aload_n 0, 1) := by decide +kernel
theorem d_ServingEnd_memoryAt_14 : decode prog_6_method_4_code 14 = .ok (.getfield 22, 3) := by decide +kernel
theorem d_ServingEnd_memoryAt_17 : decode prog_6_method_4_code 17 = .ok (.arraylength, 1) := by decide +kernel
theorem d_ServingEnd_memoryAt_18 : decode prog_6_method_4_code 18 = .ok (.if_icmp .ge (12), 3) := by decide +kernel
theorem d_ServingEnd_memoryAt_21 : decode prog_6_method_4_code 21 = .ok (.aload_n 0, 1) := by decide +kernel
theorem d_ServingEnd_memoryAt_22 : decode prog_6_method_4_code 22 = .ok (.getfield 22, 3) := by decide +kernel
theorem d_ServingEnd_memoryAt_25 : decode prog_6_method_4_code 25 = .ok (.iload_n 1, 1) := by decide +kernel
theorem d_ServingEnd_memoryAt_26 : decode prog_6_method_4_code 26 = .ok (.aaload, 1) := by decide +kernel
theorem d_ServingEnd_memoryAt_27 : decode prog_6_method_4_code 27 = .ok (.goto (4), 3) := by decide +kernel
theorem d_ServingEnd_memoryAt_30 : decode prog_6_method_4_code 30 = .ok (.aconst_null, 1) := by decide +kernel
theorem d_ServingEnd_memoryAt_31 : decode prog_6_method_4_code 31 = .ok (.areturn, 1) := by decide +kernel
theorem d_ServingEnd_placeOf_0 : decode prog_6_method_5_code 0 = .ok (.iconst 0, 1) := by decide +kernel
theorem d_ServingEnd_placeOf_1 : decode prog_6_method_5_code 1 = .ok (.istore_n 2, 1) := by decide +kernel
theorem d_ServingEnd_placeOf_2 : decode prog_6_method_5_code 2 = .ok (.iload_n 2, 1) := by decide +kernel
theorem d_ServingEnd_placeOf_3 : decode prog_6_method_5_code 3 = .ok (.aload_n 0, 1) := by decide +kernel
theorem d_ServingEnd_placeOf_4 : decode prog_6_method_5_code 4 = .ok (.getfield 26, 3) := by decide +kernel
theorem d_ServingEnd_placeOf_7 : decode prog_6_method_5_code 7 = .ok (.if_icmp .ge (29), 3) := by decide +kernel
theorem d_ServingEnd_placeOf_10 : decode prog_6_method_5_code 10 = .ok (.aload_n 0, 1) := by decide +kernel
theorem d_ServingEnd_placeOf_11 : decode prog_6_method_5_code 11 = .ok (.iload_n 2, 1) := by decide +kernel
theorem d_ServingEnd_placeOf_12 : decode prog_6_method_5_code 12 = .ok (.invokevirtual 48, 3) := by decide +kernel
theorem d_ServingEnd_placeOf_15 : decode prog_6_method_5_code 15 = .ok (.astore_n 3, 1) := by decide +kernel
theorem d_ServingEnd_placeOf_16 : decode prog_6_method_5_code 16 = .ok (.aload_n 3, 1) := by decide +kernel
theorem d_ServingEnd_placeOf_17 : decode prog_6_method_5_code 17 = .ok (.ifnull (13), 3) := by decide +kernel
theorem d_ServingEnd_placeOf_20 : decode prog_6_method_5_code 20 = .ok (.aload_n 3, 1) := by decide +kernel
theorem d_ServingEnd_placeOf_21 : decode prog_6_method_5_code 21 = .ok (.getfield 85, 3) := by decide +kernel
theorem d_ServingEnd_placeOf_24 : decode prog_6_method_5_code 24 = .ok (.iload_n 1, 1) := by decide +kernel
theorem d_ServingEnd_placeOf_25 : decode prog_6_method_5_code 25 = .ok (.if_icmp .ne (5), 3) := by decide +kernel
theorem d_ServingEnd_placeOf_28 : decode prog_6_method_5_code 28 = .ok (.iload_n 2, 1) := by decide +kernel
theorem d_ServingEnd_placeOf_29 : decode prog_6_method_5_code 29 = .ok (.ireturn, 1) := by decide +kernel
theorem d_ServingEnd_placeOf_30 : decode prog_6_method_5_code 30 = .ok (.iinc 2 1, 3) := by decide +kernel
theorem d_ServingEnd_placeOf_33 : decode prog_6_method_5_code 33 = .ok (.goto (-31), 3) := by decide +kernel
theorem d_ServingEnd_placeOf_36 : decode prog_6_method_5_code 36 = .ok (.bipush (-2), 2) := by decide +kernel
theorem d_ServingEnd_placeOf_38 : decode prog_6_method_5_code 38 = .ok (.ireturn, 1) := by decide +kernel
theorem d_ServingEnd_memoryFor_0 : decode prog_6_method_6_code 0 = .ok (.aload_n 0, 1) := by decide +kernel
theorem d_ServingEnd_memoryFor_1 : decode prog_6_method_6_code 1 = .ok (.iload_n 1, 1) := by decide +kernel
theorem d_ServingEnd_memoryFor_2 : decode prog_6_method_6_code 2 = .ok (.invokevirtual 44, 3) := by decide +kernel
theorem d_ServingEnd_memoryFor_5 : decode prog_6_method_6_code 5 = .ok (.istore_n 2, 1) := by decide +kernel
theorem d_ServingEnd_memoryFor_6 : decode prog_6_method_6_code 6 = .ok (.iload_n 2, 1) := by decide +kernel
theorem d_ServingEnd_memoryFor_7 : decode prog_6_method_6_code 7 = .ok (.ifCond .ge (29), 3) := by decide +kernel
theorem d_ServingEnd_memoryFor_10 : decode prog_6_method_6_code 10 = .ok (.iconst 0, 1) := by decide +kernel
theorem d_ServingEnd_memoryFor_11 : decode prog_6_method_6_code 11 = .ok (.istore_n 2, 1) := by decide +kernel
theorem d_ServingEnd_memoryFor_12 : decode prog_6_method_6_code 12 = .ok (.aload_n 0, 1) := by decide +kernel
theorem d_ServingEnd_memoryFor_13 : decode prog_6_method_6_code 13 = .ok (.getfield 26, 3) := by decide +kernel
theorem d_ServingEnd_memoryFor_16 : decode prog_6_method_6_code 16 = .ok (.bipush 8, 2) := by decide +kernel
theorem d_ServingEnd_memoryFor_18 : decode prog_6_method_6_code 18 = .ok (.if_icmp .ge (18), 3) := by decide +kernel
theorem d_ServingEnd_memoryFor_21 : decode prog_6_method_6_code 21 = .ok (.aload_n 0, 1) := by decide +kernel
theorem d_ServingEnd_memoryFor_22 : decode prog_6_method_6_code 22 = .ok (.getfield 26, 3) := by decide +kernel
theorem d_ServingEnd_memoryFor_25 : decode prog_6_method_6_code 25 = .ok (.istore_n 2, 1) := by decide +kernel
theorem d_ServingEnd_memoryFor_26 : decode prog_6_method_6_code 26 = .ok (.aload_n 0, 1) := by decide +kernel
theorem d_ServingEnd_memoryFor_27 : decode prog_6_method_6_code 27 = .ok (.dup, 1) := by decide +kernel
theorem d_ServingEnd_memoryFor_28 : decode prog_6_method_6_code 28 = .ok (.getfield 26, 3) := by decide +kernel
theorem d_ServingEnd_memoryFor_31 : decode prog_6_method_6_code 31 = .ok (.iconst 1, 1) := by decide +kernel
theorem d_ServingEnd_memoryFor_32 : decode prog_6_method_6_code 32 = .ok (.iadd, 1) := by decide +kernel
theorem d_ServingEnd_memoryFor_33 : decode prog_6_method_6_code 33 = .ok (.putfield 26, 3) := by decide +kernel
theorem d_ServingEnd_memoryFor_36 : decode prog_6_method_6_code 36 = .ok (.aload_n 0, 1) := by decide +kernel
theorem d_ServingEnd_memoryFor_37 : decode prog_6_method_6_code 37 = .ok (.iload_n 2, 1) := by decide +kernel
theorem d_ServingEnd_memoryFor_38 : decode prog_6_method_6_code 38 = .ok (.invokevirtual 48, 3) := by decide +kernel
theorem d_ServingEnd_memoryFor_41 : decode prog_6_method_6_code 41 = .ok (.astore_n 3, 1) := by decide +kernel
theorem d_ServingEnd_memoryFor_42 : decode prog_6_method_6_code 42 = .ok (.iload_n 2, 1) := by decide +kernel
theorem d_ServingEnd_memoryFor_43 : decode prog_6_method_6_code 43 = .ok (.istore 4, 2) := by decide +kernel
theorem d_ServingEnd_memoryFor_45 : decode prog_6_method_6_code 45 = .ok (.iload 4, 2) := by decide +kernel
theorem d_ServingEnd_memoryFor_47 : decode prog_6_method_6_code 47 = .ok (.iconst 1, 1) := by decide +kernel
theorem d_ServingEnd_memoryFor_48 : decode prog_6_method_6_code 48 = .ok (.iadd, 1) := by decide +kernel
theorem d_ServingEnd_memoryFor_49 : decode prog_6_method_6_code 49 = .ok (.aload_n 0, 1) := by decide +kernel
theorem d_ServingEnd_memoryFor_50 : decode prog_6_method_6_code 50 = .ok (.getfield 26, 3) := by decide +kernel
theorem d_ServingEnd_memoryFor_53 : decode prog_6_method_6_code 53 = .ok (.if_icmp .ge (37), 3) := by decide +kernel
theorem d_ServingEnd_memoryFor_56 : decode prog_6_method_6_code 56 = .ok (.iload 4, 2) := by decide +kernel
theorem d_ServingEnd_memoryFor_58 : decode prog_6_method_6_code 58 = .ok (.iconst 1, 1) := by decide +kernel
theorem d_ServingEnd_memoryFor_59 : decode prog_6_method_6_code 59 = .ok (.iadd, 1) := by decide +kernel
theorem d_ServingEnd_memoryFor_60 : decode prog_6_method_6_code 60 = .ok (.aload_n 0, 1) := by decide +kernel
theorem d_ServingEnd_memoryFor_61 : decode prog_6_method_6_code 61 = .ok (.getfield 22, 3) := by decide +kernel
theorem d_ServingEnd_memoryFor_64 : decode prog_6_method_6_code 64 = .ok (.arraylength, 1) := by decide +kernel
theorem d_ServingEnd_memoryFor_65 : decode prog_6_method_6_code 65 = .ok (.if_icmp .ge (25), 3) := by decide +kernel
theorem d_ServingEnd_memoryFor_68 : decode prog_6_method_6_code 68 = .ok (.aload_n 0, 1) := by decide +kernel
theorem d_ServingEnd_memoryFor_69 : decode prog_6_method_6_code 69 = .ok (.getfield 22, 3) := by decide +kernel
theorem d_ServingEnd_memoryFor_72 : decode prog_6_method_6_code 72 = .ok (.iload 4, 2) := by decide +kernel
theorem d_ServingEnd_memoryFor_74 : decode prog_6_method_6_code 74 = .ok (.aload_n 0, 1) := by decide +kernel
theorem d_ServingEnd_memoryFor_75 : decode prog_6_method_6_code 75 = .ok (.getfield 22, 3) := by decide +kernel
theorem d_ServingEnd_memoryFor_78 : decode prog_6_method_6_code 78 = .ok (.iload 4, 2) := by decide +kernel
theorem d_ServingEnd_memoryFor_80 : decode prog_6_method_6_code 80 = .ok (.iconst 1, 1) := by decide +kernel
theorem d_ServingEnd_memoryFor_81 : decode prog_6_method_6_code 81 = .ok (.iadd, 1) := by decide +kernel
theorem d_ServingEnd_memoryFor_82 : decode prog_6_method_6_code 82 = .ok (.aaload, 1) := by decide +kernel
theorem d_ServingEnd_memoryFor_83 : decode prog_6_method_6_code 83 = .ok (.aastore, 1) := by decide +kernel
theorem d_ServingEnd_memoryFor_84 : decode prog_6_method_6_code 84 = .ok (.iinc 4 1, 3) := by decide +kernel
theorem d_ServingEnd_memoryFor_87 : decode prog_6_method_6_code 87 = .ok (.goto (-42), 3) := by decide +kernel
theorem d_ServingEnd_memoryFor_90 : decode prog_6_method_6_code 90 = .ok (.aload_n 0, 1) := by decide +kernel
theorem d_ServingEnd_memoryFor_91 : decode prog_6_method_6_code 91 = .ok (.getfield 26, 3) := by decide +kernel
theorem d_ServingEnd_memoryFor_94 : decode prog_6_method_6_code 94 = .ok (.iconst 1, 1) := by decide +kernel
theorem d_ServingEnd_memoryFor_95 : decode prog_6_method_6_code 95 = .ok (.isub, 1) := by decide +kernel
theorem d_ServingEnd_memoryFor_96 : decode prog_6_method_6_code 96 = .ok (.istore 4, 2) := by decide +kernel
theorem d_ServingEnd_memoryFor_98 : decode prog_6_method_6_code 98 = .ok (.iload 4, 2) := by decide +kernel
theorem d_ServingEnd_memoryFor_100 : decode prog_6_method_6_code 100 = .ok (.ifCond .lt (21), 3) := by decide +kernel
theorem d_ServingEnd_memoryFor_103 : decode prog_6_method_6_code 103 = .ok (.iload 4, 2) := by decide +kernel
theorem d_ServingEnd_memoryFor_105 : decode prog_6_method_6_code 105 = .ok (.aload_n 0, 1) := by decide +kernel
theorem d_ServingEnd_memoryFor_106 : decode prog_6_method_6_code 106 = .ok (.getfield 22, 3) := by decide +kernel
theorem d_ServingEnd_memoryFor_109 : decode prog_6_method_6_code 109 = .ok (.arraylength, 1) := by decide +kernel
theorem d_ServingEnd_memoryFor_110 : decode prog_6_method_6_code 110 = .ok (.if_icmp .ge (11), 3) := by decide +kernel
theorem d_ServingEnd_memoryFor_113 : decode prog_6_method_6_code 113 = .ok (.aload_n 0, 1) := by decide +kernel
theorem d_ServingEnd_memoryFor_114 : decode prog_6_method_6_code 114 = .ok (.getfield 22, 3) := by decide +kernel
theorem d_ServingEnd_memoryFor_117 : decode prog_6_method_6_code 117 = .ok (.iload 4, 2) := by decide +kernel
theorem d_ServingEnd_memoryFor_119 : decode prog_6_method_6_code 119 = .ok (.aload_n 3, 1) := by decide +kernel
theorem d_ServingEnd_memoryFor_120 : decode prog_6_method_6_code 120 = .ok (.aastore, 1) := by decide +kernel
theorem d_ServingEnd_memoryFor_121 : decode prog_6_method_6_code 121 = .ok (.aload_n 3, 1) := by decide +kernel
theorem d_ServingEnd_memoryFor_122 : decode prog_6_method_6_code 122 = .ok (.areturn, 1) := by decide +kernel
theorem d_ServingEnd_remember_0 : decode prog_6_method_7_code 0 = .ok (.aload_n 1, 1) := by decide +kernel
theorem d_ServingEnd_remember_1 : decode prog_6_method_7_code 1 = .ok (.ifnonnull (4), 3) := by decide +kernel
theorem d_ServingEnd_remember_4 : decode prog_6_method_7_code 4 = .ok (.return_, 1) := by decide +kernel
theorem d_ServingEnd_remember_5 : decode prog_6_method_7_code 5 = .ok (.aload_n 1, 1) := by decide +kernel
theorem d_ServingEnd_remember_6 : decode prog_6_method_7_code 6 = .ok (.aload_n 2, 1) := by decide +kernel
theorem d_ServingEnd_remember_7 : decode prog_6_method_7_code 7 = .ok (.getfield 41, 3) := by decide +kernel
theorem d_ServingEnd_remember_10 : decode prog_6_method_7_code 10 = .ok (.putfield 85, 3) := by decide +kernel
theorem d_ServingEnd_remember_13 : decode prog_6_method_7_code 13 = .ok (.aload_n 1, 1) := by decide +kernel
theorem d_ServingEnd_remember_14 : decode prog_6_method_7_code 14 = .ok (.aload_n 2, 1) := by decide +kernel
theorem d_ServingEnd_remember_15 : decode prog_6_method_7_code 15 = .ok (.iconst 0, 1) := by decide +kernel
theorem d_ServingEnd_remember_16 : decode prog_6_method_7_code 16 = .ok (.invokevirtual 55, 3) := by decide +kernel
theorem d_ServingEnd_remember_19 : decode prog_6_method_7_code 19 = .ok (.putfield 52, 3) := by decide +kernel
theorem d_ServingEnd_remember_22 : decode prog_6_method_7_code 22 = .ok (.aload_n 1, 1) := by decide +kernel
theorem d_ServingEnd_remember_23 : decode prog_6_method_7_code 23 = .ok (.aload_n 1, 1) := by decide +kernel
theorem d_ServingEnd_remember_24 : decode prog_6_method_7_code 24 = .ok (.getfield 52, 3) := by decide +kernel
theorem d_ServingEnd_remember_27 : decode prog_6_method_7_code 27 = .ok (.putfield 75, 3) := by decide +kernel
theorem d_ServingEnd_remember_30 : decode prog_6_method_7_code 30 = .ok (.aload_n 1, 1) := by decide +kernel
theorem d_ServingEnd_remember_31 : decode prog_6_method_7_code 31 = .ok (.getfield 69, 3) := by decide +kernel
theorem d_ServingEnd_remember_34 : decode prog_6_method_7_code 34 = .ok (.invokevirtual 86, 3) := by decide +kernel
theorem d_ServingEnd_remember_37 : decode prog_6_method_7_code 37 = .ok (.iconst 1, 1) := by decide +kernel
theorem d_ServingEnd_remember_38 : decode prog_6_method_7_code 38 = .ok (.istore_n 3, 1) := by decide +kernel
theorem d_ServingEnd_remember_39 : decode prog_6_method_7_code 39 = .ok (.iload_n 3, 1) := by decide +kernel
theorem d_ServingEnd_remember_40 : decode prog_6_method_7_code 40 = .ok (.aload_n 2, 1) := by decide +kernel
theorem d_ServingEnd_remember_41 : decode prog_6_method_7_code 41 = .ok (.getfield 89, 3) := by decide +kernel
theorem d_ServingEnd_remember_44 : decode prog_6_method_7_code 44 = .ok (.if_icmp .ge (73), 3) := by decide +kernel
theorem d_ServingEnd_remember_47 : decode prog_6_method_7_code 47 = .ok (.iconst 0, 1) := by decide +kernel
theorem d_ServingEnd_remember_48 : decode prog_6_method_7_code 48 = .ok (.istore 4, 2) := by decide +kernel
theorem d_ServingEnd_remember_50 : decode prog_6_method_7_code 50 = .ok (.iload 4, 2) := by decide +kernel
theorem d_ServingEnd_remember_52 : decode prog_6_method_7_code 52 = .ok (.aload_n 0, 1) := by decide +kernel
theorem d_ServingEnd_remember_53 : decode prog_6_method_7_code 53 = .ok (.getfield 14, 3) := by decide +kernel
theorem d_ServingEnd_remember_56 : decode prog_6_method_7_code 56 = .ok (.getfield 72, 3) := by decide +kernel
theorem d_ServingEnd_remember_59 : decode prog_6_method_7_code 59 = .ok (.if_icmp .ge (52), 3) := by decide +kernel
theorem d_ServingEnd_remember_62 : decode prog_6_method_7_code 62 = .ok (.aload_n 0, 1) := by decide +kernel
theorem d_ServingEnd_remember_63 : decode prog_6_method_7_code 63 = .ok (.getfield 14, 3) := by decide +kernel
theorem d_ServingEnd_remember_66 : decode prog_6_method_7_code 66 = .ok (.iload 4, 2) := by decide +kernel
theorem d_ServingEnd_remember_68 : decode prog_6_method_7_code 68 = .ok (.invokevirtual 92, 3) := by decide +kernel
theorem d_ServingEnd_remember_71 : decode prog_6_method_7_code 71 = .ok (.aload_n 2, 1) := by decide +kernel
theorem d_ServingEnd_remember_72 : decode prog_6_method_7_code 72 = .ok (.iload_n 3, 1) := by decide +kernel
theorem d_ServingEnd_remember_73 : decode prog_6_method_7_code 73 = .ok (.invokevirtual 55, 3) := by decide +kernel
theorem d_ServingEnd_remember_76 : decode prog_6_method_7_code 76 = .ok (.if_icmp .ne (29), 3) := by decide +kernel
theorem d_ServingEnd_remember_79 : decode prog_6_method_7_code 79 = .ok (.aload_n 1, 1) := by decide +kernel
theorem d_ServingEnd_remember_80 : decode prog_6_method_7_code 80 = .ok (.getfield 69, 3) := by decide +kernel

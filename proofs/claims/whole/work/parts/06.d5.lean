theorem d_Mo_octet_9 : decode prog_9_method_27_code 9 = .ok (.iconst (-1), 1) := by decide +kernel
theorem d_Mo_octet_10 : decode prog_9_method_27_code 10 = .ok (.goto (27), 3) := by decide +kernel
theorem d_Mo_octet_13 : decode prog_9_method_27_code 13 = .ok (.aload_n 0, 1) := by decide +kernel
theorem d_Mo_octet_14 : decode prog_9_method_27_code 14 = .ok (.getfield 7, 3) := by decide +kernel
theorem d_Mo_octet_17 : decode prog_9_method_27_code 17 = .ok (.iload_n 1, 1) := by decide +kernel
theorem d_Mo_octet_18 : decode prog_9_method_27_code 18 = .ok (.baload, 1) := by decide +kernel
theorem d_Mo_octet_19 : decode prog_9_method_27_code 19 = .ok (.ifCond .ne (8), 3) := by decide +kernel
theorem d_Mo_octet_22 : decode prog_9_method_27_code 22 = .ok (.bipush (-2), 2) := by decide +kernel
theorem d_Mo_octet_24 : decode prog_9_method_27_code 24 = .ok (.goto (13), 3) := by decide +kernel
theorem d_Mo_octet_27 : decode prog_9_method_27_code 27 = .ok (.aload_n 0, 1) := by decide +kernel
theorem d_Mo_octet_28 : decode prog_9_method_27_code 28 = .ok (.iload_n 1, 1) := by decide +kernel
theorem d_Mo_octet_29 : decode prog_9_method_27_code 29 = .ok (.iload_n 2, 1) := by decide +kernel
theorem d_Mo_octet_30 : decode prog_9_method_27_code 30 = .ok (.sipush 255, 3) := by decide +kernel
theorem d_Mo_octet_33 : decode prog_9_method_27_code 33 = .ok (.iand, 1) := by decide +kernel
theorem d_Mo_octet_34 : decode prog_9_method_27_code 34 = .ok (.invokevirtual 230, 3) := by decide +kernel
theorem d_Mo_octet_37 : decode prog_9_method_27_code 37 = .ok (.ireturn, 1) := by decide +kernel
theorem d_Mo_takeOut_0 : decode prog_9_method_28_code 0 = .ok (.aload_n 0, 1) := by decide +kernel
theorem d_Mo_takeOut_1 : decode prog_9_method_28_code 1 = .ok (.getfield 13, 3) := by decide +kernel
theorem d_Mo_takeOut_4 : decode prog_9_method_28_code 4 = .ok (.sipush 300, 3) := by decide +kernel
theorem d_Mo_takeOut_7 : decode prog_9_method_28_code 7 = .ok (.iload_n 1, 1) := by decide +kernel
theorem d_Mo_takeOut_8 : decode prog_9_method_28_code 8 = .ok (.imul, 1) := by decide +kernel
theorem d_Mo_takeOut_9 : decode prog_9_method_28_code 9 = .ok (.iaload, 1) := by decide +kernel
theorem d_Mo_takeOut_10 : decode prog_9_method_28_code 10 = .ok (.istore_n 2, 1) := by decide +kernel
theorem d_Mo_takeOut_11 : decode prog_9_method_28_code 11 = .ok (.aload_n 0, 1) := by decide +kernel
theorem d_Mo_takeOut_12 : decode prog_9_method_28_code 12 = .ok (.getfield 17, 3) := by decide +kernel
theorem d_Mo_takeOut_15 : decode prog_9_method_28_code 15 = .ok (.iload_n 1, 1) := by decide +kernel
theorem d_Mo_takeOut_16 : decode prog_9_method_28_code 16 = .ok (.dup2, 1) := by decide +kernel
theorem d_Mo_takeOut_17 : decode prog_9_method_28_code 17 = .ok (.iaload, 1) := by decide +kernel
theorem d_Mo_takeOut_18 : decode prog_9_method_28_code 18 = .ok (.iconst 1, 1) := by decide +kernel
theorem d_Mo_takeOut_19 : decode prog_9_method_28_code 19 = .ok (.isub, 1) := by decide +kernel
theorem d_Mo_takeOut_20 : decode prog_9_method_28_code 20 = .ok (.iastore, 1) := by decide +kernel
theorem d_Mo_takeOut_21 : decode prog_9_method_28_code 21 = .ok (.iconst 0, 1) := by decide +kernel
theorem d_Mo_takeOut_22 : decode prog_9_method_28_code 22 = .ok (.istore_n 3, 1) := by decide +kernel
theorem d_Mo_takeOut_23 : decode prog_9_method_28_code 23 = .ok (.iload_n 3, 1) := by decide +kernel
theorem d_Mo_takeOut_24 : decode prog_9_method_28_code 24 = .ok (.aload_n 0, 1) := by decide +kernel
theorem d_Mo_takeOut_25 : decode prog_9_method_28_code 25 = .ok (.getfield 17, 3) := by decide +kernel
theorem d_Mo_takeOut_28 : decode prog_9_method_28_code 28 = .ok (.iload_n 1, 1) := by decide +kernel
theorem d_Mo_takeOut_29 : decode prog_9_method_28_code 29 = .ok (.iaload, 1) := by decide +kernel
theorem d_Mo_takeOut_30 : decode prog_9_method_28_code 30 = .ok (.if_icmp .ge (35), 3) := by decide +kernel
theorem d_Mo_takeOut_33 : decode prog_9_method_28_code 33 = .ok (.aload_n 0, 1) := by decide +kernel
theorem d_Mo_takeOut_34 : decode prog_9_method_28_code 34 = .ok (.getfield 13, 3) := by decide +kernel
theorem d_Mo_takeOut_37 : decode prog_9_method_28_code 37 = .ok (.sipush 300, 3) := by decide +kernel
theorem d_Mo_takeOut_40 : decode prog_9_method_28_code 40 = .ok (.iload_n 1, 1) := by decide +kernel
theorem d_Mo_takeOut_41 : decode prog_9_method_28_code 41 = .ok (.imul, 1) := by decide +kernel
theorem d_Mo_takeOut_42 : decode prog_9_method_28_code 42 = .ok (.iload_n 3, 1) := by decide +kernel
theorem d_Mo_takeOut_43 : decode prog_9_method_28_code 43 = .ok (.iadd, 1) := by decide +kernel
theorem d_Mo_takeOut_44 : decode prog_9_method_28_code 44 = .ok (.aload_n 0, 1) := by decide +kernel
theorem d_Mo_takeOut_45 : decode prog_9_method_28_code 45 = .ok (.getfield 13, 3) := by decide +kernel
theorem d_Mo_takeOut_48 : decode prog_9_method_28_code 48 = .ok (.sipush 300, 3) := by decide +kernel
theorem d_Mo_takeOut_51 : decode prog_9_method_28_code 51 = .ok (.iload_n 1, 1) := by decide +kernel
theorem d_Mo_takeOut_52 : decode prog_9_method_28_code 52 = .ok (.imul, 1) := by decide +kernel
theorem d_Mo_takeOut_53 : decode prog_9_method_28_code 53 = .ok (.iload_n 3, 1) := by decide +kernel
theorem d_Mo_takeOut_54 : decode prog_9_method_28_code 54 = .ok (.iadd, 1) := by decide +kernel
theorem d_Mo_takeOut_55 : decode prog_9_method_28_code 55 = .ok (.iconst 1, 1) := by decide +kernel
theorem d_Mo_takeOut_56 : decode prog_9_method_28_code 56 = .ok (.iadd, 1) := by decide +kernel
theorem d_Mo_takeOut_57 : decode prog_9_method_28_code 57 = .ok (.iaload, 1) := by decide +kernel
theorem d_Mo_takeOut_58 : decode prog_9_method_28_code 58 = .ok (.iastore, 1) := by decide +kernel
theorem d_Mo_takeOut_59 : decode prog_9_method_28_code 59 = .ok (.iinc 3 1, 3) := by decide +kernel
theorem d_Mo_takeOut_62 : decode prog_9_method_28_code 62 = .ok (.goto (-39), 3) := by decide +kernel
theorem d_Mo_takeOut_65 : decode prog_9_method_28_code 65 = .ok (.iload_n 2, 1) := by decide +kernel
theorem d_Mo_takeOut_66 : decode prog_9_method_28_code 66 = .ok (.ireturn, 1) := by decide +kernel
theorem d_Mo_out_0 : decode prog_9_method_29_code 0 = .ok (.iload_n 1, 1) := by decide +kernel
theorem d_Mo_out_1 : decode prog_9_method_29_code 1 = .ok (.iconst 0, 1) := by decide +kernel
theorem d_Mo_out_2 : decode prog_9_method_29_code 2 = .ok (.iconst 4, 1) := by decide +kernel
theorem d_Mo_out_3 : decode prog_9_method_29_code 3 = .ok (.invokestatic 163, 3) := by decide +kernel
theorem d_Mo_out_6 : decode prog_9_method_29_code 6 = .ok (.ifCond .ne (7), 3) := by decide +kernel
theorem d_Mo_out_9 : decode prog_9_method_29_code 9 = .ok (.iconst (-1), 1) := by decide +kernel
theorem d_Mo_out_10 : decode prog_9_method_29_code 10 = .ok (.goto (22), 3) := by decide +kernel
theorem d_Mo_out_13 : decode prog_9_method_29_code 13 = .ok (.aload_n 0, 1) := by decide +kernel
theorem d_Mo_out_14 : decode prog_9_method_29_code 14 = .ok (.getfield 17, 3) := by decide +kernel
theorem d_Mo_out_17 : decode prog_9_method_29_code 17 = .ok (.iload_n 1, 1) := by decide +kernel
theorem d_Mo_out_18 : decode prog_9_method_29_code 18 = .ok (.iaload, 1) := by decide +kernel
theorem d_Mo_out_19 : decode prog_9_method_29_code 19 = .ok (.ifCond .ne (8), 3) := by decide +kernel
theorem d_Mo_out_22 : decode prog_9_method_29_code 22 = .ok (.bipush (-2), 2) := by decide +kernel
theorem d_Mo_out_24 : decode prog_9_method_29_code 24 = .ok (.goto (8), 3) := by decide +kernel
theorem d_Mo_out_27 : decode prog_9_method_29_code 27 = .ok (.aload_n 0, 1) := by decide +kernel
theorem d_Mo_out_28 : decode prog_9_method_29_code 28 = .ok (.iload_n 1, 1) := by decide +kernel
theorem d_Mo_out_29 : decode prog_9_method_29_code 29 = .ok (.invokevirtual 234, 3) := by decide +kernel
theorem d_Mo_out_32 : decode prog_9_method_29_code 32 = .ok (.ireturn, 1) := by decide +kernel
theorem d_Mo_loop_0 : decode prog_9_method_30_code 0 = .ok (.iload_n 1, 1) := by decide +kernel
theorem d_Mo_loop_1 : decode prog_9_method_30_code 1 = .ok (.iconst 0, 1) := by decide +kernel
theorem d_Mo_loop_2 : decode prog_9_method_30_code 2 = .ok (.iconst 3, 1) := by decide +kernel
theorem d_Mo_loop_3 : decode prog_9_method_30_code 3 = .ok (.invokestatic 163, 3) := by decide +kernel
theorem d_Mo_loop_6 : decode prog_9_method_30_code 6 = .ok (.ifCond .eq (7), 3) := by decide +kernel
theorem d_Mo_loop_9 : decode prog_9_method_30_code 9 = .ok (.iload_n 2, 1) := by decide +kernel
theorem d_Mo_loop_10 : decode prog_9_method_30_code 10 = .ok (.ifCond .ge (5), 3) := by decide +kernel
theorem d_Mo_loop_13 : decode prog_9_method_30_code 13 = .ok (.iconst (-1), 1) := by decide +kernel
theorem d_Mo_loop_14 : decode prog_9_method_30_code 14 = .ok (.ireturn, 1) := by decide +kernel
theorem d_Mo_loop_15 : decode prog_9_method_30_code 15 = .ok (.aload_n 0, 1) := by decide +kernel
theorem d_Mo_loop_16 : decode prog_9_method_30_code 16 = .ok (.getfield 7, 3) := by decide +kernel
theorem d_Mo_loop_19 : decode prog_9_method_30_code 19 = .ok (.iload_n 1, 1) := by decide +kernel
theorem d_Mo_loop_20 : decode prog_9_method_30_code 20 = .ok (.baload, 1) := by decide +kernel
theorem d_Mo_loop_21 : decode prog_9_method_30_code 21 = .ok (.ifCond .ne (6), 3) := by decide +kernel
theorem d_Mo_loop_24 : decode prog_9_method_30_code 24 = .ok (.bipush (-2), 2) := by decide +kernel
theorem d_Mo_loop_26 : decode prog_9_method_30_code 26 = .ok (.ireturn, 1) := by decide +kernel
theorem d_Mo_loop_27 : decode prog_9_method_30_code 27 = .ok (.iconst 0, 1) := by decide +kernel
theorem d_Mo_loop_28 : decode prog_9_method_30_code 28 = .ok (.istore_n 3, 1) := by decide +kernel
theorem d_Mo_loop_29 : decode prog_9_method_30_code 29 = .ok (.iload_n 3, 1) := by decide +kernel
theorem d_Mo_loop_30 : decode prog_9_method_30_code 30 = .ok (.iload_n 2, 1) := by decide +kernel
theorem d_Mo_loop_31 : decode prog_9_method_30_code 31 = .ok (.if_icmp .ge (29), 3) := by decide +kernel
theorem d_Mo_loop_34 : decode prog_9_method_30_code 34 = .ok (.aload_n 0, 1) := by decide +kernel
theorem d_Mo_loop_35 : decode prog_9_method_30_code 35 = .ok (.getfield 17, 3) := by decide +kernel
theorem d_Mo_loop_38 : decode prog_9_method_30_code 38 = .ok (.iload_n 1, 1) := by decide +kernel
theorem d_Mo_loop_39 : decode prog_9_method_30_code 39 = .ok (.iaload, 1) := by decide +kernel
theorem d_Mo_loop_40 : decode prog_9_method_30_code 40 = .ok (.ifCond .le (20), 3) := by decide +kernel
theorem d_Mo_loop_43 : decode prog_9_method_30_code 43 = .ok (.aload_n 0, 1) := by decide +kernel
theorem d_Mo_loop_44 : decode prog_9_method_30_code 44 = .ok (.iconst 4, 1) := by decide +kernel
theorem d_Mo_loop_45 : decode prog_9_method_30_code 45 = .ok (.aload_n 0, 1) := by decide +kernel
theorem d_Mo_loop_46 : decode prog_9_method_30_code 46 = .ok (.iload_n 1, 1) := by decide +kernel
theorem d_Mo_loop_47 : decode prog_9_method_30_code 47 = .ok (.invokevirtual 234, 3) := by decide +kernel
theorem d_Mo_loop_50 : decode prog_9_method_30_code 50 = .ok (.invokevirtual 230, 3) := by decide +kernel
theorem d_Mo_loop_53 : decode prog_9_method_30_code 53 = .ok (.pop, 1) := by decide +kernel
theorem d_Mo_loop_54 : decode prog_9_method_30_code 54 = .ok (.iinc 3 1, 3) := by decide +kernel
theorem d_Mo_loop_57 : decode prog_9_method_30_code 57 = .ok (.goto (-28), 3) := by decide +kernel
theorem d_Mo_loop_60 : decode prog_9_method_30_code 60 = .ok (.iconst 0, 1) := by decide +kernel
theorem d_Mo_loop_61 : decode prog_9_method_30_code 61 = .ok (.istore_n 3, 1) := by decide +kernel
theorem d_Mo_loop_62 : decode prog_9_method_30_code 62 = .ok (.aload_n 0, 1) := by decide +kernel
theorem d_Mo_loop_63 : decode prog_9_method_30_code 63 = .ok (.getfield 17, 3) := by decide +kernel
theorem d_Mo_loop_66 : decode prog_9_method_30_code 66 = .ok (.iconst 4, 1) := by decide +kernel
theorem d_Mo_loop_67 : decode prog_9_method_30_code 67 = .ok (.iaload, 1) := by decide +kernel
theorem d_Mo_loop_68 : decode prog_9_method_30_code 68 = .ok (.ifCond .le (29), 3) := by decide +kernel
theorem d_Mo_loop_71 : decode prog_9_method_30_code 71 = .ok (.aload_n 0, 1) := by decide +kernel
theorem d_Mo_loop_72 : decode prog_9_method_30_code 72 = .ok (.getfield 7, 3) := by decide +kernel
theorem d_Mo_loop_75 : decode prog_9_method_30_code 75 = .ok (.iload_n 1, 1) := by decide +kernel
theorem d_Mo_loop_76 : decode prog_9_method_30_code 76 = .ok (.baload, 1) := by decide +kernel
theorem d_Mo_loop_77 : decode prog_9_method_30_code 77 = .ok (.ifCond .eq (20), 3) := by decide +kernel
theorem d_Mo_loop_80 : decode prog_9_method_30_code 80 = .ok (.aload_n 0, 1) := by decide +kernel
theorem d_Mo_loop_81 : decode prog_9_method_30_code 81 = .ok (.iload_n 1, 1) := by decide +kernel
theorem d_Mo_loop_82 : decode prog_9_method_30_code 82 = .ok (.aload_n 0, 1) := by decide +kernel
theorem d_Mo_loop_83 : decode prog_9_method_30_code 83 = .ok (.iconst 4, 1) := by decide +kernel
theorem d_Mo_loop_84 : decode prog_9_method_30_code 84 = .ok (.invokevirtual 234, 3) := by decide +kernel
theorem d_Mo_loop_87 : decode prog_9_method_30_code 87 = .ok (.invokevirtual 230, 3) := by decide +kernel
theorem d_Mo_loop_90 : decode prog_9_method_30_code 90 = .ok (.pop, 1) := by decide +kernel
theorem d_Mo_loop_91 : decode prog_9_method_30_code 91 = .ok (.iinc 3 1, 3) := by decide +kernel
theorem d_Mo_loop_94 : decode prog_9_method_30_code 94 = .ok (.goto (-32), 3) := by decide +kernel
theorem d_Mo_loop_97 : decode prog_9_method_30_code 97 = .ok (.aload_n 0, 1) := by decide +kernel
theorem d_Mo_loop_98 : decode prog_9_method_30_code 98 = .ok (.getfield 17, 3) := by decide +kernel
theorem d_Mo_loop_101 : decode prog_9_method_30_code 101 = .ok (.iconst 4, 1) := by decide +kernel
theorem d_Mo_loop_102 : decode prog_9_method_30_code 102 = .ok (.iconst 0, 1) := by decide +kernel
theorem d_Mo_loop_103 : decode prog_9_method_30_code 103 = .ok (.iastore, 1) := by decide +kernel
theorem d_Mo_loop_104 : decode prog_9_method_30_code 104 = .ok (.iload_n 3, 1) := by decide +kernel
theorem d_Mo_loop_105 : decode prog_9_method_30_code 105 = .ok (.ireturn, 1) := by decide +kernel
theorem d_Mo_up_0 : decode prog_9_method_31_code 0 = .ok (.iload_n 1, 1) := by decide +kernel
theorem d_Mo_up_1 : decode prog_9_method_31_code 1 = .ok (.iconst 0, 1) := by decide +kernel
theorem d_Mo_up_2 : decode prog_9_method_31_code 2 = .ok (.iconst 3, 1) := by decide +kernel
theorem d_Mo_up_3 : decode prog_9_method_31_code 3 = .ok (.invokestatic 163, 3) := by decide +kernel
theorem d_Mo_up_6 : decode prog_9_method_31_code 6 = .ok (.ifCond .ne (5), 3) := by decide +kernel
theorem d_Mo_up_9 : decode prog_9_method_31_code 9 = .ok (.iconst (-1), 1) := by decide +kernel
theorem d_Mo_up_10 : decode prog_9_method_31_code 10 = .ok (.ireturn, 1) := by decide +kernel
theorem d_Mo_up_11 : decode prog_9_method_31_code 11 = .ok (.aload_n 0, 1) := by decide +kernel
theorem d_Mo_up_12 : decode prog_9_method_31_code 12 = .ok (.getfield 7, 3) := by decide +kernel
theorem d_Mo_up_15 : decode prog_9_method_31_code 15 = .ok (.iload_n 1, 1) := by decide +kernel
theorem d_Mo_up_16 : decode prog_9_method_31_code 16 = .ok (.baload, 1) := by decide +kernel
theorem d_Mo_up_17 : decode prog_9_method_31_code 17 = .ok (.ifCond .eq (6), 3) := by decide +kernel
theorem d_Mo_up_20 : decode prog_9_method_31_code 20 = .ok (.bipush (-2), 2) := by decide +kernel
theorem d_Mo_up_22 : decode prog_9_method_31_code 22 = .ok (.ireturn, 1) := by decide +kernel
theorem d_Mo_up_23 : decode prog_9_method_31_code 23 = .ok (.aload_n 0, 1) := by decide +kernel
theorem d_Mo_up_24 : decode prog_9_method_31_code 24 = .ok (.getfield 7, 3) := by decide +kernel
theorem d_Mo_up_27 : decode prog_9_method_31_code 27 = .ok (.iload_n 1, 1) := by decide +kernel
theorem d_Mo_up_28 : decode prog_9_method_31_code 28 = .ok (.iconst 1, 1) := by decide +kernel
theorem d_Mo_up_29 : decode prog_9_method_31_code 29 = .ok (.bastore, 1) := by decide +kernel
theorem d_Mo_up_30 : decode prog_9_method_31_code 30 = .ok (.iconst 0, 1) := by decide +kernel
theorem d_Mo_up_31 : decode prog_9_method_31_code 31 = .ok (.istore_n 2, 1) := by decide +kernel
theorem d_Mo_up_32 : decode prog_9_method_31_code 32 = .ok (.iconst 0, 1) := by decide +kernel
theorem d_Mo_up_33 : decode prog_9_method_31_code 33 = .ok (.istore_n 3, 1) := by decide +kernel
theorem d_Mo_up_34 : decode prog_9_method_31_code 34 = .ok (.iload_n 3, 1) := by decide +kernel
theorem d_Mo_up_35 : decode prog_9_method_31_code 35 = .ok (.aload_n 0, 1) := by decide +kernel
theorem d_Mo_up_36 : decode prog_9_method_31_code 36 = .ok (.getfield 169, 3) := by decide +kernel
theorem d_Mo_up_39 : decode prog_9_method_31_code 39 = .ok (.if_icmp .ge (51), 3) := by decide +kernel
theorem d_Mo_up_42 : decode prog_9_method_31_code 42 = .ok (.aload_n 0, 1) := by decide +kernel
theorem d_Mo_up_43 : decode prog_9_method_31_code 43 = .ok (.getfield 48, 3) := by decide +kernel
theorem d_Mo_up_46 : decode prog_9_method_31_code 46 = .ok (.iload_n 3, 1) := by decide +kernel
theorem d_Mo_up_47 : decode prog_9_method_31_code 47 = .ok (.iaload, 1) := by decide +kernel
theorem d_Mo_up_48 : decode prog_9_method_31_code 48 = .ok (.ifCond .ne (36), 3) := by decide +kernel
theorem d_Mo_up_51 : decode prog_9_method_31_code 51 = .ok (.aload_n 0, 1) := by decide +kernel
theorem d_Mo_up_52 : decode prog_9_method_31_code 52 = .ok (.getfield 42, 3) := by decide +kernel
theorem d_Mo_up_55 : decode prog_9_method_31_code 55 = .ok (.iload_n 3, 1) := by decide +kernel
theorem d_Mo_up_56 : decode prog_9_method_31_code 56 = .ok (.iaload, 1) := by decide +kernel
theorem d_Mo_up_57 : decode prog_9_method_31_code 57 = .ok (.iload_n 1, 1) := by decide +kernel
theorem d_Mo_up_58 : decode prog_9_method_31_code 58 = .ok (.if_icmp .ne (26), 3) := by decide +kernel
theorem d_Mo_up_61 : decode prog_9_method_31_code 61 = .ok (.aload_n 0, 1) := by decide +kernel
theorem d_Mo_up_62 : decode prog_9_method_31_code 62 = .ok (.getfield 90, 3) := by decide +kernel
theorem d_Mo_up_65 : decode prog_9_method_31_code 65 = .ok (.iload_n 3, 1) := by decide +kernel
theorem d_Mo_up_66 : decode prog_9_method_31_code 66 = .ok (.iconst 0, 1) := by decide +kernel
theorem d_Mo_up_67 : decode prog_9_method_31_code 67 = .ok (.iastore, 1) := by decide +kernel
theorem d_Mo_up_68 : decode prog_9_method_31_code 68 = .ok (.aload_n 0, 1) := by decide +kernel
theorem d_Mo_up_69 : decode prog_9_method_31_code 69 = .ok (.iload_n 3, 1) := by decide +kernel
theorem d_Mo_up_70 : decode prog_9_method_31_code 70 = .ok (.invokevirtual 155, 3) := by decide +kernel
theorem d_Mo_up_73 : decode prog_9_method_31_code 73 = .ok (.ifCond .eq (9), 3) := by decide +kernel
theorem d_Mo_up_76 : decode prog_9_method_31_code 76 = .ok (.iload_n 2, 1) := by decide +kernel
theorem d_Mo_up_77 : decode prog_9_method_31_code 77 = .ok (.iconst 1, 1) := by decide +kernel
theorem d_Mo_up_78 : decode prog_9_method_31_code 78 = .ok (.iadd, 1) := by decide +kernel
theorem d_Mo_up_79 : decode prog_9_method_31_code 79 = .ok (.goto (4), 3) := by decide +kernel
theorem d_Mo_up_82 : decode prog_9_method_31_code 82 = .ok (.iload_n 2, 1) := by decide +kernel
theorem d_Mo_up_83 : decode prog_9_method_31_code 83 = .ok (.istore_n 2, 1) := by decide +kernel
theorem d_Mo_up_84 : decode prog_9_method_31_code 84 = .ok (.iinc 3 1, 3) := by decide +kernel
theorem d_Mo_up_87 : decode prog_9_method_31_code 87 = .ok (.goto (-53), 3) := by decide +kernel
theorem d_Mo_up_90 : decode prog_9_method_31_code 90 = .ok (.iload_n 2, 1) := by decide +kernel
theorem d_Mo_up_91 : decode prog_9_method_31_code 91 = .ok (.ireturn, 1) := by decide +kernel
theorem d_Mo_down_0 : decode prog_9_method_32_code 0 = .ok (.iload_n 1, 1) := by decide +kernel
theorem d_Mo_down_1 : decode prog_9_method_32_code 1 = .ok (.iconst 0, 1) := by decide +kernel
theorem d_Mo_down_2 : decode prog_9_method_32_code 2 = .ok (.iconst 3, 1) := by decide +kernel
theorem d_Mo_down_3 : decode prog_9_method_32_code 3 = .ok (.invokestatic 163, 3) := by decide +kernel
theorem d_Mo_down_6 : decode prog_9_method_32_code 6 = .ok (.ifCond .ne (5), 3) := by decide +kernel
theorem d_Mo_down_9 : decode prog_9_method_32_code 9 = .ok (.iconst (-1), 1) := by decide +kernel
theorem d_Mo_down_10 : decode prog_9_method_32_code 10 = .ok (.ireturn, 1) := by decide +kernel
theorem d_Mo_down_11 : decode prog_9_method_32_code 11 = .ok (.aload_n 0, 1) := by decide +kernel
theorem d_Mo_down_12 : decode prog_9_method_32_code 12 = .ok (.getfield 7, 3) := by decide +kernel
theorem d_Mo_down_15 : decode prog_9_method_32_code 15 = .ok (.iload_n 1, 1) := by decide +kernel
theorem d_Mo_down_16 : decode prog_9_method_32_code 16 = .ok (.baload, 1) := by decide +kernel
theorem d_Mo_down_17 : decode prog_9_method_32_code 17 = .ok (.ifCond .ne (6), 3) := by decide +kernel
theorem d_Mo_down_20 : decode prog_9_method_32_code 20 = .ok (.bipush (-2), 2) := by decide +kernel
theorem d_Mo_down_22 : decode prog_9_method_32_code 22 = .ok (.ireturn, 1) := by decide +kernel
theorem d_Mo_down_23 : decode prog_9_method_32_code 23 = .ok (.aload_n 0, 1) := by decide +kernel
theorem d_Mo_down_24 : decode prog_9_method_32_code 24 = .ok (.iload_n 1, 1) := by decide +kernel
theorem d_Mo_down_25 : decode prog_9_method_32_code 25 = .ok (.invokevirtual 217, 3) := by decide +kernel
theorem d_Mo_down_28 : decode prog_9_method_32_code 28 = .ok (.iconst 1, 1) := by decide +kernel
theorem d_Mo_down_29 : decode prog_9_method_32_code 29 = .ok (.ireturn, 1) := by decide +kernel
theorem d_Mo_tick_0 : decode prog_9_method_33_code 0 = .ok (.iload_n 1, 1) := by decide +kernel
theorem d_Mo_tick_1 : decode prog_9_method_33_code 1 = .ok (.iconst 0, 1) := by decide +kernel
theorem d_Mo_tick_2 : decode prog_9_method_33_code 2 = .ok (.sipush 1000, 3) := by decide +kernel
theorem d_Mo_tick_5 : decode prog_9_method_33_code 5 = .ok (.invokestatic 163, 3) := by decide +kernel
theorem d_Mo_tick_8 : decode prog_9_method_33_code 8 = .ok (.ifCond .ne (5), 3) := by decide +kernel
theorem d_Mo_tick_11 : decode prog_9_method_33_code 11 = .ok (.iconst (-1), 1) := by decide +kernel
theorem d_Mo_tick_12 : decode prog_9_method_33_code 12 = .ok (.ireturn, 1) := by decide +kernel
theorem d_Mo_tick_13 : decode prog_9_method_33_code 13 = .ok (.iconst 0, 1) := by decide +kernel
theorem d_Mo_tick_14 : decode prog_9_method_33_code 14 = .ok (.istore_n 2, 1) := by decide +kernel
theorem d_Mo_tick_15 : decode prog_9_method_33_code 15 = .ok (.iconst 0, 1) := by decide +kernel
theorem d_Mo_tick_16 : decode prog_9_method_33_code 16 = .ok (.istore_n 3, 1) := by decide +kernel
theorem d_Mo_tick_17 : decode prog_9_method_33_code 17 = .ok (.iload_n 3, 1) := by decide +kernel
theorem d_Mo_tick_18 : decode prog_9_method_33_code 18 = .ok (.iload_n 1, 1) := by decide +kernel
theorem d_Mo_tick_19 : decode prog_9_method_33_code 19 = .ok (.if_icmp .ge (111), 3) := by decide +kernel
theorem d_Mo_tick_22 : decode prog_9_method_33_code 22 = .ok (.aload_n 0, 1) := by decide +kernel
theorem d_Mo_tick_23 : decode prog_9_method_33_code 23 = .ok (.dup, 1) := by decide +kernel
theorem d_Mo_tick_24 : decode prog_9_method_33_code 24 = .ok (.getfield 148, 3) := by decide +kernel
theorem d_Mo_tick_27 : decode prog_9_method_33_code 27 = .ok (.iconst 1, 1) := by decide +kernel
theorem d_Mo_tick_28 : decode prog_9_method_33_code 28 = .ok (.iadd, 1) := by decide +kernel
theorem d_Mo_tick_29 : decode prog_9_method_33_code 29 = .ok (.putfield 148, 3) := by decide +kernel
theorem d_Mo_tick_32 : decode prog_9_method_33_code 32 = .ok (.iconst 0, 1) := by decide +kernel
theorem d_Mo_tick_33 : decode prog_9_method_33_code 33 = .ok (.istore 4, 2) := by decide +kernel
theorem d_Mo_tick_35 : decode prog_9_method_33_code 35 = .ok (.iload 4, 2) := by decide +kernel
theorem d_Mo_tick_37 : decode prog_9_method_33_code 37 = .ok (.aload_n 0, 1) := by decide +kernel
theorem d_Mo_tick_38 : decode prog_9_method_33_code 38 = .ok (.getfield 169, 3) := by decide +kernel
theorem d_Mo_tick_41 : decode prog_9_method_33_code 41 = .ok (.if_icmp .ge (83), 3) := by decide +kernel
theorem d_Mo_tick_44 : decode prog_9_method_33_code 44 = .ok (.aload_n 0, 1) := by decide +kernel
theorem d_Mo_tick_45 : decode prog_9_method_33_code 45 = .ok (.getfield 48, 3) := by decide +kernel
theorem d_Mo_tick_48 : decode prog_9_method_33_code 48 = .ok (.iload 4, 2) := by decide +kernel
theorem d_Mo_tick_50 : decode prog_9_method_33_code 50 = .ok (.iaload, 1) := by decide +kernel
theorem d_Mo_tick_51 : decode prog_9_method_33_code 51 = .ok (.ifCond .ne (67), 3) := by decide +kernel
theorem d_Mo_tick_54 : decode prog_9_method_33_code 54 = .ok (.aload_n 0, 1) := by decide +kernel
theorem d_Mo_tick_55 : decode prog_9_method_33_code 55 = .ok (.getfield 148, 3) := by decide +kernel
theorem d_Mo_tick_58 : decode prog_9_method_33_code 58 = .ok (.aload_n 0, 1) := by decide +kernel
theorem d_Mo_tick_59 : decode prog_9_method_33_code 59 = .ok (.getfield 93, 3) := by decide +kernel
theorem d_Mo_tick_62 : decode prog_9_method_33_code 62 = .ok (.iload 4, 2) := by decide +kernel
theorem d_Mo_tick_64 : decode prog_9_method_33_code 64 = .ok (.iaload, 1) := by decide +kernel
theorem d_Mo_tick_65 : decode prog_9_method_33_code 65 = .ok (.isub, 1) := by decide +kernel
theorem d_Mo_tick_66 : decode prog_9_method_33_code 66 = .ok (.aload_n 0, 1) := by decide +kernel
theorem d_Mo_tick_67 : decode prog_9_method_33_code 67 = .ok (.getfield 30, 3) := by decide +kernel
theorem d_Mo_tick_70 : decode prog_9_method_33_code 70 = .ok (.if_icmp .lt (48), 3) := by decide +kernel
theorem d_Mo_tick_73 : decode prog_9_method_33_code 73 = .ok (.aload_n 0, 1) := by decide +kernel
theorem d_Mo_tick_74 : decode prog_9_method_33_code 74 = .ok (.getfield 90, 3) := by decide +kernel
theorem d_Mo_tick_77 : decode prog_9_method_33_code 77 = .ok (.iload 4, 2) := by decide +kernel
theorem d_Mo_tick_79 : decode prog_9_method_33_code 79 = .ok (.iaload, 1) := by decide +kernel
theorem d_Mo_tick_80 : decode prog_9_method_33_code 80 = .ok (.aload_n 0, 1) := by decide +kernel
theorem d_Mo_tick_81 : decode prog_9_method_33_code 81 = .ok (.getfield 33, 3) := by decide +kernel
theorem d_Mo_tick_84 : decode prog_9_method_33_code 84 = .ok (.if_icmp .lt (16), 3) := by decide +kernel
theorem d_Mo_tick_87 : decode prog_9_method_33_code 87 = .ok (.aload_n 0, 1) := by decide +kernel
theorem d_Mo_tick_88 : decode prog_9_method_33_code 88 = .ok (.iload 4, 2) := by decide +kernel
theorem d_Mo_tick_90 : decode prog_9_method_33_code 90 = .ok (.iconst 1, 1) := by decide +kernel
theorem d_Mo_tick_91 : decode prog_9_method_33_code 91 = .ok (.invokevirtual 178, 3) := by decide +kernel
theorem d_Mo_tick_94 : decode prog_9_method_33_code 94 = .ok (.iinc 2 1, 3) := by decide +kernel
theorem d_Mo_tick_97 : decode prog_9_method_33_code 97 = .ok (.goto (21), 3) := by decide +kernel
theorem d_Mo_tick_100 : decode prog_9_method_33_code 100 = .ok (.aload_n 0, 1) := by decide +kernel
theorem d_Mo_tick_101 : decode prog_9_method_33_code 101 = .ok (.getfield 90, 3) := by decide +kernel
theorem d_Mo_tick_104 : decode prog_9_method_33_code 104 = .ok (.iload 4, 2) := by decide +kernel
theorem d_Mo_tick_106 : decode prog_9_method_33_code 106 = .ok (.dup2, 1) := by decide +kernel
theorem d_Mo_tick_107 : decode prog_9_method_33_code 107 = .ok (.iaload, 1) := by decide +kernel
theorem d_Mo_tick_108 : decode prog_9_method_33_code 108 = .ok (.iconst 1, 1) := by decide +kernel
theorem d_Mo_tick_109 : decode prog_9_method_33_code 109 = .ok (.iadd, 1) := by decide +kernel
theorem d_Mo_tick_110 : decode prog_9_method_33_code 110 = .ok (.iastore, 1) := by decide +kernel
theorem d_Mo_tick_111 : decode prog_9_method_33_code 111 = .ok (.aload_n 0, 1) := by decide +kernel
theorem d_Mo_tick_112 : decode prog_9_method_33_code 112 = .ok (.iload 4, 2) := by decide +kernel
theorem d_Mo_tick_114 : decode prog_9_method_33_code 114 = .ok (.invokevirtual 155, 3) := by decide +kernel
theorem d_Mo_tick_117 : decode prog_9_method_33_code 117 = .ok (.pop, 1) := by decide +kernel
theorem d_Mo_tick_118 : decode prog_9_method_33_code 118 = .ok (.iinc 4 1, 3) := by decide +kernel
theorem d_Mo_tick_121 : decode prog_9_method_33_code 121 = .ok (.goto (-86), 3) := by decide +kernel
theorem d_Mo_tick_124 : decode prog_9_method_33_code 124 = .ok (.iinc 3 1, 3) := by decide +kernel
theorem d_Mo_tick_127 : decode prog_9_method_33_code 127 = .ok (.goto (-110), 3) := by decide +kernel
theorem d_Mo_tick_130 : decode prog_9_method_33_code 130 = .ok (.iload_n 2, 1) := by decide +kernel
theorem d_Mo_tick_131 : decode prog_9_method_33_code 131 = .ok (.ireturn, 1) := by decide +kernel
theorem d_Mo_joinedOnes_0 : decode prog_9_method_34_code 0 = .ok (.iconst 0, 1) := by decide +kernel
theorem d_Mo_joinedOnes_1 : decode prog_9_method_34_code 1 = .ok (.istore 4, 2) := by decide +kernel
theorem d_Mo_joinedOnes_3 : decode prog_9_method_34_code 3 = .ok (.iconst 0, 1) := by decide +kernel
theorem d_Mo_joinedOnes_4 : decode prog_9_method_34_code 4 = .ok (.istore 5, 2) := by decide +kernel
theorem d_Mo_joinedOnes_6 : decode prog_9_method_34_code 6 = .ok (.iload 5, 2) := by decide +kernel
theorem d_Mo_joinedOnes_8 : decode prog_9_method_34_code 8 = .ok (.aload_n 0, 1) := by decide +kernel
theorem d_Mo_joinedOnes_9 : decode prog_9_method_34_code 9 = .ok (.getfield 54, 3) := by decide +kernel
theorem d_Mo_joinedOnes_12 : decode prog_9_method_34_code 12 = .ok (.iload_n 1, 1) := by decide +kernel
theorem d_Mo_joinedOnes_13 : decode prog_9_method_34_code 13 = .ok (.iaload, 1) := by decide +kernel
theorem d_Mo_joinedOnes_14 : decode prog_9_method_34_code 14 = .ok (.if_icmp .ge (135), 3) := by decide +kernel
theorem d_Mo_joinedOnes_17 : decode prog_9_method_34_code 17 = .ok (.aload_n 0, 1) := by decide +kernel
theorem d_Mo_joinedOnes_18 : decode prog_9_method_34_code 18 = .ok (.iload_n 1, 1) := by decide +kernel
theorem d_Mo_joinedOnes_19 : decode prog_9_method_34_code 19 = .ok (.invokevirtual 237, 3) := by decide +kernel
theorem d_Mo_joinedOnes_22 : decode prog_9_method_34_code 22 = .ok (.ifCond .eq (33), 3) := by decide +kernel
theorem d_Mo_joinedOnes_25 : decode prog_9_method_34_code 25 = .ok (.iload 4, 2) := by decide +kernel
theorem d_Mo_joinedOnes_27 : decode prog_9_method_34_code 27 = .ok (.iload_n 2, 1) := by decide +kernel
theorem d_Mo_joinedOnes_28 : decode prog_9_method_34_code 28 = .ok (.if_icmp .ne (24), 3) := by decide +kernel
theorem d_Mo_joinedOnes_31 : decode prog_9_method_34_code 31 = .ok (.iload_n 3, 1) := by decide +kernel
theorem d_Mo_joinedOnes_32 : decode prog_9_method_34_code 32 = .ok (.ifCond .ne (18), 3) := by decide +kernel
theorem d_Mo_joinedOnes_35 : decode prog_9_method_34_code 35 = .ok (.aload_n 0, 1) := by decide +kernel
theorem d_Mo_joinedOnes_36 : decode prog_9_method_34_code 36 = .ok (.getfield 60, 3) := by decide +kernel
theorem d_Mo_joinedOnes_39 : decode prog_9_method_34_code 39 = .ok (.bipush 20, 2) := by decide +kernel
theorem d_Mo_joinedOnes_41 : decode prog_9_method_34_code 41 = .ok (.iload_n 1, 1) := by decide +kernel
theorem d_Mo_joinedOnes_42 : decode prog_9_method_34_code 42 = .ok (.imul, 1) := by decide +kernel
theorem d_Mo_joinedOnes_43 : decode prog_9_method_34_code 43 = .ok (.iload 5, 2) := by decide +kernel
theorem d_Mo_joinedOnes_45 : decode prog_9_method_34_code 45 = .ok (.iadd, 1) := by decide +kernel
theorem d_Mo_joinedOnes_46 : decode prog_9_method_34_code 46 = .ok (.iaload, 1) := by decide +kernel
theorem d_Mo_joinedOnes_47 : decode prog_9_method_34_code 47 = .ok (.goto (4), 3) := by decide +kernel
theorem d_Mo_joinedOnes_50 : decode prog_9_method_34_code 50 = .ok (.iconst (-1), 1) := by decide +kernel
theorem d_Mo_joinedOnes_51 : decode prog_9_method_34_code 51 = .ok (.ireturn, 1) := by decide +kernel
theorem d_Mo_joinedOnes_52 : decode prog_9_method_34_code 52 = .ok (.iinc 4 1, 3) := by decide +kernel
theorem d_Mo_joinedOnes_55 : decode prog_9_method_34_code 55 = .ok (.iconst 0, 1) := by decide +kernel
theorem d_Mo_joinedOnes_56 : decode prog_9_method_34_code 56 = .ok (.istore 6, 2) := by decide +kernel
theorem d_Mo_joinedOnes_58 : decode prog_9_method_34_code 58 = .ok (.iload 6, 2) := by decide +kernel
theorem d_Mo_joinedOnes_60 : decode prog_9_method_34_code 60 = .ok (.aload_n 0, 1) := by decide +kernel
theorem d_Mo_joinedOnes_61 : decode prog_9_method_34_code 61 = .ok (.getfield 75, 3) := by decide +kernel
theorem d_Mo_joinedOnes_64 : decode prog_9_method_34_code 64 = .ok (.iload_n 1, 1) := by decide +kernel
theorem d_Mo_joinedOnes_65 : decode prog_9_method_34_code 65 = .ok (.iaload, 1) := by decide +kernel
theorem d_Mo_joinedOnes_66 : decode prog_9_method_34_code 66 = .ok (.if_icmp .ge (77), 3) := by decide +kernel
theorem d_Mo_joinedOnes_69 : decode prog_9_method_34_code 69 = .ok (.aload_n 0, 1) := by decide +kernel
theorem d_Mo_joinedOnes_70 : decode prog_9_method_34_code 70 = .ok (.getfield 78, 3) := by decide +kernel
theorem d_Mo_joinedOnes_73 : decode prog_9_method_34_code 73 = .ok (.bipush 60, 2) := by decide +kernel
theorem d_Mo_joinedOnes_75 : decode prog_9_method_34_code 75 = .ok (.iload_n 1, 1) := by decide +kernel
theorem d_Mo_joinedOnes_76 : decode prog_9_method_34_code 76 = .ok (.imul, 1) := by decide +kernel
theorem d_Mo_joinedOnes_77 : decode prog_9_method_34_code 77 = .ok (.iload 6, 2) := by decide +kernel
theorem d_Mo_joinedOnes_79 : decode prog_9_method_34_code 79 = .ok (.iadd, 1) := by decide +kernel
theorem d_Mo_joinedOnes_80 : decode prog_9_method_34_code 80 = .ok (.iaload, 1) := by decide +kernel
theorem d_Mo_joinedOnes_81 : decode prog_9_method_34_code 81 = .ok (.aload_n 0, 1) := by decide +kernel
theorem d_Mo_joinedOnes_82 : decode prog_9_method_34_code 82 = .ok (.getfield 57, 3) := by decide +kernel
theorem d_Mo_joinedOnes_85 : decode prog_9_method_34_code 85 = .ok (.bipush 20, 2) := by decide +kernel
theorem d_Mo_joinedOnes_87 : decode prog_9_method_34_code 87 = .ok (.iload_n 1, 1) := by decide +kernel
theorem d_Mo_joinedOnes_88 : decode prog_9_method_34_code 88 = .ok (.imul, 1) := by decide +kernel
theorem d_Mo_joinedOnes_89 : decode prog_9_method_34_code 89 = .ok (.iload 5, 2) := by decide +kernel
theorem d_Mo_joinedOnes_91 : decode prog_9_method_34_code 91 = .ok (.iadd, 1) := by decide +kernel
theorem d_Mo_joinedOnes_92 : decode prog_9_method_34_code 92 = .ok (.iaload, 1) := by decide +kernel
theorem d_Mo_joinedOnes_93 : decode prog_9_method_34_code 93 = .ok (.if_icmp .ne (44), 3) := by decide +kernel
theorem d_Mo_joinedOnes_96 : decode prog_9_method_34_code 96 = .ok (.iload 4, 2) := by decide +kernel
theorem d_Mo_joinedOnes_98 : decode prog_9_method_34_code 98 = .ok (.iload_n 2, 1) := by decide +kernel
theorem d_Mo_joinedOnes_99 : decode prog_9_method_34_code 99 = .ok (.if_icmp .ne (35), 3) := by decide +kernel
theorem d_Mo_joinedOnes_102 : decode prog_9_method_34_code 102 = .ok (.iload_n 3, 1) := by decide +kernel
theorem d_Mo_joinedOnes_103 : decode prog_9_method_34_code 103 = .ok (.ifCond .ne (18), 3) := by decide +kernel
theorem d_Mo_joinedOnes_106 : decode prog_9_method_34_code 106 = .ok (.aload_n 0, 1) := by decide +kernel
theorem d_Mo_joinedOnes_107 : decode prog_9_method_34_code 107 = .ok (.getfield 60, 3) := by decide +kernel
theorem d_Mo_joinedOnes_110 : decode prog_9_method_34_code 110 = .ok (.bipush 20, 2) := by decide +kernel
theorem d_Mo_joinedOnes_112 : decode prog_9_method_34_code 112 = .ok (.iload_n 1, 1) := by decide +kernel
theorem d_Mo_joinedOnes_113 : decode prog_9_method_34_code 113 = .ok (.imul, 1) := by decide +kernel
theorem d_Mo_joinedOnes_114 : decode prog_9_method_34_code 114 = .ok (.iload 5, 2) := by decide +kernel
theorem d_Mo_joinedOnes_116 : decode prog_9_method_34_code 116 = .ok (.iadd, 1) := by decide +kernel
theorem d_Mo_joinedOnes_117 : decode prog_9_method_34_code 117 = .ok (.iaload, 1) := by decide +kernel
theorem d_Mo_joinedOnes_118 : decode prog_9_method_34_code 118 = .ok (.goto (15), 3) := by decide +kernel
theorem d_Mo_joinedOnes_121 : decode prog_9_method_34_code 121 = .ok (.aload_n 0, 1) := by decide +kernel
theorem d_Mo_joinedOnes_122 : decode prog_9_method_34_code 122 = .ok (.getfield 81, 3) := by decide +kernel
theorem d_Mo_joinedOnes_125 : decode prog_9_method_34_code 125 = .ok (.bipush 60, 2) := by decide +kernel
theorem d_Mo_joinedOnes_127 : decode prog_9_method_34_code 127 = .ok (.iload_n 1, 1) := by decide +kernel
theorem d_Mo_joinedOnes_128 : decode prog_9_method_34_code 128 = .ok (.imul, 1) := by decide +kernel
theorem d_Mo_joinedOnes_129 : decode prog_9_method_34_code 129 = .ok (.iload 6, 2) := by decide +kernel
theorem d_Mo_joinedOnes_131 : decode prog_9_method_34_code 131 = .ok (.iadd, 1) := by decide +kernel
theorem d_Mo_joinedOnes_132 : decode prog_9_method_34_code 132 = .ok (.iaload, 1) := by decide +kernel
theorem d_Mo_joinedOnes_133 : decode prog_9_method_34_code 133 = .ok (.ireturn, 1) := by decide +kernel
theorem d_Mo_joinedOnes_134 : decode prog_9_method_34_code 134 = .ok (.iinc 4 1, 3) := by decide +kernel
theorem d_Mo_joinedOnes_137 : decode prog_9_method_34_code 137 = .ok (.iinc 6 1, 3) := by decide +kernel
theorem d_Mo_joinedOnes_140 : decode prog_9_method_34_code 140 = .ok (.goto (-82), 3) := by decide +kernel
theorem d_Mo_joinedOnes_143 : decode prog_9_method_34_code 143 = .ok (.iinc 5 1, 3) := by decide +kernel
theorem d_Mo_joinedOnes_146 : decode prog_9_method_34_code 146 = .ok (.goto (-140), 3) := by decide +kernel
theorem d_Mo_joinedOnes_149 : decode prog_9_method_34_code 149 = .ok (.iload 4, 2) := by decide +kernel
theorem d_Mo_joinedOnes_151 : decode prog_9_method_34_code 151 = .ok (.ireturn, 1) := by decide +kernel
theorem d_Mo_told_0 : decode prog_9_method_35_code 0 = .ok (.iload_n 1, 1) := by decide +kernel
theorem d_Mo_told_1 : decode prog_9_method_35_code 1 = .ok (.iconst 0, 1) := by decide +kernel
theorem d_Mo_told_2 : decode prog_9_method_35_code 2 = .ok (.aload_n 0, 1) := by decide +kernel
theorem d_Mo_told_3 : decode prog_9_method_35_code 3 = .ok (.getfield 169, 3) := by decide +kernel
theorem d_Mo_told_6 : decode prog_9_method_35_code 6 = .ok (.iconst 1, 1) := by decide +kernel
theorem d_Mo_told_7 : decode prog_9_method_35_code 7 = .ok (.isub, 1) := by decide +kernel
theorem d_Mo_told_8 : decode prog_9_method_35_code 8 = .ok (.invokestatic 163, 3) := by decide +kernel
theorem d_Mo_told_11 : decode prog_9_method_35_code 11 = .ok (.ifCond .ne (5), 3) := by decide +kernel
theorem d_Mo_told_14 : decode prog_9_method_35_code 14 = .ok (.iconst (-1), 1) := by decide +kernel
theorem d_Mo_told_15 : decode prog_9_method_35_code 15 = .ok (.ireturn, 1) := by decide +kernel
theorem d_Mo_told_16 : decode prog_9_method_35_code 16 = .ok (.iload_n 2, 1) := by decide +kernel
theorem d_Mo_told_17 : decode prog_9_method_35_code 17 = .ok (.tableswitch (118) (0) (7) #[47, 54, 61, 68, 75, 97, 104, 111], 47) := by decide +kernel
theorem d_Mo_told_64 : decode prog_9_method_35_code 64 = .ok (.aload_n 0, 1) := by decide +kernel
theorem d_Mo_told_65 : decode prog_9_method_35_code 65 = .ok (.getfield 42, 3) := by decide +kernel
theorem d_Mo_told_68 : decode prog_9_method_35_code 68 = .ok (.iload_n 1, 1) := by decide +kernel
theorem d_Mo_told_69 : decode prog_9_method_35_code 69 = .ok (.iaload, 1) := by decide +kernel
theorem d_Mo_told_70 : decode prog_9_method_35_code 70 = .ok (.ireturn, 1) := by decide +kernel
theorem d_Mo_told_71 : decode prog_9_method_35_code 71 = .ok (.aload_n 0, 1) := by decide +kernel
theorem d_Mo_told_72 : decode prog_9_method_35_code 72 = .ok (.getfield 48, 3) := by decide +kernel
theorem d_Mo_told_75 : decode prog_9_method_35_code 75 = .ok (.iload_n 1, 1) := by decide +kernel
theorem d_Mo_told_76 : decode prog_9_method_35_code 76 = .ok (.iaload, 1) := by decide +kernel
theorem d_Mo_told_77 : decode prog_9_method_35_code 77 = .ok (.ireturn, 1) := by decide +kernel
theorem d_Mo_told_78 : decode prog_9_method_35_code 78 = .ok (.aload_n 0, 1) := by decide +kernel
theorem d_Mo_told_79 : decode prog_9_method_35_code 79 = .ok (.getfield 51, 3) := by decide +kernel
theorem d_Mo_told_82 : decode prog_9_method_35_code 82 = .ok (.iload_n 1, 1) := by decide +kernel
theorem d_Mo_told_83 : decode prog_9_method_35_code 83 = .ok (.iaload, 1) := by decide +kernel
theorem d_Mo_told_84 : decode prog_9_method_35_code 84 = .ok (.ireturn, 1) := by decide +kernel
theorem d_Mo_told_85 : decode prog_9_method_35_code 85 = .ok (.aload_n 0, 1) := by decide +kernel
theorem d_Mo_told_86 : decode prog_9_method_35_code 86 = .ok (.getfield 75, 3) := by decide +kernel
theorem d_Mo_told_89 : decode prog_9_method_35_code 89 = .ok (.iload_n 1, 1) := by decide +kernel
theorem d_Mo_told_90 : decode prog_9_method_35_code 90 = .ok (.iaload, 1) := by decide +kernel
theorem d_Mo_told_91 : decode prog_9_method_35_code 91 = .ok (.ireturn, 1) := by decide +kernel
theorem d_Mo_told_92 : decode prog_9_method_35_code 92 = .ok (.aload_n 0, 1) := by decide +kernel
theorem d_Mo_told_93 : decode prog_9_method_35_code 93 = .ok (.getfield 48, 3) := by decide +kernel
theorem d_Mo_told_96 : decode prog_9_method_35_code 96 = .ok (.iload_n 1, 1) := by decide +kernel
theorem d_Mo_told_97 : decode prog_9_method_35_code 97 = .ok (.iaload, 1) := by decide +kernel
theorem d_Mo_told_98 : decode prog_9_method_35_code 98 = .ok (.iconst 1, 1) := by decide +kernel
theorem d_Mo_told_99 : decode prog_9_method_35_code 99 = .ok (.if_icmp .ne (13), 3) := by decide +kernel
theorem d_Mo_told_102 : decode prog_9_method_35_code 102 = .ok (.aload_n 0, 1) := by decide +kernel
theorem d_Mo_told_103 : decode prog_9_method_35_code 103 = .ok (.iload_n 1, 1) := by decide +kernel
theorem d_Mo_told_104 : decode prog_9_method_35_code 104 = .ok (.iconst (-1), 1) := by decide +kernel
theorem d_Mo_told_105 : decode prog_9_method_35_code 105 = .ok (.iconst 0, 1) := by decide +kernel
theorem d_Mo_told_106 : decode prog_9_method_35_code 106 = .ok (.invokevirtual 240, 3) := by decide +kernel
theorem d_Mo_told_109 : decode prog_9_method_35_code 109 = .ok (.goto (4), 3) := by decide +kernel
theorem d_Mo_told_112 : decode prog_9_method_35_code 112 = .ok (.iconst 0, 1) := by decide +kernel
theorem d_Mo_told_113 : decode prog_9_method_35_code 113 = .ok (.ireturn, 1) := by decide +kernel
theorem d_Mo_told_114 : decode prog_9_method_35_code 114 = .ok (.aload_n 0, 1) := by decide +kernel
theorem d_Mo_told_115 : decode prog_9_method_35_code 115 = .ok (.getfield 87, 3) := by decide +kernel
theorem d_Mo_told_118 : decode prog_9_method_35_code 118 = .ok (.iload_n 1, 1) := by decide +kernel
theorem d_Mo_told_119 : decode prog_9_method_35_code 119 = .ok (.iaload, 1) := by decide +kernel
theorem d_Mo_told_120 : decode prog_9_method_35_code 120 = .ok (.ireturn, 1) := by decide +kernel
theorem d_Mo_told_121 : decode prog_9_method_35_code 121 = .ok (.aload_n 0, 1) := by decide +kernel
theorem d_Mo_told_122 : decode prog_9_method_35_code 122 = .ok (.getfield 90, 3) := by decide +kernel
theorem d_Mo_told_125 : decode prog_9_method_35_code 125 = .ok (.iload_n 1, 1) := by decide +kernel
theorem d_Mo_told_126 : decode prog_9_method_35_code 126 = .ok (.iaload, 1) := by decide +kernel
theorem d_Mo_told_127 : decode prog_9_method_35_code 127 = .ok (.ireturn, 1) := by decide +kernel
theorem d_Mo_told_128 : decode prog_9_method_35_code 128 = .ok (.aload_n 0, 1) := by decide +kernel
theorem d_Mo_told_129 : decode prog_9_method_35_code 129 = .ok (.getfield 63, 3) := by decide +kernel
theorem d_Mo_told_132 : decode prog_9_method_35_code 132 = .ok (.iload_n 1, 1) := by decide +kernel
theorem d_Mo_told_133 : decode prog_9_method_35_code 133 = .ok (.iaload, 1) := by decide +kernel
theorem d_Mo_told_134 : decode prog_9_method_35_code 134 = .ok (.ireturn, 1) := by decide +kernel
theorem d_Mo_told_135 : decode prog_9_method_35_code 135 = .ok (.iconst (-1), 1) := by decide +kernel
theorem d_Mo_told_136 : decode prog_9_method_35_code 136 = .ok (.ireturn, 1) := by decide +kernel
theorem d_Mo_row_0 : decode prog_9_method_36_code 0 = .ok (.iload_n 1, 1) := by decide +kernel
theorem d_Mo_row_1 : decode prog_9_method_36_code 1 = .ok (.iconst 0, 1) := by decide +kernel
theorem d_Mo_row_2 : decode prog_9_method_36_code 2 = .ok (.aload_n 0, 1) := by decide +kernel
theorem d_Mo_row_3 : decode prog_9_method_36_code 3 = .ok (.getfield 169, 3) := by decide +kernel
theorem d_Mo_row_6 : decode prog_9_method_36_code 6 = .ok (.iconst 1, 1) := by decide +kernel
theorem d_Mo_row_7 : decode prog_9_method_36_code 7 = .ok (.isub, 1) := by decide +kernel
theorem d_Mo_row_8 : decode prog_9_method_36_code 8 = .ok (.invokestatic 163, 3) := by decide +kernel
theorem d_Mo_row_11 : decode prog_9_method_36_code 11 = .ok (.ifCond .eq (12), 3) := by decide +kernel
theorem d_Mo_row_14 : decode prog_9_method_36_code 14 = .ok (.iload_n 3, 1) := by decide +kernel
theorem d_Mo_row_15 : decode prog_9_method_36_code 15 = .ok (.iconst 0, 1) := by decide +kernel
theorem d_Mo_row_16 : decode prog_9_method_36_code 16 = .ok (.iconst 1, 1) := by decide +kernel
theorem d_Mo_row_17 : decode prog_9_method_36_code 17 = .ok (.invokestatic 163, 3) := by decide +kernel
theorem d_Mo_row_20 : decode prog_9_method_36_code 20 = .ok (.ifCond .ne (5), 3) := by decide +kernel
theorem d_Mo_row_23 : decode prog_9_method_36_code 23 = .ok (.iconst (-1), 1) := by decide +kernel
theorem d_Mo_row_24 : decode prog_9_method_36_code 24 = .ok (.ireturn, 1) := by decide +kernel
theorem d_Mo_row_25 : decode prog_9_method_36_code 25 = .ok (.iload_n 2, 1) := by decide +kernel
theorem d_Mo_row_26 : decode prog_9_method_36_code 26 = .ok (.iconst 0, 1) := by decide +kernel
theorem d_Mo_row_27 : decode prog_9_method_36_code 27 = .ok (.aload_n 0, 1) := by decide +kernel
theorem d_Mo_row_28 : decode prog_9_method_36_code 28 = .ok (.getfield 75, 3) := by decide +kernel
theorem d_Mo_row_31 : decode prog_9_method_36_code 31 = .ok (.iload_n 1, 1) := by decide +kernel
theorem d_Mo_row_32 : decode prog_9_method_36_code 32 = .ok (.iaload, 1) := by decide +kernel
theorem d_Mo_row_33 : decode prog_9_method_36_code 33 = .ok (.iconst 1, 1) := by decide +kernel
theorem d_Mo_row_34 : decode prog_9_method_36_code 34 = .ok (.isub, 1) := by decide +kernel
theorem d_Mo_row_35 : decode prog_9_method_36_code 35 = .ok (.invokestatic 163, 3) := by decide +kernel
theorem d_Mo_row_38 : decode prog_9_method_36_code 38 = .ok (.ifCond .ne (6), 3) := by decide +kernel
theorem d_Mo_row_41 : decode prog_9_method_36_code 41 = .ok (.bipush (-2), 2) := by decide +kernel
theorem d_Mo_row_43 : decode prog_9_method_36_code 43 = .ok (.ireturn, 1) := by decide +kernel
theorem d_Mo_row_44 : decode prog_9_method_36_code 44 = .ok (.iload_n 3, 1) := by decide +kernel
theorem d_Mo_row_45 : decode prog_9_method_36_code 45 = .ok (.ifCond .ne (17), 3) := by decide +kernel
theorem d_Mo_row_48 : decode prog_9_method_36_code 48 = .ok (.aload_n 0, 1) := by decide +kernel
theorem d_Mo_row_49 : decode prog_9_method_36_code 49 = .ok (.getfield 78, 3) := by decide +kernel
theorem d_Mo_row_52 : decode prog_9_method_36_code 52 = .ok (.bipush 60, 2) := by decide +kernel
theorem d_Mo_row_54 : decode prog_9_method_36_code 54 = .ok (.iload_n 1, 1) := by decide +kernel
theorem d_Mo_row_55 : decode prog_9_method_36_code 55 = .ok (.imul, 1) := by decide +kernel
theorem d_Mo_row_56 : decode prog_9_method_36_code 56 = .ok (.iload_n 2, 1) := by decide +kernel
theorem d_Mo_row_57 : decode prog_9_method_36_code 57 = .ok (.iadd, 1) := by decide +kernel
theorem d_Mo_row_58 : decode prog_9_method_36_code 58 = .ok (.iaload, 1) := by decide +kernel
theorem d_Mo_row_59 : decode prog_9_method_36_code 59 = .ok (.goto (14), 3) := by decide +kernel
theorem d_Mo_row_62 : decode prog_9_method_36_code 62 = .ok (.aload_n 0, 1) := by decide +kernel
theorem d_Mo_row_63 : decode prog_9_method_36_code 63 = .ok (.getfield 81, 3) := by decide +kernel
theorem d_Mo_row_66 : decode prog_9_method_36_code 66 = .ok (.bipush 60, 2) := by decide +kernel
theorem d_Mo_row_68 : decode prog_9_method_36_code 68 = .ok (.iload_n 1, 1) := by decide +kernel
theorem d_Mo_row_69 : decode prog_9_method_36_code 69 = .ok (.imul, 1) := by decide +kernel
theorem d_Mo_row_70 : decode prog_9_method_36_code 70 = .ok (.iload_n 2, 1) := by decide +kernel
theorem d_Mo_row_71 : decode prog_9_method_36_code 71 = .ok (.iadd, 1) := by decide +kernel
theorem d_Mo_row_72 : decode prog_9_method_36_code 72 = .ok (.iaload, 1) := by decide +kernel
theorem d_Mo_row_73 : decode prog_9_method_36_code 73 = .ok (.ireturn, 1) := by decide +kernel
theorem d_Mo_joined_0 : decode prog_9_method_37_code 0 = .ok (.iload_n 1, 1) := by decide +kernel
theorem d_Mo_joined_1 : decode prog_9_method_37_code 1 = .ok (.iconst 0, 1) := by decide +kernel
theorem d_Mo_joined_2 : decode prog_9_method_37_code 2 = .ok (.aload_n 0, 1) := by decide +kernel
theorem d_Mo_joined_3 : decode prog_9_method_37_code 3 = .ok (.getfield 169, 3) := by decide +kernel
theorem d_Mo_joined_6 : decode prog_9_method_37_code 6 = .ok (.iconst 1, 1) := by decide +kernel
theorem d_Mo_joined_7 : decode prog_9_method_37_code 7 = .ok (.isub, 1) := by decide +kernel
theorem d_Mo_joined_8 : decode prog_9_method_37_code 8 = .ok (.invokestatic 163, 3) := by decide +kernel
theorem d_Mo_joined_11 : decode prog_9_method_37_code 11 = .ok (.ifCond .eq (12), 3) := by decide +kernel
theorem d_Mo_joined_14 : decode prog_9_method_37_code 14 = .ok (.iload_n 3, 1) := by decide +kernel
theorem d_Mo_joined_15 : decode prog_9_method_37_code 15 = .ok (.iconst 0, 1) := by decide +kernel
theorem d_Mo_joined_16 : decode prog_9_method_37_code 16 = .ok (.iconst 1, 1) := by decide +kernel
theorem d_Mo_joined_17 : decode prog_9_method_37_code 17 = .ok (.invokestatic 163, 3) := by decide +kernel
theorem d_Mo_joined_20 : decode prog_9_method_37_code 20 = .ok (.ifCond .ne (5), 3) := by decide +kernel
theorem d_Mo_joined_23 : decode prog_9_method_37_code 23 = .ok (.iconst (-1), 1) := by decide +kernel
theorem d_Mo_joined_24 : decode prog_9_method_37_code 24 = .ok (.ireturn, 1) := by decide +kernel
theorem d_Mo_joined_25 : decode prog_9_method_37_code 25 = .ok (.aload_n 0, 1) := by decide +kernel
theorem d_Mo_joined_26 : decode prog_9_method_37_code 26 = .ok (.getfield 48, 3) := by decide +kernel
theorem d_Mo_joined_29 : decode prog_9_method_37_code 29 = .ok (.iload_n 1, 1) := by decide +kernel
theorem d_Mo_joined_30 : decode prog_9_method_37_code 30 = .ok (.iaload, 1) := by decide +kernel
theorem d_Mo_joined_31 : decode prog_9_method_37_code 31 = .ok (.iconst 1, 1) := by decide +kernel
theorem d_Mo_joined_32 : decode prog_9_method_37_code 32 = .ok (.if_icmp .ne (20), 3) := by decide +kernel
theorem d_Mo_joined_35 : decode prog_9_method_37_code 35 = .ok (.iload_n 2, 1) := by decide +kernel
theorem d_Mo_joined_36 : decode prog_9_method_37_code 36 = .ok (.iconst 0, 1) := by decide +kernel
theorem d_Mo_joined_37 : decode prog_9_method_37_code 37 = .ok (.aload_n 0, 1) := by decide +kernel
theorem d_Mo_joined_38 : decode prog_9_method_37_code 38 = .ok (.iload_n 1, 1) := by decide +kernel
theorem d_Mo_joined_39 : decode prog_9_method_37_code 39 = .ok (.iconst (-1), 1) := by decide +kernel
theorem d_Mo_joined_40 : decode prog_9_method_37_code 40 = .ok (.iconst 0, 1) := by decide +kernel
theorem d_Mo_joined_41 : decode prog_9_method_37_code 41 = .ok (.invokevirtual 240, 3) := by decide +kernel
theorem d_Mo_joined_44 : decode prog_9_method_37_code 44 = .ok (.iconst 1, 1) := by decide +kernel
theorem d_Mo_joined_45 : decode prog_9_method_37_code 45 = .ok (.isub, 1) := by decide +kernel
theorem d_Mo_joined_46 : decode prog_9_method_37_code 46 = .ok (.invokestatic 163, 3) := by decide +kernel
theorem d_Mo_joined_49 : decode prog_9_method_37_code 49 = .ok (.ifCond .ne (8), 3) := by decide +kernel
theorem d_Mo_joined_52 : decode prog_9_method_37_code 52 = .ok (.bipush (-2), 2) := by decide +kernel
theorem d_Mo_joined_54 : decode prog_9_method_37_code 54 = .ok (.goto (10), 3) := by decide +kernel
theorem d_Mo_joined_57 : decode prog_9_method_37_code 57 = .ok (.aload_n 0, 1) := by decide +kernel
theorem d_Mo_joined_58 : decode prog_9_method_37_code 58 = .ok (.iload_n 1, 1) := by decide +kernel
theorem d_Mo_joined_59 : decode prog_9_method_37_code 59 = .ok (.iload_n 2, 1) := by decide +kernel
theorem d_Mo_joined_60 : decode prog_9_method_37_code 60 = .ok (.iload_n 3, 1) := by decide +kernel
theorem d_Mo_joined_61 : decode prog_9_method_37_code 61 = .ok (.invokevirtual 240, 3) := by decide +kernel
theorem d_Mo_joined_64 : decode prog_9_method_37_code 64 = .ok (.ireturn, 1) := by decide +kernel
theorem d_Mo_estimate_0 : decode prog_9_method_38_code 0 = .ok (.iload_n 1, 1) := by decide +kernel
theorem d_Mo_estimate_1 : decode prog_9_method_38_code 1 = .ok (.iconst 0, 1) := by decide +kernel
theorem d_Mo_estimate_2 : decode prog_9_method_38_code 2 = .ok (.iconst 3, 1) := by decide +kernel
theorem d_Mo_estimate_3 : decode prog_9_method_38_code 3 = .ok (.invokestatic 163, 3) := by decide +kernel
theorem d_Mo_estimate_6 : decode prog_9_method_38_code 6 = .ok (.ifCond .eq (12), 3) := by decide +kernel
theorem d_Mo_estimate_9 : decode prog_9_method_38_code 9 = .ok (.aload_n 0, 1) := by decide +kernel
theorem d_Mo_estimate_10 : decode prog_9_method_38_code 10 = .ok (.getfield 105, 3) := by decide +kernel
theorem d_Mo_estimate_13 : decode prog_9_method_38_code 13 = .ok (.iload_n 1, 1) := by decide +kernel
theorem d_Mo_estimate_14 : decode prog_9_method_38_code 14 = .ok (.iaload, 1) := by decide +kernel
theorem d_Mo_estimate_15 : decode prog_9_method_38_code 15 = .ok (.goto (4), 3) := by decide +kernel
theorem d_Mo_estimate_18 : decode prog_9_method_38_code 18 = .ok (.iconst (-1), 1) := by decide +kernel
theorem d_Mo_estimate_19 : decode prog_9_method_38_code 19 = .ok (.ireturn, 1) := by decide +kernel
theorem d_Mo_count_0 : decode prog_9_method_39_code 0 = .ok (.iload_n 1, 1) := by decide +kernel
theorem d_Mo_count_1 : decode prog_9_method_39_code 1 = .ok (.tableswitch (87) (0) (7) #[47, 52, 57, 62, 67, 72, 77, 82], 47) := by decide +kernel
theorem d_Mo_count_48 : decode prog_9_method_39_code 48 = .ok (.aload_n 0, 1) := by decide +kernel
theorem d_Mo_count_49 : decode prog_9_method_39_code 49 = .ok (.getfield 169, 3) := by decide +kernel
theorem d_Mo_count_52 : decode prog_9_method_39_code 52 = .ok (.ireturn, 1) := by decide +kernel
theorem d_Mo_count_53 : decode prog_9_method_39_code 53 = .ok (.aload_n 0, 1) := by decide +kernel
theorem d_Mo_count_54 : decode prog_9_method_39_code 54 = .ok (.getfield 184, 3) := by decide +kernel
theorem d_Mo_count_57 : decode prog_9_method_39_code 57 = .ok (.ireturn, 1) := by decide +kernel
theorem d_Mo_count_58 : decode prog_9_method_39_code 58 = .ok (.aload_n 0, 1) := by decide +kernel
theorem d_Mo_count_59 : decode prog_9_method_39_code 59 = .ok (.getfield 166, 3) := by decide +kernel
theorem d_Mo_count_62 : decode prog_9_method_39_code 62 = .ok (.ireturn, 1) := by decide +kernel
theorem d_Mo_count_63 : decode prog_9_method_39_code 63 = .ok (.aload_n 0, 1) := by decide +kernel
theorem d_Mo_count_64 : decode prog_9_method_39_code 64 = .ok (.getfield 148, 3) := by decide +kernel
theorem d_Mo_count_67 : decode prog_9_method_39_code 67 = .ok (.ireturn, 1) := by decide +kernel
theorem d_Mo_count_68 : decode prog_9_method_39_code 68 = .ok (.aload_n 0, 1) := by decide +kernel
theorem d_Mo_count_69 : decode prog_9_method_39_code 69 = .ok (.getfield 227, 3) := by decide +kernel
theorem d_Mo_count_72 : decode prog_9_method_39_code 72 = .ok (.ireturn, 1) := by decide +kernel
theorem d_Mo_count_73 : decode prog_9_method_39_code 73 = .ok (.aload_n 0, 1) := by decide +kernel
theorem d_Mo_count_74 : decode prog_9_method_39_code 74 = .ok (.getfield 141, 3) := by decide +kernel
theorem d_Mo_count_77 : decode prog_9_method_39_code 77 = .ok (.ireturn, 1) := by decide +kernel
theorem d_Mo_count_78 : decode prog_9_method_39_code 78 = .ok (.aload_n 0, 1) := by decide +kernel
theorem d_Mo_count_79 : decode prog_9_method_39_code 79 = .ok (.getfield 200, 3) := by decide +kernel
theorem d_Mo_count_82 : decode prog_9_method_39_code 82 = .ok (.ireturn, 1) := by decide +kernel
theorem d_Mo_count_83 : decode prog_9_method_39_code 83 = .ok (.aload_n 0, 1) := by decide +kernel
theorem d_Mo_count_84 : decode prog_9_method_39_code 84 = .ok (.getfield 187, 3) := by decide +kernel
theorem d_Mo_count_87 : decode prog_9_method_39_code 87 = .ok (.ireturn, 1) := by decide +kernel
theorem d_Mo_count_88 : decode prog_9_method_39_code 88 = .ok (.iconst (-1), 1) := by decide +kernel
theorem d_Mo_count_89 : decode prog_9_method_39_code 89 = .ok (.ireturn, 1) := by decide +kernel
theorem d_Mo_line_0 : decode prog_9_method_40_code 0 = .ok (.iload_n 1, 1) := by decide +kernel
theorem d_Mo_line_1 : decode prog_9_method_40_code 1 = .ok (.iconst 0, 1) := by decide +kernel
theorem d_Mo_line_2 : decode prog_9_method_40_code 2 = .ok (.iconst 4, 1) := by decide +kernel
theorem d_Mo_line_3 : decode prog_9_method_40_code 3 = .ok (.invokestatic 163, 3) := by decide +kernel
theorem d_Mo_line_6 : decode prog_9_method_40_code 6 = .ok (.ifCond .eq (12), 3) := by decide +kernel
theorem d_Mo_line_9 : decode prog_9_method_40_code 9 = .ok (.iload_n 2, 1) := by decide +kernel
theorem d_Mo_line_10 : decode prog_9_method_40_code 10 = .ok (.iconst 0, 1) := by decide +kernel
theorem d_Mo_line_11 : decode prog_9_method_40_code 11 = .ok (.iconst 2, 1) := by decide +kernel
theorem d_Mo_line_12 : decode prog_9_method_40_code 12 = .ok (.invokestatic 163, 3) := by decide +kernel
theorem d_Mo_line_15 : decode prog_9_method_40_code 15 = .ok (.ifCond .ne (5), 3) := by decide +kernel
theorem d_Mo_line_18 : decode prog_9_method_40_code 18 = .ok (.iconst (-1), 1) := by decide +kernel
theorem d_Mo_line_19 : decode prog_9_method_40_code 19 = .ok (.ireturn, 1) := by decide +kernel
theorem d_Mo_line_20 : decode prog_9_method_40_code 20 = .ok (.iload_n 2, 1) := by decide +kernel
theorem d_Mo_line_21 : decode prog_9_method_40_code 21 = .ok (.ifCond .ne (20), 3) := by decide +kernel
theorem d_Mo_line_24 : decode prog_9_method_40_code 24 = .ok (.aload_n 0, 1) := by decide +kernel
theorem d_Mo_line_25 : decode prog_9_method_40_code 25 = .ok (.getfield 7, 3) := by decide +kernel
theorem d_Mo_line_28 : decode prog_9_method_40_code 28 = .ok (.iload_n 1, 1) := by decide +kernel
theorem d_Mo_line_29 : decode prog_9_method_40_code 29 = .ok (.baload, 1) := by decide +kernel
theorem d_Mo_line_30 : decode prog_9_method_40_code 30 = .ok (.ifCond .eq (7), 3) := by decide +kernel
theorem d_Mo_line_33 : decode prog_9_method_40_code 33 = .ok (.iconst 1, 1) := by decide +kernel
theorem d_Mo_line_34 : decode prog_9_method_40_code 34 = .ok (.goto (27), 3) := by decide +kernel
theorem d_Mo_line_37 : decode prog_9_method_40_code 37 = .ok (.iconst 0, 1) := by decide +kernel
theorem d_Mo_line_38 : decode prog_9_method_40_code 38 = .ok (.goto (23), 3) := by decide +kernel
theorem d_Mo_line_41 : decode prog_9_method_40_code 41 = .ok (.iload_n 2, 1) := by decide +kernel
theorem d_Mo_line_42 : decode prog_9_method_40_code 42 = .ok (.iconst 1, 1) := by decide +kernel
theorem d_Mo_line_43 : decode prog_9_method_40_code 43 = .ok (.if_icmp .ne (12), 3) := by decide +kernel
theorem d_Mo_line_46 : decode prog_9_method_40_code 46 = .ok (.aload_n 0, 1) := by decide +kernel
theorem d_Mo_line_47 : decode prog_9_method_40_code 47 = .ok (.getfield 17, 3) := by decide +kernel
theorem d_Mo_line_50 : decode prog_9_method_40_code 50 = .ok (.iload_n 1, 1) := by decide +kernel
theorem d_Mo_line_51 : decode prog_9_method_40_code 51 = .ok (.iaload, 1) := by decide +kernel
theorem d_Mo_line_52 : decode prog_9_method_40_code 52 = .ok (.goto (9), 3) := by decide +kernel
theorem d_Mo_line_55 : decode prog_9_method_40_code 55 = .ok (.aload_n 0, 1) := by decide +kernel
theorem d_Mo_line_56 : decode prog_9_method_40_code 56 = .ok (.getfield 23, 3) := by decide +kernel
theorem d_Mo_line_59 : decode prog_9_method_40_code 59 = .ok (.iload_n 1, 1) := by decide +kernel
theorem d_Mo_line_60 : decode prog_9_method_40_code 60 = .ok (.iaload, 1) := by decide +kernel
theorem d_Mo_line_61 : decode prog_9_method_40_code 61 = .ok (.ireturn, 1) := by decide +kernel

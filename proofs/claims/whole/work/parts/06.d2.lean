theorem d_FW_ask_40 : decode prog_1_method_6_code 40 = .ok (.iload 4, 2) := by decide +kernel
theorem d_FW_ask_42 : decode prog_1_method_6_code 42 = .ok (.iload_n 1, 1) := by decide +kernel
theorem d_FW_ask_43 : decode prog_1_method_6_code 43 = .ok (.iload_n 2, 1) := by decide +kernel
theorem d_FW_ask_44 : decode prog_1_method_6_code 44 = .ok (.aload_n 0, 1) := by decide +kernel
theorem d_FW_ask_45 : decode prog_1_method_6_code 45 = .ok (.getfield 49, 3) := by decide +kernel
theorem d_FW_ask_48 : decode prog_1_method_6_code 48 = .ok (.aload_n 0, 1) := by decide +kernel
theorem d_FW_ask_49 : decode prog_1_method_6_code 49 = .ok (.getfield 30, 3) := by decide +kernel
theorem d_FW_ask_52 : decode prog_1_method_6_code 52 = .ok (.invokespecial 106, 3) := by decide +kernel
theorem d_FW_ask_55 : decode prog_1_method_6_code 55 = .ok (.astore 5, 2) := by decide +kernel
theorem d_FW_ask_57 : decode prog_1_method_6_code 57 = .ok (.aload_n 0, 1) := by decide +kernel
theorem d_FW_ask_58 : decode prog_1_method_6_code 58 = .ok (.getfield 30, 3) := by decide +kernel
theorem d_FW_ask_61 : decode prog_1_method_6_code 61 = .ok (.invokevirtual 109, 3) := by decide +kernel
theorem d_FW_ask_64 : decode prog_1_method_6_code 64 = .ok (.aload_n 0, 1) := by decide +kernel
theorem d_FW_ask_65 : decode prog_1_method_6_code 65 = .ok (.getfield 17, 3) := by decide +kernel
theorem d_FW_ask_68 : decode prog_1_method_6_code 68 = .ok (.iload 4, 2) := by decide +kernel
theorem d_FW_ask_70 : decode prog_1_method_6_code 70 = .ok (.aload 5, 2) := by decide +kernel
theorem d_FW_ask_72 : decode prog_1_method_6_code 72 = .ok (.aastore, 1) := by decide +kernel
theorem d_FW_ask_73 : decode prog_1_method_6_code 73 = .ok (.aload_n 0, 1) := by decide +kernel
theorem d_FW_ask_74 : decode prog_1_method_6_code 74 = .ok (.dup, 1) := by decide +kernel
theorem d_FW_ask_75 : decode prog_1_method_6_code 75 = .ok (.getfield 21, 3) := by decide +kernel
theorem d_FW_ask_78 : decode prog_1_method_6_code 78 = .ok (.iconst 1, 1) := by decide +kernel
theorem d_FW_ask_79 : decode prog_1_method_6_code 79 = .ok (.iadd, 1) := by decide +kernel
theorem d_FW_ask_80 : decode prog_1_method_6_code 80 = .ok (.putfield 21, 3) := by decide +kernel
theorem d_FW_ask_83 : decode prog_1_method_6_code 83 = .ok (.aload 5, 2) := by decide +kernel
theorem d_FW_ask_85 : decode prog_1_method_6_code 85 = .ok (.invokevirtual 112, 3) := by decide +kernel
theorem d_FW_ask_88 : decode prog_1_method_6_code 88 = .ok (.ifCond .eq (19), 3) := by decide +kernel
theorem d_FW_ask_91 : decode prog_1_method_6_code 91 = .ok (.aload 5, 2) := by decide +kernel
theorem d_FW_ask_93 : decode prog_1_method_6_code 93 = .ok (.invokevirtual 116, 3) := by decide +kernel
theorem d_FW_ask_96 : decode prog_1_method_6_code 96 = .ok (.aload_n 0, 1) := by decide +kernel
theorem d_FW_ask_97 : decode prog_1_method_6_code 97 = .ok (.aload 5, 2) := by decide +kernel
theorem d_FW_ask_99 : decode prog_1_method_6_code 99 = .ok (.aload_n 3, 1) := by decide +kernel
theorem d_FW_ask_100 : decode prog_1_method_6_code 100 = .ok (.invokevirtual 88, 3) := by decide +kernel
theorem d_FW_ask_103 : decode prog_1_method_6_code 103 = .ok (.pop, 1) := by decide +kernel
theorem d_FW_ask_104 : decode prog_1_method_6_code 104 = .ok (.goto (9), 3) := by decide +kernel
theorem d_FW_ask_107 : decode prog_1_method_6_code 107 = .ok (.aload 5, 2) := by decide +kernel
theorem d_FW_ask_109 : decode prog_1_method_6_code 109 = .ok (.iconst 1, 1) := by decide +kernel
theorem d_FW_ask_110 : decode prog_1_method_6_code 110 = .ok (.putfield 85, 3) := by decide +kernel
theorem d_FW_ask_113 : decode prog_1_method_6_code 113 = .ok (.iload 4, 2) := by decide +kernel
theorem d_FW_ask_115 : decode prog_1_method_6_code 115 = .ok (.ireturn, 1) := by decide +kernel
theorem d_FW_serve_0 : decode prog_1_method_25_code 0 = .ok (.aload_n 1, 1) := by decide +kernel
theorem d_FW_serve_1 : decode prog_1_method_25_code 1 = .ok (.getfield 214, 3) := by decide +kernel
theorem d_FW_serve_4 : decode prog_1_method_25_code 4 = .ok (.iconst 1, 1) := by decide +kernel
theorem d_FW_serve_5 : decode prog_1_method_25_code 5 = .ok (.if_icmp .ne (14), 3) := by decide +kernel
theorem d_FW_serve_8 : decode prog_1_method_25_code 8 = .ok (.aload_n 0, 1) := by decide +kernel
theorem d_FW_serve_9 : decode prog_1_method_25_code 9 = .ok (.getfield 37, 3) := by decide +kernel
theorem d_FW_serve_12 : decode prog_1_method_25_code 12 = .ok (.aload_n 1, 1) := by decide +kernel
theorem d_FW_serve_13 : decode prog_1_method_25_code 13 = .ok (.invokevirtual 219, 3) := by decide +kernel
theorem d_FW_serve_16 : decode prog_1_method_25_code 16 = .ok (.goto (24), 3) := by decide +kernel
theorem d_FW_serve_19 : decode prog_1_method_25_code 19 = .ok (.aload_n 1, 1) := by decide +kernel
theorem d_FW_serve_20 : decode prog_1_method_25_code 20 = .ok (.getfield 214, 3) := by decide +kernel
theorem d_FW_serve_23 : decode prog_1_method_25_code 23 = .ok (.iconst 3, 1) := by decide +kernel
theorem d_FW_serve_24 : decode prog_1_method_25_code 24 = .ok (.if_icmp .ne (14), 3) := by decide +kernel
theorem d_FW_serve_27 : decode prog_1_method_25_code 27 = .ok (.aload_n 0, 1) := by decide +kernel
theorem d_FW_serve_28 : decode prog_1_method_25_code 28 = .ok (.getfield 37, 3) := by decide +kernel
theorem d_FW_serve_31 : decode prog_1_method_25_code 31 = .ok (.aload_n 1, 1) := by decide +kernel
theorem d_FW_serve_32 : decode prog_1_method_25_code 32 = .ok (.invokevirtual 223, 3) := by decide +kernel
theorem d_FW_serve_35 : decode prog_1_method_25_code 35 = .ok (.goto (5), 3) := by decide +kernel
theorem d_FW_serve_38 : decode prog_1_method_25_code 38 = .ok (.iconst 0, 1) := by decide +kernel
theorem d_FW_serve_39 : decode prog_1_method_25_code 39 = .ok (.ireturn, 1) := by decide +kernel
theorem d_FW_serve_40 : decode prog_1_method_25_code 40 = .ok (.aload_n 0, 1) := by decide +kernel
theorem d_FW_serve_41 : decode prog_1_method_25_code 41 = .ok (.aload_n 0, 1) := by decide +kernel
theorem d_FW_serve_42 : decode prog_1_method_25_code 42 = .ok (.getfield 37, 3) := by decide +kernel
theorem d_FW_serve_45 : decode prog_1_method_25_code 45 = .ok (.getfield 226, 3) := by decide +kernel
theorem d_FW_serve_48 : decode prog_1_method_25_code 48 = .ok (.aload_n 2, 1) := by decide +kernel
theorem d_FW_serve_49 : decode prog_1_method_25_code 49 = .ok (.invokevirtual 198, 3) := by decide +kernel
theorem d_FW_serve_52 : decode prog_1_method_25_code 52 = .ok (.pop, 1) := by decide +kernel
theorem d_FW_serve_53 : decode prog_1_method_25_code 53 = .ok (.iconst 1, 1) := by decide +kernel
theorem d_FW_serve_54 : decode prog_1_method_25_code 54 = .ok (.ireturn, 1) := by decide +kernel
theorem d_FW_learn_0 : decode prog_1_method_27_code 0 = .ok (.aload_n 1, 1) := by decide +kernel
theorem d_FW_learn_1 : decode prog_1_method_27_code 1 = .ok (.getfield 82, 3) := by decide +kernel
theorem d_FW_learn_4 : decode prog_1_method_27_code 4 = .ok (.istore_n 2, 1) := by decide +kernel
theorem d_FW_learn_5 : decode prog_1_method_27_code 5 = .ok (.aload_n 1, 1) := by decide +kernel
theorem d_FW_learn_6 : decode prog_1_method_27_code 6 = .ok (.getfield 163, 3) := by decide +kernel
theorem d_FW_learn_9 : decode prog_1_method_27_code 9 = .ok (.ifCond .le (25), 3) := by decide +kernel
theorem d_FW_learn_12 : decode prog_1_method_27_code 12 = .ok (.iload_n 2, 1) := by decide +kernel
theorem d_FW_learn_13 : decode prog_1_method_27_code 13 = .ok (.ifCond .lt (21), 3) := by decide +kernel
theorem d_FW_learn_16 : decode prog_1_method_27_code 16 = .ok (.iload_n 2, 1) := by decide +kernel
theorem d_FW_learn_17 : decode prog_1_method_27_code 17 = .ok (.aload_n 0, 1) := by decide +kernel
theorem d_FW_learn_18 : decode prog_1_method_27_code 18 = .ok (.getfield 41, 3) := by decide +kernel
theorem d_FW_learn_21 : decode prog_1_method_27_code 21 = .ok (.arraylength, 1) := by decide +kernel
theorem d_FW_learn_22 : decode prog_1_method_27_code 22 = .ok (.if_icmp .ge (12), 3) := by decide +kernel
theorem d_FW_learn_25 : decode prog_1_method_27_code 25 = .ok (.iload_n 2, 1) := by decide +kernel
theorem d_FW_learn_26 : decode prog_1_method_27_code 26 = .ok (.aload_n 0, 1) := by decide +kernel
theorem d_FW_learn_27 : decode prog_1_method_27_code 27 = .ok (.getfield 45, 3) := by decide +kernel
theorem d_FW_learn_30 : decode prog_1_method_27_code 30 = .ok (.arraylength, 1) := by decide +kernel
theorem d_FW_learn_31 : decode prog_1_method_27_code 31 = .ok (.if_icmp .lt (4), 3) := by decide +kernel
theorem d_FW_learn_34 : decode prog_1_method_27_code 34 = .ok (.return_, 1) := by decide +kernel
theorem d_FW_learn_35 : decode prog_1_method_27_code 35 = .ok (.aload_n 1, 1) := by decide +kernel
theorem d_FW_learn_36 : decode prog_1_method_27_code 36 = .ok (.getfield 151, 3) := by decide +kernel
theorem d_FW_learn_39 : decode prog_1_method_27_code 39 = .ok (.getfield 103, 3) := by decide +kernel
theorem d_FW_learn_42 : decode prog_1_method_27_code 42 = .ok (.sipush 1000, 3) := by decide +kernel
theorem d_FW_learn_45 : decode prog_1_method_27_code 45 = .ok (.imul, 1) := by decide +kernel
theorem d_FW_learn_46 : decode prog_1_method_27_code 46 = .ok (.aload_n 1, 1) := by decide +kernel
theorem d_FW_learn_47 : decode prog_1_method_27_code 47 = .ok (.getfield 163, 3) := by decide +kernel
theorem d_FW_learn_50 : decode prog_1_method_27_code 50 = .ok (.idiv, 1) := by decide +kernel
theorem d_FW_learn_51 : decode prog_1_method_27_code 51 = .ok (.istore_n 3, 1) := by decide +kernel
theorem d_FW_learn_52 : decode prog_1_method_27_code 52 = .ok (.aload_n 0, 1) := by decide +kernel
theorem d_FW_learn_53 : decode prog_1_method_27_code 53 = .ok (.getfield 41, 3) := by decide +kernel
theorem d_FW_learn_56 : decode prog_1_method_27_code 56 = .ok (.iload_n 2, 1) := by decide +kernel
theorem d_FW_learn_57 : decode prog_1_method_27_code 57 = .ok (.aload_n 0, 1) := by decide +kernel
theorem d_FW_learn_58 : decode prog_1_method_27_code 58 = .ok (.getfield 45, 3) := by decide +kernel
theorem d_FW_learn_61 : decode prog_1_method_27_code 61 = .ok (.iload_n 2, 1) := by decide +kernel
theorem d_FW_learn_62 : decode prog_1_method_27_code 62 = .ok (.baload, 1) := by decide +kernel
theorem d_FW_learn_63 : decode prog_1_method_27_code 63 = .ok (.ifCond .eq (16), 3) := by decide +kernel
theorem d_FW_learn_66 : decode prog_1_method_27_code 66 = .ok (.aload_n 0, 1) := by decide +kernel
theorem d_FW_learn_67 : decode prog_1_method_27_code 67 = .ok (.getfield 41, 3) := by decide +kernel
theorem d_FW_learn_70 : decode prog_1_method_27_code 70 = .ok (.iload_n 2, 1) := by decide +kernel
theorem d_FW_learn_71 : decode prog_1_method_27_code 71 = .ok (.iaload, 1) := by decide +kernel
theorem d_FW_learn_72 : decode prog_1_method_27_code 72 = .ok (.iload_n 3, 1) := by decide +kernel
theorem d_FW_learn_73 : decode prog_1_method_27_code 73 = .ok (.iadd, 1) := by decide +kernel
theorem d_FW_learn_74 : decode prog_1_method_27_code 74 = .ok (.iconst 2, 1) := by decide +kernel
theorem d_FW_learn_75 : decode prog_1_method_27_code 75 = .ok (.idiv, 1) := by decide +kernel
theorem d_FW_learn_76 : decode prog_1_method_27_code 76 = .ok (.goto (4), 3) := by decide +kernel
theorem d_FW_learn_79 : decode prog_1_method_27_code 79 = .ok (.iload_n 3, 1) := by decide +kernel
theorem d_FW_learn_80 : decode prog_1_method_27_code 80 = .ok (.iastore, 1) := by decide +kernel
theorem d_FW_learn_81 : decode prog_1_method_27_code 81 = .ok (.aload_n 0, 1) := by decide +kernel
theorem d_FW_learn_82 : decode prog_1_method_27_code 82 = .ok (.getfield 45, 3) := by decide +kernel
theorem d_FW_learn_85 : decode prog_1_method_27_code 85 = .ok (.iload_n 2, 1) := by decide +kernel
theorem d_FW_learn_86 : decode prog_1_method_27_code 86 = .ok (.iconst 1, 1) := by decide +kernel
theorem d_FW_learn_87 : decode prog_1_method_27_code 87 = .ok (.bastore, 1) := by decide +kernel
theorem d_FW_learn_88 : decode prog_1_method_27_code 88 = .ok (.return_, 1) := by decide +kernel
theorem d_FW_hear_0 : decode prog_1_method_26_code 0 = .ok (.aload_n 0, 1) := by decide +kernel
theorem d_FW_hear_1 : decode prog_1_method_26_code 1 = .ok (.aload_n 1, 1) := by decide +kernel
theorem d_FW_hear_2 : decode prog_1_method_26_code 2 = .ok (.getfield 229, 3) := by decide +kernel
theorem d_FW_hear_5 : decode prog_1_method_26_code 5 = .ok (.invokevirtual 78, 3) := by decide +kernel
theorem d_FW_hear_8 : decode prog_1_method_26_code 8 = .ok (.astore 4, 2) := by decide +kernel
theorem d_FW_hear_10 : decode prog_1_method_26_code 10 = .ok (.aload 4, 2) := by decide +kernel
theorem d_FW_hear_12 : decode prog_1_method_26_code 12 = .ok (.ifnull (13), 3) := by decide +kernel
theorem d_FW_hear_15 : decode prog_1_method_26_code 15 = .ok (.aload 4, 2) := by decide +kernel
theorem d_FW_hear_17 : decode prog_1_method_26_code 17 = .ok (.aload_n 1, 1) := by decide +kernel
theorem d_FW_hear_18 : decode prog_1_method_26_code 18 = .ok (.iload_n 2, 1) := by decide +kernel
theorem d_FW_hear_19 : decode prog_1_method_26_code 19 = .ok (.invokevirtual 232, 3) := by decide +kernel
theorem d_FW_hear_22 : decode prog_1_method_26_code 22 = .ok (.ifCond .ne (5), 3) := by decide +kernel
theorem d_FW_hear_25 : decode prog_1_method_26_code 25 = .ok (.iconst 0, 1) := by decide +kernel
theorem d_FW_hear_26 : decode prog_1_method_26_code 26 = .ok (.ireturn, 1) := by decide +kernel
theorem d_FW_hear_27 : decode prog_1_method_26_code 27 = .ok (.aload_n 1, 1) := by decide +kernel
theorem d_FW_hear_28 : decode prog_1_method_26_code 28 = .ok (.getfield 214, 3) := by decide +kernel
theorem d_FW_hear_31 : decode prog_1_method_26_code 31 = .ok (.iconst 4, 1) := by decide +kernel
theorem d_FW_hear_32 : decode prog_1_method_26_code 32 = .ok (.if_icmp .ne (11), 3) := by decide +kernel
theorem d_FW_hear_35 : decode prog_1_method_26_code 35 = .ok (.aload 4, 2) := by decide +kernel
theorem d_FW_hear_37 : decode prog_1_method_26_code 37 = .ok (.iconst 3, 1) := by decide +kernel
theorem d_FW_hear_38 : decode prog_1_method_26_code 38 = .ok (.invokevirtual 236, 3) := by decide +kernel
theorem d_FW_hear_41 : decode prog_1_method_26_code 41 = .ok (.iconst 1, 1) := by decide +kernel
theorem d_FW_hear_42 : decode prog_1_method_26_code 42 = .ok (.ireturn, 1) := by decide +kernel
theorem d_FW_hear_43 : decode prog_1_method_26_code 43 = .ok (.aload 4, 2) := by decide +kernel
theorem d_FW_hear_45 : decode prog_1_method_26_code 45 = .ok (.aload_n 1, 1) := by decide +kernel
theorem d_FW_hear_46 : decode prog_1_method_26_code 46 = .ok (.invokevirtual 239, 3) := by decide +kernel
theorem d_FW_hear_49 : decode prog_1_method_26_code 49 = .ok (.aload_n 1, 1) := by decide +kernel
theorem d_FW_hear_50 : decode prog_1_method_26_code 50 = .ok (.iconst 1, 1) := by decide +kernel
theorem d_FW_hear_51 : decode prog_1_method_26_code 51 = .ok (.invokevirtual 242, 3) := by decide +kernel
theorem d_FW_hear_54 : decode prog_1_method_26_code 54 = .ok (.iconst 1, 1) := by decide +kernel
theorem d_FW_hear_55 : decode prog_1_method_26_code 55 = .ok (.if_icmp .ne (19), 3) := by decide +kernel
theorem d_FW_hear_58 : decode prog_1_method_26_code 58 = .ok (.aload 4, 2) := by decide +kernel
theorem d_FW_hear_60 : decode prog_1_method_26_code 60 = .ok (.invokevirtual 245, 3) := by decide +kernel
theorem d_FW_hear_63 : decode prog_1_method_26_code 63 = .ok (.aload_n 0, 1) := by decide +kernel
theorem d_FW_hear_64 : decode prog_1_method_26_code 64 = .ok (.aload 4, 2) := by decide +kernel
theorem d_FW_hear_66 : decode prog_1_method_26_code 66 = .ok (.aload_n 3, 1) := by decide +kernel
theorem d_FW_hear_67 : decode prog_1_method_26_code 67 = .ok (.invokevirtual 88, 3) := by decide +kernel
theorem d_FW_hear_70 : decode prog_1_method_26_code 70 = .ok (.pop, 1) := by decide +kernel
theorem d_FW_hear_71 : decode prog_1_method_26_code 71 = .ok (.goto (39), 3) := by decide +kernel
theorem d_FW_hear_74 : decode prog_1_method_26_code 74 = .ok (.aload 4, 2) := by decide +kernel
theorem d_FW_hear_76 : decode prog_1_method_26_code 76 = .ok (.invokevirtual 112, 3) := by decide +kernel
theorem d_FW_hear_79 : decode prog_1_method_26_code 79 = .ok (.ifCond .eq (19), 3) := by decide +kernel
theorem d_FW_hear_82 : decode prog_1_method_26_code 82 = .ok (.aload 4, 2) := by decide +kernel
theorem d_FW_hear_84 : decode prog_1_method_26_code 84 = .ok (.invokevirtual 116, 3) := by decide +kernel
theorem d_FW_hear_87 : decode prog_1_method_26_code 87 = .ok (.aload_n 0, 1) := by decide +kernel
theorem d_FW_hear_88 : decode prog_1_method_26_code 88 = .ok (.aload 4, 2) := by decide +kernel
theorem d_FW_hear_90 : decode prog_1_method_26_code 90 = .ok (.aload_n 3, 1) := by decide +kernel
theorem d_FW_hear_91 : decode prog_1_method_26_code 91 = .ok (.invokevirtual 88, 3) := by decide +kernel
theorem d_FW_hear_94 : decode prog_1_method_26_code 94 = .ok (.pop, 1) := by decide +kernel
theorem d_FW_hear_95 : decode prog_1_method_26_code 95 = .ok (.goto (15), 3) := by decide +kernel
theorem d_FW_hear_98 : decode prog_1_method_26_code 98 = .ok (.aload 4, 2) := by decide +kernel
theorem d_FW_hear_100 : decode prog_1_method_26_code 100 = .ok (.iconst 1, 1) := by decide +kernel
theorem d_FW_hear_101 : decode prog_1_method_26_code 101 = .ok (.putfield 85, 3) := by decide +kernel
theorem d_FW_hear_104 : decode prog_1_method_26_code 104 = .ok (.aload_n 0, 1) := by decide +kernel
theorem d_FW_hear_105 : decode prog_1_method_26_code 105 = .ok (.aload 4, 2) := by decide +kernel
theorem d_FW_hear_107 : decode prog_1_method_26_code 107 = .ok (.invokevirtual 248, 3) := by decide +kernel
theorem d_FW_hear_110 : decode prog_1_method_26_code 110 = .ok (.iconst 1, 1) := by decide +kernel
theorem d_FW_hear_111 : decode prog_1_method_26_code 111 = .ok (.ireturn, 1) := by decide +kernel
theorem d_FW_take_0 : decode prog_1_method_24_code 0 = .ok (.aload_n 2, 1) := by decide +kernel
theorem d_FW_take_1 : decode prog_1_method_24_code 1 = .ok (.iload_n 3, 1) := by decide +kernel
theorem d_FW_take_2 : decode prog_1_method_24_code 2 = .ok (.invokevirtual 201, 3) := by decide +kernel
theorem d_FW_take_5 : decode prog_1_method_24_code 5 = .ok (.istore 4, 2) := by decide +kernel
theorem d_FW_take_7 : decode prog_1_method_24_code 7 = .ok (.iload 4, 2) := by decide +kernel
theorem d_FW_take_9 : decode prog_1_method_24_code 9 = .ok (.bipush (-10), 2) := by decide +kernel
theorem d_FW_take_11 : decode prog_1_method_24_code 11 = .ok (.if_icmp .ne (20), 3) := by decide +kernel
theorem d_FW_take_14 : decode prog_1_method_24_code 14 = .ok (.iload_n 1, 1) := by decide +kernel
theorem d_FW_take_15 : decode prog_1_method_24_code 15 = .ok (.iconst 4, 1) := by decide +kernel
theorem d_FW_take_16 : decode prog_1_method_24_code 16 = .ok (.if_icmp .ne (11), 3) := by decide +kernel
theorem d_FW_take_19 : decode prog_1_method_24_code 19 = .ok (.aload_n 2, 1) := by decide +kernel
theorem d_FW_take_20 : decode prog_1_method_24_code 20 = .ok (.iconst 0, 1) := by decide +kernel
theorem d_FW_take_21 : decode prog_1_method_24_code 21 = .ok (.putfield 184, 3) := by decide +kernel
theorem d_FW_take_24 : decode prog_1_method_24_code 24 = .ok (.goto (7), 3) := by decide +kernel
theorem d_FW_take_27 : decode prog_1_method_24_code 27 = .ok (.aload_n 2, 1) := by decide +kernel
theorem d_FW_take_28 : decode prog_1_method_24_code 28 = .ok (.invokevirtual 92, 3) := by decide +kernel
theorem d_FW_take_31 : decode prog_1_method_24_code 31 = .ok (.iload 4, 2) := by decide +kernel
theorem d_FW_take_33 : decode prog_1_method_24_code 33 = .ok (.iconst 1, 1) := by decide +kernel
theorem d_FW_take_34 : decode prog_1_method_24_code 34 = .ok (.if_icmp .eq (6), 3) := by decide +kernel
theorem d_FW_take_37 : decode prog_1_method_24_code 37 = .ok (.iload 4, 2) := by decide +kernel
theorem d_FW_take_39 : decode prog_1_method_24_code 39 = .ok (.ireturn, 1) := by decide +kernel
theorem d_FW_take_40 : decode prog_1_method_24_code 40 = .ok (.aload_n 2, 1) := by decide +kernel
theorem d_FW_take_41 : decode prog_1_method_24_code 41 = .ok (.getfield 204, 3) := by decide +kernel
theorem d_FW_take_44 : decode prog_1_method_24_code 44 = .ok (.astore 5, 2) := by decide +kernel
theorem d_FW_take_46 : decode prog_1_method_24_code 46 = .ok (.iload_n 1, 1) := by decide +kernel
theorem d_FW_take_47 : decode prog_1_method_24_code 47 = .ok (.iconst 4, 1) := by decide +kernel
theorem d_FW_take_48 : decode prog_1_method_24_code 48 = .ok (.if_icmp .ne (13), 3) := by decide +kernel
theorem d_FW_take_51 : decode prog_1_method_24_code 51 = .ok (.aload_n 0, 1) := by decide +kernel
theorem d_FW_take_52 : decode prog_1_method_24_code 52 = .ok (.aload 5, 2) := by decide +kernel
theorem d_FW_take_54 : decode prog_1_method_24_code 54 = .ok (.aload_n 2, 1) := by decide +kernel
theorem d_FW_take_55 : decode prog_1_method_24_code 55 = .ok (.invokevirtual 207, 3) := by decide +kernel
theorem d_FW_take_58 : decode prog_1_method_24_code 58 = .ok (.goto (11), 3) := by decide +kernel
theorem d_FW_take_61 : decode prog_1_method_24_code 61 = .ok (.aload_n 0, 1) := by decide +kernel
theorem d_FW_take_62 : decode prog_1_method_24_code 62 = .ok (.aload 5, 2) := by decide +kernel
theorem d_FW_take_64 : decode prog_1_method_24_code 64 = .ok (.iload_n 1, 1) := by decide +kernel
theorem d_FW_take_65 : decode prog_1_method_24_code 65 = .ok (.aload_n 2, 1) := by decide +kernel
theorem d_FW_take_66 : decode prog_1_method_24_code 66 = .ok (.invokevirtual 210, 3) := by decide +kernel
theorem d_FW_take_69 : decode prog_1_method_24_code 69 = .ok (.istore 6, 2) := by decide +kernel
theorem d_FW_take_71 : decode prog_1_method_24_code 71 = .ok (.iload 6, 2) := by decide +kernel
theorem d_FW_take_73 : decode prog_1_method_24_code 73 = .ok (.ifCond .eq (9), 3) := by decide +kernel
theorem d_FW_take_76 : decode prog_1_method_24_code 76 = .ok (.aload 5, 2) := by decide +kernel
theorem d_FW_take_78 : decode prog_1_method_24_code 78 = .ok (.getfield 214, 3) := by decide +kernel
theorem d_FW_take_81 : decode prog_1_method_24_code 81 = .ok (.ireturn, 1) := by decide +kernel
theorem d_FW_take_82 : decode prog_1_method_24_code 82 = .ok (.aload_n 0, 1) := by decide +kernel
theorem d_FW_take_83 : decode prog_1_method_24_code 83 = .ok (.dup, 1) := by decide +kernel
theorem d_FW_take_84 : decode prog_1_method_24_code 84 = .ok (.getfield 61, 3) := by decide +kernel
theorem d_FW_take_87 : decode prog_1_method_24_code 87 = .ok (.iconst 1, 1) := by decide +kernel
theorem d_FW_take_88 : decode prog_1_method_24_code 88 = .ok (.iadd, 1) := by decide +kernel
theorem d_FW_take_89 : decode prog_1_method_24_code 89 = .ok (.putfield 61, 3) := by decide +kernel
theorem d_FW_take_92 : decode prog_1_method_24_code 92 = .ok (.aload 5, 2) := by decide +kernel
theorem d_FW_take_94 : decode prog_1_method_24_code 94 = .ok (.getfield 214, 3) := by decide +kernel
theorem d_FW_take_97 : decode prog_1_method_24_code 97 = .ok (.bipush 10, 2) := by decide +kernel
theorem d_FW_take_99 : decode prog_1_method_24_code 99 = .ok (.iadd, 1) := by decide +kernel
theorem d_FW_take_100 : decode prog_1_method_24_code 100 = .ok (.ireturn, 1) := by decide +kernel
theorem d_FW_octet_0 : decode prog_1_method_7_code 0 = .ok (.aload_n 0, 1) := by decide +kernel
theorem d_FW_octet_1 : decode prog_1_method_7_code 1 = .ok (.iload_n 1, 1) := by decide +kernel
theorem d_FW_octet_2 : decode prog_1_method_7_code 2 = .ok (.invokevirtual 119, 3) := by decide +kernel
theorem d_FW_octet_5 : decode prog_1_method_7_code 5 = .ok (.astore_n 3, 1) := by decide +kernel
theorem d_FW_octet_6 : decode prog_1_method_7_code 6 = .ok (.aload_n 3, 1) := by decide +kernel
theorem d_FW_octet_7 : decode prog_1_method_7_code 7 = .ok (.ifnonnull (5), 3) := by decide +kernel
theorem d_FW_octet_10 : decode prog_1_method_7_code 10 = .ok (.iconst (-1), 1) := by decide +kernel
theorem d_FW_octet_11 : decode prog_1_method_7_code 11 = .ok (.ireturn, 1) := by decide +kernel
theorem d_FW_octet_12 : decode prog_1_method_7_code 12 = .ok (.aload_n 3, 1) := by decide +kernel
theorem d_FW_octet_13 : decode prog_1_method_7_code 13 = .ok (.getfield 74, 3) := by decide +kernel
theorem d_FW_octet_16 : decode prog_1_method_7_code 16 = .ok (.ifCond .ne (6), 3) := by decide +kernel
theorem d_FW_octet_19 : decode prog_1_method_7_code 19 = .ok (.bipush (-2), 2) := by decide +kernel
theorem d_FW_octet_21 : decode prog_1_method_7_code 21 = .ok (.ireturn, 1) := by decide +kernel
theorem d_FW_octet_22 : decode prog_1_method_7_code 22 = .ok (.aload_n 0, 1) := by decide +kernel
theorem d_FW_octet_23 : decode prog_1_method_7_code 23 = .ok (.iload_n 1, 1) := by decide +kernel
theorem d_FW_octet_24 : decode prog_1_method_7_code 24 = .ok (.aload_n 3, 1) := by decide +kernel
theorem d_FW_octet_25 : decode prog_1_method_7_code 25 = .ok (.iload_n 2, 1) := by decide +kernel
theorem d_FW_octet_26 : decode prog_1_method_7_code 26 = .ok (.sipush 255, 3) := by decide +kernel
theorem d_FW_octet_29 : decode prog_1_method_7_code 29 = .ok (.iand, 1) := by decide +kernel
theorem d_FW_octet_30 : decode prog_1_method_7_code 30 = .ok (.invokevirtual 122, 3) := by decide +kernel
theorem d_FW_octet_33 : decode prog_1_method_7_code 33 = .ok (.ireturn, 1) := by decide +kernel
theorem d_FW_out_0 : decode prog_1_method_8_code 0 = .ok (.aload_n 0, 1) := by decide +kernel
theorem d_FW_out_1 : decode prog_1_method_8_code 1 = .ok (.iload_n 1, 1) := by decide +kernel
theorem d_FW_out_2 : decode prog_1_method_8_code 2 = .ok (.invokevirtual 119, 3) := by decide +kernel
theorem d_FW_out_5 : decode prog_1_method_8_code 5 = .ok (.astore_n 2, 1) := by decide +kernel
theorem d_FW_out_6 : decode prog_1_method_8_code 6 = .ok (.aload_n 2, 1) := by decide +kernel
theorem d_FW_out_7 : decode prog_1_method_8_code 7 = .ok (.ifnonnull (7), 3) := by decide +kernel
theorem d_FW_out_10 : decode prog_1_method_8_code 10 = .ok (.iconst (-1), 1) := by decide +kernel
theorem d_FW_out_11 : decode prog_1_method_8_code 11 = .ok (.goto (7), 3) := by decide +kernel
theorem d_FW_out_14 : decode prog_1_method_8_code 14 = .ok (.aload_n 2, 1) := by decide +kernel
theorem d_FW_out_15 : decode prog_1_method_8_code 15 = .ok (.invokevirtual 126, 3) := by decide +kernel
theorem d_FW_out_18 : decode prog_1_method_8_code 18 = .ok (.ireturn, 1) := by decide +kernel
theorem d_FW_loop_0 : decode prog_1_method_9_code 0 = .ok (.aload_n 0, 1) := by decide +kernel
theorem d_FW_loop_1 : decode prog_1_method_9_code 1 = .ok (.iload_n 1, 1) := by decide +kernel
theorem d_FW_loop_2 : decode prog_1_method_9_code 2 = .ok (.invokevirtual 70, 3) := by decide +kernel
theorem d_FW_loop_5 : decode prog_1_method_9_code 5 = .ok (.astore_n 3, 1) := by decide +kernel
theorem d_FW_loop_6 : decode prog_1_method_9_code 6 = .ok (.aload_n 0, 1) := by decide +kernel
theorem d_FW_loop_7 : decode prog_1_method_9_code 7 = .ok (.iconst 4, 1) := by decide +kernel
theorem d_FW_loop_8 : decode prog_1_method_9_code 8 = .ok (.invokevirtual 119, 3) := by decide +kernel
theorem d_FW_loop_11 : decode prog_1_method_9_code 11 = .ok (.astore 4, 2) := by decide +kernel
theorem d_FW_loop_13 : decode prog_1_method_9_code 13 = .ok (.aload_n 3, 1) := by decide +kernel
theorem d_FW_loop_14 : decode prog_1_method_9_code 14 = .ok (.ifnull (12), 3) := by decide +kernel
theorem d_FW_loop_17 : decode prog_1_method_9_code 17 = .ok (.aload 4, 2) := by decide +kernel
theorem d_FW_loop_19 : decode prog_1_method_9_code 19 = .ok (.ifnull (7), 3) := by decide +kernel
theorem d_FW_loop_22 : decode prog_1_method_9_code 22 = .ok (.iload_n 2, 1) := by decide +kernel
theorem d_FW_loop_23 : decode prog_1_method_9_code 23 = .ok (.ifCond .ge (5), 3) := by decide +kernel
theorem d_FW_loop_26 : decode prog_1_method_9_code 26 = .ok (.iconst (-1), 1) := by decide +kernel
theorem d_FW_loop_27 : decode prog_1_method_9_code 27 = .ok (.ireturn, 1) := by decide +kernel
theorem d_FW_loop_28 : decode prog_1_method_9_code 28 = .ok (.aload_n 3, 1) := by decide +kernel
theorem d_FW_loop_29 : decode prog_1_method_9_code 29 = .ok (.getfield 74, 3) := by decide +kernel
theorem d_FW_loop_32 : decode prog_1_method_9_code 32 = .ok (.ifCond .ne (6), 3) := by decide +kernel
theorem d_FW_loop_35 : decode prog_1_method_9_code 35 = .ok (.bipush (-2), 2) := by decide +kernel
theorem d_FW_loop_37 : decode prog_1_method_9_code 37 = .ok (.ireturn, 1) := by decide +kernel
theorem d_FW_loop_38 : decode prog_1_method_9_code 38 = .ok (.iload_n 2, 1) := by decide +kernel
theorem d_FW_loop_39 : decode prog_1_method_9_code 39 = .ok (.aload_n 3, 1) := by decide +kernel
theorem d_FW_loop_40 : decode prog_1_method_9_code 40 = .ok (.getfield 130, 3) := by decide +kernel
theorem d_FW_loop_43 : decode prog_1_method_9_code 43 = .ok (.invokestatic 133, 3) := by decide +kernel
theorem d_FW_loop_46 : decode prog_1_method_9_code 46 = .ok (.istore 5, 2) := by decide +kernel
theorem d_FW_loop_48 : decode prog_1_method_9_code 48 = .ok (.iconst 0, 1) := by decide +kernel
theorem d_FW_loop_49 : decode prog_1_method_9_code 49 = .ok (.istore 6, 2) := by decide +kernel
theorem d_FW_loop_51 : decode prog_1_method_9_code 51 = .ok (.iload 6, 2) := by decide +kernel
theorem d_FW_loop_53 : decode prog_1_method_9_code 53 = .ok (.iload 5, 2) := by decide +kernel
theorem d_FW_loop_55 : decode prog_1_method_9_code 55 = .ok (.if_icmp .ge (21), 3) := by decide +kernel
theorem d_FW_loop_58 : decode prog_1_method_9_code 58 = .ok (.aload_n 0, 1) := by decide +kernel
theorem d_FW_loop_59 : decode prog_1_method_9_code 59 = .ok (.iconst 4, 1) := by decide +kernel
theorem d_FW_loop_60 : decode prog_1_method_9_code 60 = .ok (.aload 4, 2) := by decide +kernel
theorem d_FW_loop_62 : decode prog_1_method_9_code 62 = .ok (.aload_n 3, 1) := by decide +kernel
theorem d_FW_loop_63 : decode prog_1_method_9_code 63 = .ok (.invokevirtual 126, 3) := by decide +kernel
theorem d_FW_loop_66 : decode prog_1_method_9_code 66 = .ok (.invokevirtual 122, 3) := by decide +kernel
theorem d_FW_loop_69 : decode prog_1_method_9_code 69 = .ok (.pop, 1) := by decide +kernel
theorem d_FW_loop_70 : decode prog_1_method_9_code 70 = .ok (.iinc 6 1, 3) := by decide +kernel
theorem d_FW_loop_73 : decode prog_1_method_9_code 73 = .ok (.goto (-22), 3) := by decide +kernel
theorem d_FW_loop_76 : decode prog_1_method_9_code 76 = .ok (.aload 4, 2) := by decide +kernel
theorem d_FW_loop_78 : decode prog_1_method_9_code 78 = .ok (.getfield 130, 3) := by decide +kernel
theorem d_FW_loop_81 : decode prog_1_method_9_code 81 = .ok (.istore 6, 2) := by decide +kernel
theorem d_FW_loop_83 : decode prog_1_method_9_code 83 = .ok (.iconst 0, 1) := by decide +kernel
theorem d_FW_loop_84 : decode prog_1_method_9_code 84 = .ok (.istore 7, 2) := by decide +kernel
theorem d_FW_loop_86 : decode prog_1_method_9_code 86 = .ok (.iload 7, 2) := by decide +kernel
theorem d_FW_loop_88 : decode prog_1_method_9_code 88 = .ok (.iload 6, 2) := by decide +kernel
theorem d_FW_loop_90 : decode prog_1_method_9_code 90 = .ok (.if_icmp .ge (28), 3) := by decide +kernel
theorem d_FW_loop_93 : decode prog_1_method_9_code 93 = .ok (.aload_n 3, 1) := by decide +kernel
theorem d_FW_loop_94 : decode prog_1_method_9_code 94 = .ok (.getfield 74, 3) := by decide +kernel
theorem d_FW_loop_97 : decode prog_1_method_9_code 97 = .ok (.ifCond .eq (21), 3) := by decide +kernel
theorem d_FW_loop_100 : decode prog_1_method_9_code 100 = .ok (.aload_n 0, 1) := by decide +kernel
theorem d_FW_loop_101 : decode prog_1_method_9_code 101 = .ok (.iload_n 1, 1) := by decide +kernel
theorem d_FW_loop_102 : decode prog_1_method_9_code 102 = .ok (.aload_n 3, 1) := by decide +kernel
theorem d_FW_loop_103 : decode prog_1_method_9_code 103 = .ok (.aload 4, 2) := by decide +kernel
theorem d_FW_loop_105 : decode prog_1_method_9_code 105 = .ok (.invokevirtual 126, 3) := by decide +kernel
theorem d_FW_loop_108 : decode prog_1_method_9_code 108 = .ok (.invokevirtual 122, 3) := by decide +kernel
theorem d_FW_loop_111 : decode prog_1_method_9_code 111 = .ok (.pop, 1) := by decide +kernel
theorem d_FW_loop_112 : decode prog_1_method_9_code 112 = .ok (.iinc 7 1, 3) := by decide +kernel
theorem d_FW_loop_115 : decode prog_1_method_9_code 115 = .ok (.goto (-29), 3) := by decide +kernel
theorem d_FW_loop_118 : decode prog_1_method_9_code 118 = .ok (.aload 4, 2) := by decide +kernel
theorem d_FW_loop_120 : decode prog_1_method_9_code 120 = .ok (.invokevirtual 139, 3) := by decide +kernel
theorem d_FW_loop_123 : decode prog_1_method_9_code 123 = .ok (.iload 7, 2) := by decide +kernel
theorem d_FW_loop_125 : decode prog_1_method_9_code 125 = .ok (.ireturn, 1) := by decide +kernel
theorem d_FW_earliestDue_0 : decode prog_1_method_28_code 0 = .ok (.ldc 254, 2) := by decide +kernel
theorem d_FW_earliestDue_2 : decode prog_1_method_28_code 2 = .ok (.istore_n 1, 1) := by decide +kernel
theorem d_FW_earliestDue_3 : decode prog_1_method_28_code 3 = .ok (.iconst 0, 1) := by decide +kernel
theorem d_FW_earliestDue_4 : decode prog_1_method_28_code 4 = .ok (.istore_n 2, 1) := by decide +kernel
theorem d_FW_earliestDue_5 : decode prog_1_method_28_code 5 = .ok (.iload_n 2, 1) := by decide +kernel
theorem d_FW_earliestDue_6 : decode prog_1_method_28_code 6 = .ok (.aload_n 0, 1) := by decide +kernel
theorem d_FW_earliestDue_7 : decode prog_1_method_28_code 7 = .ok (.getfield 21, 3) := by decide +kernel
theorem d_FW_earliestDue_10 : decode prog_1_method_28_code 10 = .ok (.if_icmp .ge (40), 3) := by decide +kernel
theorem d_FW_earliestDue_13 : decode prog_1_method_28_code 13 = .ok (.aload_n 0, 1) := by decide +kernel
theorem d_FW_earliestDue_14 : decode prog_1_method_28_code 14 = .ok (.iload_n 2, 1) := by decide +kernel
theorem d_FW_earliestDue_15 : decode prog_1_method_28_code 15 = .ok (.invokevirtual 78, 3) := by decide +kernel
theorem d_FW_earliestDue_18 : decode prog_1_method_28_code 18 = .ok (.astore_n 3, 1) := by decide +kernel
theorem d_FW_earliestDue_19 : decode prog_1_method_28_code 19 = .ok (.aload_n 3, 1) := by decide +kernel
theorem d_FW_earliestDue_20 : decode prog_1_method_28_code 20 = .ok (.ifnull (24), 3) := by decide +kernel
theorem d_FW_earliestDue_23 : decode prog_1_method_28_code 23 = .ok (.aload_n 3, 1) := by decide +kernel
theorem d_FW_earliestDue_24 : decode prog_1_method_28_code 24 = .ok (.getfield 85, 3) := by decide +kernel
theorem d_FW_earliestDue_27 : decode prog_1_method_28_code 27 = .ok (.ifCond .ne (17), 3) := by decide +kernel
theorem d_FW_earliestDue_30 : decode prog_1_method_28_code 30 = .ok (.iload_n 1, 1) := by decide +kernel
theorem d_FW_earliestDue_31 : decode prog_1_method_28_code 31 = .ok (.aload_n 3, 1) := by decide +kernel
theorem d_FW_earliestDue_32 : decode prog_1_method_28_code 32 = .ok (.getfield 191, 3) := by decide +kernel
theorem d_FW_earliestDue_35 : decode prog_1_method_28_code 35 = .ok (.aload_n 0, 1) := by decide +kernel
theorem d_FW_earliestDue_36 : decode prog_1_method_28_code 36 = .ok (.getfield 52, 3) := by decide +kernel
theorem d_FW_earliestDue_39 : decode prog_1_method_28_code 39 = .ok (.iadd, 1) := by decide +kernel
theorem d_FW_earliestDue_40 : decode prog_1_method_28_code 40 = .ok (.invokestatic 133, 3) := by decide +kernel
theorem d_FW_earliestDue_43 : decode prog_1_method_28_code 43 = .ok (.istore_n 1, 1) := by decide +kernel
theorem d_FW_earliestDue_44 : decode prog_1_method_28_code 44 = .ok (.iinc 2 1, 3) := by decide +kernel
theorem d_FW_earliestDue_47 : decode prog_1_method_28_code 47 = .ok (.goto (-42), 3) := by decide +kernel
theorem d_FW_earliestDue_50 : decode prog_1_method_28_code 50 = .ok (.iload_n 1, 1) := by decide +kernel
theorem d_FW_earliestDue_51 : decode prog_1_method_28_code 51 = .ok (.ireturn, 1) := by decide +kernel
theorem d_FW_repeat_0 : decode prog_1_method_30_code 0 = .ok (.aload_n 0, 1) := by decide +kernel
theorem d_FW_repeat_1 : decode prog_1_method_30_code 1 = .ok (.aload_n 1, 1) := by decide +kernel
theorem d_FW_repeat_2 : decode prog_1_method_30_code 2 = .ok (.getfield 82, 3) := by decide +kernel
theorem d_FW_repeat_5 : decode prog_1_method_30_code 5 = .ok (.invokevirtual 70, 3) := by decide +kernel
theorem d_FW_repeat_8 : decode prog_1_method_30_code 8 = .ok (.astore_n 2, 1) := by decide +kernel
theorem d_FW_repeat_9 : decode prog_1_method_30_code 9 = .ok (.aload_n 2, 1) := by decide +kernel
theorem d_FW_repeat_10 : decode prog_1_method_30_code 10 = .ok (.ifnonnull (4), 3) := by decide +kernel
theorem d_FW_repeat_13 : decode prog_1_method_30_code 13 = .ok (.return_, 1) := by decide +kernel
theorem d_FW_repeat_14 : decode prog_1_method_30_code 14 = .ok (.aload_n 1, 1) := by decide +kernel
theorem d_FW_repeat_15 : decode prog_1_method_30_code 15 = .ok (.aload_n 0, 1) := by decide +kernel
theorem d_FW_repeat_16 : decode prog_1_method_30_code 16 = .ok (.getfield 58, 3) := by decide +kernel
theorem d_FW_repeat_19 : decode prog_1_method_30_code 19 = .ok (.putfield 191, 3) := by decide +kernel
theorem d_FW_repeat_22 : decode prog_1_method_30_code 22 = .ok (.aload_n 1, 1) := by decide +kernel
theorem d_FW_repeat_23 : decode prog_1_method_30_code 23 = .ok (.dup, 1) := by decide +kernel
theorem d_FW_repeat_24 : decode prog_1_method_30_code 24 = .ok (.getfield 160, 3) := by decide +kernel
theorem d_FW_repeat_27 : decode prog_1_method_30_code 27 = .ok (.iconst 1, 1) := by decide +kernel
theorem d_FW_repeat_28 : decode prog_1_method_30_code 28 = .ok (.iadd, 1) := by decide +kernel
theorem d_FW_repeat_29 : decode prog_1_method_30_code 29 = .ok (.putfield 160, 3) := by decide +kernel
theorem d_FW_repeat_32 : decode prog_1_method_30_code 32 = .ok (.aload_n 0, 1) := by decide +kernel
theorem d_FW_repeat_33 : decode prog_1_method_30_code 33 = .ok (.aload_n 1, 1) := by decide +kernel
theorem d_FW_repeat_34 : decode prog_1_method_30_code 34 = .ok (.getfield 194, 3) := by decide +kernel
theorem d_FW_repeat_37 : decode prog_1_method_30_code 37 = .ok (.aload_n 2, 1) := by decide +kernel
theorem d_FW_repeat_38 : decode prog_1_method_30_code 38 = .ok (.invokevirtual 198, 3) := by decide +kernel
theorem d_FW_repeat_41 : decode prog_1_method_30_code 41 = .ok (.pop, 1) := by decide +kernel
theorem d_FW_repeat_42 : decode prog_1_method_30_code 42 = .ok (.return_, 1) := by decide +kernel
theorem d_FW_settleDue_0 : decode prog_1_method_29_code 0 = .ok (.iconst 0, 1) := by decide +kernel
theorem d_FW_settleDue_1 : decode prog_1_method_29_code 1 = .ok (.istore_n 1, 1) := by decide +kernel
theorem d_FW_settleDue_2 : decode prog_1_method_29_code 2 = .ok (.iconst 0, 1) := by decide +kernel
theorem d_FW_settleDue_3 : decode prog_1_method_29_code 3 = .ok (.istore_n 2, 1) := by decide +kernel
theorem d_FW_settleDue_4 : decode prog_1_method_29_code 4 = .ok (.iload_n 2, 1) := by decide +kernel
theorem d_FW_settleDue_5 : decode prog_1_method_29_code 5 = .ok (.aload_n 0, 1) := by decide +kernel
theorem d_FW_settleDue_6 : decode prog_1_method_29_code 6 = .ok (.getfield 21, 3) := by decide +kernel
theorem d_FW_settleDue_9 : decode prog_1_method_29_code 9 = .ok (.if_icmp .ge (72), 3) := by decide +kernel
theorem d_FW_settleDue_12 : decode prog_1_method_29_code 12 = .ok (.aload_n 0, 1) := by decide +kernel
theorem d_FW_settleDue_13 : decode prog_1_method_29_code 13 = .ok (.iload_n 2, 1) := by decide +kernel
theorem d_FW_settleDue_14 : decode prog_1_method_29_code 14 = .ok (.invokevirtual 78, 3) := by decide +kernel
theorem d_FW_settleDue_17 : decode prog_1_method_29_code 17 = .ok (.astore_n 3, 1) := by decide +kernel
theorem d_FW_settleDue_18 : decode prog_1_method_29_code 18 = .ok (.aload_n 3, 1) := by decide +kernel
theorem d_FW_settleDue_19 : decode prog_1_method_29_code 19 = .ok (.ifnull (56), 3) := by decide +kernel
theorem d_FW_settleDue_22 : decode prog_1_method_29_code 22 = .ok (.aload_n 3, 1) := by decide +kernel
theorem d_FW_settleDue_23 : decode prog_1_method_29_code 23 = .ok (.getfield 85, 3) := by decide +kernel
theorem d_FW_settleDue_26 : decode prog_1_method_29_code 26 = .ok (.ifCond .ne (49), 3) := by decide +kernel
theorem d_FW_settleDue_29 : decode prog_1_method_29_code 29 = .ok (.aload_n 0, 1) := by decide +kernel
theorem d_FW_settleDue_30 : decode prog_1_method_29_code 30 = .ok (.getfield 58, 3) := by decide +kernel
theorem d_FW_settleDue_33 : decode prog_1_method_29_code 33 = .ok (.aload_n 3, 1) := by decide +kernel
theorem d_FW_settleDue_34 : decode prog_1_method_29_code 34 = .ok (.getfield 191, 3) := by decide +kernel
theorem d_FW_settleDue_37 : decode prog_1_method_29_code 37 = .ok (.isub, 1) := by decide +kernel
theorem d_FW_settleDue_38 : decode prog_1_method_29_code 38 = .ok (.aload_n 0, 1) := by decide +kernel
theorem d_FW_settleDue_39 : decode prog_1_method_29_code 39 = .ok (.getfield 52, 3) := by decide +kernel
theorem d_FW_settleDue_42 : decode prog_1_method_29_code 42 = .ok (.if_icmp .ge (6), 3) := by decide +kernel
theorem d_FW_settleDue_45 : decode prog_1_method_29_code 45 = .ok (.goto (30), 3) := by decide +kernel
theorem d_FW_settleDue_48 : decode prog_1_method_29_code 48 = .ok (.aload_n 3, 1) := by decide +kernel
theorem d_FW_settleDue_49 : decode prog_1_method_29_code 49 = .ok (.getfield 160, 3) := by decide +kernel
theorem d_FW_settleDue_52 : decode prog_1_method_29_code 52 = .ok (.aload_n 0, 1) := by decide +kernel
theorem d_FW_settleDue_53 : decode prog_1_method_29_code 53 = .ok (.getfield 55, 3) := by decide +kernel
theorem d_FW_settleDue_56 : decode prog_1_method_29_code 56 = .ok (.if_icmp .lt (14), 3) := by decide +kernel
theorem d_FW_settleDue_59 : decode prog_1_method_29_code 59 = .ok (.aload_n 3, 1) := by decide +kernel
theorem d_FW_settleDue_60 : decode prog_1_method_29_code 60 = .ok (.iconst 1, 1) := by decide +kernel
theorem d_FW_settleDue_61 : decode prog_1_method_29_code 61 = .ok (.invokevirtual 236, 3) := by decide +kernel
theorem d_FW_settleDue_64 : decode prog_1_method_29_code 64 = .ok (.iinc 1 1, 3) := by decide +kernel
theorem d_FW_settleDue_67 : decode prog_1_method_29_code 67 = .ok (.goto (8), 3) := by decide +kernel
theorem d_FW_settleDue_70 : decode prog_1_method_29_code 70 = .ok (.aload_n 0, 1) := by decide +kernel
theorem d_FW_settleDue_71 : decode prog_1_method_29_code 71 = .ok (.aload_n 3, 1) := by decide +kernel
theorem d_FW_settleDue_72 : decode prog_1_method_29_code 72 = .ok (.invokevirtual 255, 3) := by decide +kernel
theorem d_FW_settleDue_75 : decode prog_1_method_29_code 75 = .ok (.iinc 2 1, 3) := by decide +kernel
theorem d_FW_settleDue_78 : decode prog_1_method_29_code 78 = .ok (.goto (-74), 3) := by decide +kernel
theorem d_FW_settleDue_81 : decode prog_1_method_29_code 81 = .ok (.iload_n 1, 1) := by decide +kernel
theorem d_FW_settleDue_82 : decode prog_1_method_29_code 82 = .ok (.ireturn, 1) := by decide +kernel
theorem d_FW_tick_0 : decode prog_1_method_10_code 0 = .ok (.iload_n 1, 1) := by decide +kernel
theorem d_FW_tick_1 : decode prog_1_method_10_code 1 = .ok (.ifCond .lt (10), 3) := by decide +kernel
theorem d_FW_tick_4 : decode prog_1_method_10_code 4 = .ok (.iload_n 1, 1) := by decide +kernel
theorem d_FW_tick_5 : decode prog_1_method_10_code 5 = .ok (.sipush 1000, 3) := by decide +kernel
theorem d_FW_tick_8 : decode prog_1_method_10_code 8 = .ok (.if_icmp .le (5), 3) := by decide +kernel
theorem d_FW_tick_11 : decode prog_1_method_10_code 11 = .ok (.iconst (-1), 1) := by decide +kernel
theorem d_FW_tick_12 : decode prog_1_method_10_code 12 = .ok (.ireturn, 1) := by decide +kernel
theorem d_FW_tick_13 : decode prog_1_method_10_code 13 = .ok (.iconst 0, 1) := by decide +kernel
theorem d_FW_tick_14 : decode prog_1_method_10_code 14 = .ok (.istore_n 2, 1) := by decide +kernel
theorem d_FW_tick_15 : decode prog_1_method_10_code 15 = .ok (.aload_n 0, 1) := by decide +kernel
theorem d_FW_tick_16 : decode prog_1_method_10_code 16 = .ok (.invokevirtual 142, 3) := by decide +kernel
theorem d_FW_tick_19 : decode prog_1_method_10_code 19 = .ok (.istore_n 3, 1) := by decide +kernel
theorem d_FW_tick_20 : decode prog_1_method_10_code 20 = .ok (.iconst 0, 1) := by decide +kernel
theorem d_FW_tick_21 : decode prog_1_method_10_code 21 = .ok (.istore 4, 2) := by decide +kernel
theorem d_FW_tick_23 : decode prog_1_method_10_code 23 = .ok (.iload 4, 2) := by decide +kernel
theorem d_FW_tick_25 : decode prog_1_method_10_code 25 = .ok (.iload_n 1, 1) := by decide +kernel
theorem d_FW_tick_26 : decode prog_1_method_10_code 26 = .ok (.if_icmp .ge (39), 3) := by decide +kernel
theorem d_FW_tick_29 : decode prog_1_method_10_code 29 = .ok (.aload_n 0, 1) := by decide +kernel
theorem d_FW_tick_30 : decode prog_1_method_10_code 30 = .ok (.dup, 1) := by decide +kernel
theorem d_FW_tick_31 : decode prog_1_method_10_code 31 = .ok (.getfield 58, 3) := by decide +kernel
theorem d_FW_tick_34 : decode prog_1_method_10_code 34 = .ok (.iconst 1, 1) := by decide +kernel
theorem d_FW_tick_35 : decode prog_1_method_10_code 35 = .ok (.iadd, 1) := by decide +kernel
theorem d_FW_tick_36 : decode prog_1_method_10_code 36 = .ok (.putfield 58, 3) := by decide +kernel
theorem d_FW_tick_39 : decode prog_1_method_10_code 39 = .ok (.aload_n 0, 1) := by decide +kernel
theorem d_FW_tick_40 : decode prog_1_method_10_code 40 = .ok (.getfield 58, 3) := by decide +kernel
theorem d_FW_tick_43 : decode prog_1_method_10_code 43 = .ok (.iload_n 3, 1) := by decide +kernel
theorem d_FW_tick_44 : decode prog_1_method_10_code 44 = .ok (.if_icmp .lt (15), 3) := by decide +kernel
theorem d_FW_tick_47 : decode prog_1_method_10_code 47 = .ok (.iload_n 2, 1) := by decide +kernel
theorem d_FW_tick_48 : decode prog_1_method_10_code 48 = .ok (.aload_n 0, 1) := by decide +kernel
theorem d_FW_tick_49 : decode prog_1_method_10_code 49 = .ok (.invokevirtual 145, 3) := by decide +kernel
theorem d_FW_tick_52 : decode prog_1_method_10_code 52 = .ok (.iadd, 1) := by decide +kernel
theorem d_FW_tick_53 : decode prog_1_method_10_code 53 = .ok (.istore_n 2, 1) := by decide +kernel
theorem d_FW_tick_54 : decode prog_1_method_10_code 54 = .ok (.aload_n 0, 1) := by decide +kernel
theorem d_FW_tick_55 : decode prog_1_method_10_code 55 = .ok (.invokevirtual 142, 3) := by decide +kernel
theorem d_FW_tick_58 : decode prog_1_method_10_code 58 = .ok (.istore_n 3, 1) := by decide +kernel
theorem d_FW_tick_59 : decode prog_1_method_10_code 59 = .ok (.iinc 4 1, 3) := by decide +kernel
theorem d_FW_tick_62 : decode prog_1_method_10_code 62 = .ok (.goto (-39), 3) := by decide +kernel
theorem d_FW_tick_65 : decode prog_1_method_10_code 65 = .ok (.iload_n 2, 1) := by decide +kernel
theorem d_FW_tick_66 : decode prog_1_method_10_code 66 = .ok (.ireturn, 1) := by decide +kernel
theorem d_FW_told_0 : decode prog_1_method_11_code 0 = .ok (.aload_n 0, 1) := by decide +kernel
theorem d_FW_told_1 : decode prog_1_method_11_code 1 = .ok (.iload_n 1, 1) := by decide +kernel
theorem d_FW_told_2 : decode prog_1_method_11_code 2 = .ok (.invokevirtual 78, 3) := by decide +kernel
theorem d_FW_told_5 : decode prog_1_method_11_code 5 = .ok (.astore_n 3, 1) := by decide +kernel
theorem d_FW_told_6 : decode prog_1_method_11_code 6 = .ok (.aload_n 3, 1) := by decide +kernel
theorem d_FW_told_7 : decode prog_1_method_11_code 7 = .ok (.ifnonnull (5), 3) := by decide +kernel
theorem d_FW_told_10 : decode prog_1_method_11_code 10 = .ok (.iconst (-1), 1) := by decide +kernel
theorem d_FW_told_11 : decode prog_1_method_11_code 11 = .ok (.ireturn, 1) := by decide +kernel
theorem d_FW_told_12 : decode prog_1_method_11_code 12 = .ok (.iload_n 2, 1) := by decide +kernel
theorem d_FW_told_13 : decode prog_1_method_11_code 13 = .ok (.tableswitch (90) (0) (7) #[47, 52, 57, 62, 70, 75, 80, 85], 47) := by decide +kernel
theorem d_FW_told_60 : decode prog_1_method_11_code 60 = .ok (.aload_n 3, 1) := by decide +kernel
theorem d_FW_told_61 : decode prog_1_method_11_code 61 = .ok (.getfield 82, 3) := by decide +kernel
theorem d_FW_told_64 : decode prog_1_method_11_code 64 = .ok (.ireturn, 1) := by decide +kernel
theorem d_FW_told_65 : decode prog_1_method_11_code 65 = .ok (.aload_n 3, 1) := by decide +kernel
theorem d_FW_told_66 : decode prog_1_method_11_code 66 = .ok (.getfield 85, 3) := by decide +kernel
theorem d_FW_told_69 : decode prog_1_method_11_code 69 = .ok (.ireturn, 1) := by decide +kernel
theorem d_FW_told_70 : decode prog_1_method_11_code 70 = .ok (.aload_n 3, 1) := by decide +kernel
theorem d_FW_told_71 : decode prog_1_method_11_code 71 = .ok (.getfield 148, 3) := by decide +kernel
theorem d_FW_told_74 : decode prog_1_method_11_code 74 = .ok (.ireturn, 1) := by decide +kernel
theorem d_FW_told_75 : decode prog_1_method_11_code 75 = .ok (.aload_n 3, 1) := by decide +kernel
theorem d_FW_told_76 : decode prog_1_method_11_code 76 = .ok (.getfield 151, 3) := by decide +kernel
theorem d_FW_told_79 : decode prog_1_method_11_code 79 = .ok (.getfield 103, 3) := by decide +kernel
theorem d_FW_told_82 : decode prog_1_method_11_code 82 = .ok (.ireturn, 1) := by decide +kernel
theorem d_FW_told_83 : decode prog_1_method_11_code 83 = .ok (.aload_n 3, 1) := by decide +kernel
theorem d_FW_told_84 : decode prog_1_method_11_code 84 = .ok (.invokevirtual 154, 3) := by decide +kernel
theorem d_FW_told_87 : decode prog_1_method_11_code 87 = .ok (.ireturn, 1) := by decide +kernel
theorem d_FW_told_88 : decode prog_1_method_11_code 88 = .ok (.aload_n 3, 1) := by decide +kernel
theorem d_FW_told_89 : decode prog_1_method_11_code 89 = .ok (.getfield 157, 3) := by decide +kernel
theorem d_FW_told_92 : decode prog_1_method_11_code 92 = .ok (.ireturn, 1) := by decide +kernel
theorem d_FW_told_93 : decode prog_1_method_11_code 93 = .ok (.aload_n 3, 1) := by decide +kernel
theorem d_FW_told_94 : decode prog_1_method_11_code 94 = .ok (.getfield 160, 3) := by decide +kernel
theorem d_FW_told_97 : decode prog_1_method_11_code 97 = .ok (.ireturn, 1) := by decide +kernel
theorem d_FW_told_98 : decode prog_1_method_11_code 98 = .ok (.aload_n 3, 1) := by decide +kernel
theorem d_FW_told_99 : decode prog_1_method_11_code 99 = .ok (.getfield 163, 3) := by decide +kernel
theorem d_FW_told_102 : decode prog_1_method_11_code 102 = .ok (.ireturn, 1) := by decide +kernel
theorem d_FW_told_103 : decode prog_1_method_11_code 103 = .ok (.iconst (-1), 1) := by decide +kernel
theorem d_FW_told_104 : decode prog_1_method_11_code 104 = .ok (.ireturn, 1) := by decide +kernel
theorem d_FW_row_0 : decode prog_1_method_12_code 0 = .ok (.aload_n 0, 1) := by decide +kernel
theorem d_FW_row_1 : decode prog_1_method_12_code 1 = .ok (.iload_n 1, 1) := by decide +kernel
theorem d_FW_row_2 : decode prog_1_method_12_code 2 = .ok (.invokevirtual 78, 3) := by decide +kernel
theorem d_FW_row_5 : decode prog_1_method_12_code 5 = .ok (.astore 4, 2) := by decide +kernel
theorem d_FW_row_7 : decode prog_1_method_12_code 7 = .ok (.aload 4, 2) := by decide +kernel
theorem d_FW_row_9 : decode prog_1_method_12_code 9 = .ok (.ifnull (12), 3) := by decide +kernel
theorem d_FW_row_12 : decode prog_1_method_12_code 12 = .ok (.iload_n 3, 1) := by decide +kernel
theorem d_FW_row_13 : decode prog_1_method_12_code 13 = .ok (.ifCond .lt (8), 3) := by decide +kernel
theorem d_FW_row_16 : decode prog_1_method_12_code 16 = .ok (.iload_n 3, 1) := by decide +kernel
theorem d_FW_row_17 : decode prog_1_method_12_code 17 = .ok (.iconst 1, 1) := by decide +kernel
theorem d_FW_row_18 : decode prog_1_method_12_code 18 = .ok (.if_icmp .le (5), 3) := by decide +kernel
theorem d_FW_row_21 : decode prog_1_method_12_code 21 = .ok (.iconst (-1), 1) := by decide +kernel
theorem d_FW_row_22 : decode prog_1_method_12_code 22 = .ok (.ireturn, 1) := by decide +kernel
theorem d_FW_row_23 : decode prog_1_method_12_code 23 = .ok (.iload_n 2, 1) := by decide +kernel
theorem d_FW_row_24 : decode prog_1_method_12_code 24 = .ok (.ifCond .lt (15), 3) := by decide +kernel
theorem d_FW_row_27 : decode prog_1_method_12_code 27 = .ok (.iload_n 2, 1) := by decide +kernel
theorem d_FW_row_28 : decode prog_1_method_12_code 28 = .ok (.aload 4, 2) := by decide +kernel
theorem d_FW_row_30 : decode prog_1_method_12_code 30 = .ok (.getfield 151, 3) := by decide +kernel
theorem d_FW_row_33 : decode prog_1_method_12_code 33 = .ok (.getfield 103, 3) := by decide +kernel
theorem d_FW_row_36 : decode prog_1_method_12_code 36 = .ok (.if_icmp .lt (6), 3) := by decide +kernel
theorem d_FW_row_39 : decode prog_1_method_12_code 39 = .ok (.bipush (-2), 2) := by decide +kernel
theorem d_FW_row_41 : decode prog_1_method_12_code 41 = .ok (.ireturn, 1) := by decide +kernel
theorem d_FW_row_42 : decode prog_1_method_12_code 42 = .ok (.iload_n 3, 1) := by decide +kernel
theorem d_FW_row_43 : decode prog_1_method_12_code 43 = .ok (.ifCond .ne (15), 3) := by decide +kernel
theorem d_FW_row_46 : decode prog_1_method_12_code 46 = .ok (.aload 4, 2) := by decide +kernel
theorem d_FW_row_48 : decode prog_1_method_12_code 48 = .ok (.getfield 151, 3) := by decide +kernel
theorem d_FW_row_51 : decode prog_1_method_12_code 51 = .ok (.iload_n 2, 1) := by decide +kernel
theorem d_FW_row_52 : decode prog_1_method_12_code 52 = .ok (.invokevirtual 166, 3) := by decide +kernel
theorem d_FW_row_55 : decode prog_1_method_12_code 55 = .ok (.goto (12), 3) := by decide +kernel
theorem d_FW_row_58 : decode prog_1_method_12_code 58 = .ok (.aload 4, 2) := by decide +kernel
theorem d_FW_row_60 : decode prog_1_method_12_code 60 = .ok (.getfield 151, 3) := by decide +kernel
theorem d_FW_row_63 : decode prog_1_method_12_code 63 = .ok (.iload_n 2, 1) := by decide +kernel
theorem d_FW_row_64 : decode prog_1_method_12_code 64 = .ok (.invokevirtual 170, 3) := by decide +kernel
theorem d_FW_row_67 : decode prog_1_method_12_code 67 = .ok (.ireturn, 1) := by decide +kernel
theorem d_FW_joined_0 : decode prog_1_method_13_code 0 = .ok (.aload_n 0, 1) := by decide +kernel
theorem d_FW_joined_1 : decode prog_1_method_13_code 1 = .ok (.iload_n 1, 1) := by decide +kernel
theorem d_FW_joined_2 : decode prog_1_method_13_code 2 = .ok (.invokevirtual 78, 3) := by decide +kernel
theorem d_FW_joined_5 : decode prog_1_method_13_code 5 = .ok (.astore 4, 2) := by decide +kernel
theorem d_FW_joined_7 : decode prog_1_method_13_code 7 = .ok (.aload 4, 2) := by decide +kernel
theorem d_FW_joined_9 : decode prog_1_method_13_code 9 = .ok (.ifnull (12), 3) := by decide +kernel
theorem d_FW_joined_12 : decode prog_1_method_13_code 12 = .ok (.iload_n 3, 1) := by decide +kernel
theorem d_FW_joined_13 : decode prog_1_method_13_code 13 = .ok (.ifCond .lt (8), 3) := by decide +kernel
theorem d_FW_joined_16 : decode prog_1_method_13_code 16 = .ok (.iload_n 3, 1) := by decide +kernel
theorem d_FW_joined_17 : decode prog_1_method_13_code 17 = .ok (.iconst 1, 1) := by decide +kernel
theorem d_FW_joined_18 : decode prog_1_method_13_code 18 = .ok (.if_icmp .le (5), 3) := by decide +kernel
theorem d_FW_joined_21 : decode prog_1_method_13_code 21 = .ok (.iconst (-1), 1) := by decide +kernel
theorem d_FW_joined_22 : decode prog_1_method_13_code 22 = .ok (.ireturn, 1) := by decide +kernel
theorem d_FW_joined_23 : decode prog_1_method_13_code 23 = .ok (.iload_n 2, 1) := by decide +kernel
theorem d_FW_joined_24 : decode prog_1_method_13_code 24 = .ok (.ifCond .lt (12), 3) := by decide +kernel
theorem d_FW_joined_27 : decode prog_1_method_13_code 27 = .ok (.aload 4, 2) := by decide +kernel
theorem d_FW_joined_29 : decode prog_1_method_13_code 29 = .ok (.getfield 85, 3) := by decide +kernel
theorem d_FW_joined_32 : decode prog_1_method_13_code 32 = .ok (.iconst 1, 1) := by decide +kernel
theorem d_FW_joined_33 : decode prog_1_method_13_code 33 = .ok (.if_icmp .eq (6), 3) := by decide +kernel
theorem d_FW_joined_36 : decode prog_1_method_13_code 36 = .ok (.bipush (-2), 2) := by decide +kernel
theorem d_FW_joined_38 : decode prog_1_method_13_code 38 = .ok (.ireturn, 1) := by decide +kernel
theorem d_FW_joined_39 : decode prog_1_method_13_code 39 = .ok (.aload 4, 2) := by decide +kernel
theorem d_FW_joined_41 : decode prog_1_method_13_code 41 = .ok (.iload_n 2, 1) := by decide +kernel
theorem d_FW_joined_42 : decode prog_1_method_13_code 42 = .ok (.iload_n 3, 1) := by decide +kernel
theorem d_FW_joined_43 : decode prog_1_method_13_code 43 = .ok (.ifCond .ne (7), 3) := by decide +kernel
theorem d_FW_joined_46 : decode prog_1_method_13_code 46 = .ok (.iconst 1, 1) := by decide +kernel
theorem d_FW_joined_47 : decode prog_1_method_13_code 47 = .ok (.goto (4), 3) := by decide +kernel
theorem d_FW_joined_50 : decode prog_1_method_13_code 50 = .ok (.iconst 0, 1) := by decide +kernel
theorem d_FW_joined_51 : decode prog_1_method_13_code 51 = .ok (.invokevirtual 173, 3) := by decide +kernel
theorem d_FW_joined_54 : decode prog_1_method_13_code 54 = .ok (.ireturn, 1) := by decide +kernel
theorem d_FW_estimate_0 : decode prog_1_method_14_code 0 = .ok (.iload_n 1, 1) := by decide +kernel
theorem d_FW_estimate_1 : decode prog_1_method_14_code 1 = .ok (.ifCond .lt (12), 3) := by decide +kernel
theorem d_FW_estimate_4 : decode prog_1_method_14_code 4 = .ok (.iload_n 1, 1) := by decide +kernel
theorem d_FW_estimate_5 : decode prog_1_method_14_code 5 = .ok (.aload_n 0, 1) := by decide +kernel
theorem d_FW_estimate_6 : decode prog_1_method_14_code 6 = .ok (.getfield 41, 3) := by decide +kernel
theorem d_FW_estimate_9 : decode prog_1_method_14_code 9 = .ok (.arraylength, 1) := by decide +kernel
theorem d_FW_estimate_10 : decode prog_1_method_14_code 10 = .ok (.if_icmp .lt (5), 3) := by decide +kernel
theorem d_FW_estimate_13 : decode prog_1_method_14_code 13 = .ok (.iconst (-1), 1) := by decide +kernel
theorem d_FW_estimate_14 : decode prog_1_method_14_code 14 = .ok (.ireturn, 1) := by decide +kernel
theorem d_FW_estimate_15 : decode prog_1_method_14_code 15 = .ok (.aload_n 0, 1) := by decide +kernel
theorem d_FW_estimate_16 : decode prog_1_method_14_code 16 = .ok (.getfield 41, 3) := by decide +kernel
theorem d_FW_estimate_19 : decode prog_1_method_14_code 19 = .ok (.iload_n 1, 1) := by decide +kernel
theorem d_FW_estimate_20 : decode prog_1_method_14_code 20 = .ok (.iaload, 1) := by decide +kernel
theorem d_FW_estimate_21 : decode prog_1_method_14_code 21 = .ok (.ireturn, 1) := by decide +kernel
theorem d_FW_fact_0 : decode prog_1_method_15_code 0 = .ok (.iload_n 1, 1) := by decide +kernel
theorem d_FW_fact_1 : decode prog_1_method_15_code 1 = .ok (.invokestatic 95, 3) := by decide +kernel
theorem d_FW_fact_4 : decode prog_1_method_15_code 4 = .ok (.ifCond .eq (10), 3) := by decide +kernel
theorem d_FW_fact_7 : decode prog_1_method_15_code 7 = .ok (.iload_n 2, 1) := by decide +kernel
theorem d_FW_fact_8 : decode prog_1_method_15_code 8 = .ok (.invokestatic 95, 3) := by decide +kernel
theorem d_FW_fact_11 : decode prog_1_method_15_code 11 = .ok (.ifCond .ne (5), 3) := by decide +kernel
theorem d_FW_fact_14 : decode prog_1_method_15_code 14 = .ok (.iconst (-1), 1) := by decide +kernel
theorem d_FW_fact_15 : decode prog_1_method_15_code 15 = .ok (.ireturn, 1) := by decide +kernel
theorem d_FW_fact_16 : decode prog_1_method_15_code 16 = .ok (.aload_n 0, 1) := by decide +kernel
theorem d_FW_fact_17 : decode prog_1_method_15_code 17 = .ok (.getfield 37, 3) := by decide +kernel
theorem d_FW_fact_20 : decode prog_1_method_15_code 20 = .ok (.getfield 177, 3) := by decide +kernel
theorem d_FW_fact_23 : decode prog_1_method_15_code 23 = .ok (.iload_n 1, 1) := by decide +kernel
theorem d_FW_fact_24 : decode prog_1_method_15_code 24 = .ok (.iload_n 2, 1) := by decide +kernel
theorem d_FW_fact_25 : decode prog_1_method_15_code 25 = .ok (.invokevirtual 99, 3) := by decide +kernel
theorem d_FW_fact_28 : decode prog_1_method_15_code 28 = .ok (.ifCond .eq (16), 3) := by decide +kernel
theorem d_FW_fact_31 : decode prog_1_method_15_code 31 = .ok (.aload_n 0, 1) := by decide +kernel
theorem d_FW_fact_32 : decode prog_1_method_15_code 32 = .ok (.getfield 37, 3) := by decide +kernel
theorem d_FW_fact_35 : decode prog_1_method_15_code 35 = .ok (.getfield 177, 3) := by decide +kernel
theorem d_FW_fact_38 : decode prog_1_method_15_code 38 = .ok (.getfield 103, 3) := by decide +kernel
theorem d_FW_fact_41 : decode prog_1_method_15_code 41 = .ok (.goto (5), 3) := by decide +kernel
theorem d_FW_fact_44 : decode prog_1_method_15_code 44 = .ok (.bipush (-3), 2) := by decide +kernel
theorem d_FW_fact_46 : decode prog_1_method_15_code 46 = .ok (.ireturn, 1) := by decide +kernel
theorem d_FW_count_0 : decode prog_1_method_16_code 0 = .ok (.iload_n 1, 1) := by decide +kernel
theorem d_FW_count_1 : decode prog_1_method_16_code 1 = .ok (.tableswitch (102) (0) (7) #[47, 52, 63, 71, 76, 81, 86, 94], 47) := by decide +kernel
theorem d_FW_count_48 : decode prog_1_method_16_code 48 = .ok (.aload_n 0, 1) := by decide +kernel
theorem d_FW_count_49 : decode prog_1_method_16_code 49 = .ok (.getfield 21, 3) := by decide +kernel
theorem d_FW_count_52 : decode prog_1_method_16_code 52 = .ok (.ireturn, 1) := by decide +kernel
theorem d_FW_count_53 : decode prog_1_method_16_code 53 = .ok (.aload_n 0, 1) := by decide +kernel
theorem d_FW_count_54 : decode prog_1_method_16_code 54 = .ok (.getfield 37, 3) := by decide +kernel
theorem d_FW_count_57 : decode prog_1_method_16_code 57 = .ok (.getfield 177, 3) := by decide +kernel
theorem d_FW_count_60 : decode prog_1_method_16_code 60 = .ok (.getfield 103, 3) := by decide +kernel
theorem d_FW_count_63 : decode prog_1_method_16_code 63 = .ok (.ireturn, 1) := by decide +kernel
theorem d_FW_count_64 : decode prog_1_method_16_code 64 = .ok (.aload_n 0, 1) := by decide +kernel
theorem d_FW_count_65 : decode prog_1_method_16_code 65 = .ok (.getfield 30, 3) := by decide +kernel
theorem d_FW_count_68 : decode prog_1_method_16_code 68 = .ok (.getfield 103, 3) := by decide +kernel
theorem d_FW_count_71 : decode prog_1_method_16_code 71 = .ok (.ireturn, 1) := by decide +kernel
theorem d_FW_count_72 : decode prog_1_method_16_code 72 = .ok (.aload_n 0, 1) := by decide +kernel
theorem d_FW_count_73 : decode prog_1_method_16_code 73 = .ok (.getfield 58, 3) := by decide +kernel
theorem d_FW_count_76 : decode prog_1_method_16_code 76 = .ok (.ireturn, 1) := by decide +kernel
theorem d_FW_count_77 : decode prog_1_method_16_code 77 = .ok (.aload_n 0, 1) := by decide +kernel
theorem d_FW_count_78 : decode prog_1_method_16_code 78 = .ok (.getfield 61, 3) := by decide +kernel
theorem d_FW_count_81 : decode prog_1_method_16_code 81 = .ok (.ireturn, 1) := by decide +kernel
theorem d_FW_count_82 : decode prog_1_method_16_code 82 = .ok (.aload_n 0, 1) := by decide +kernel
theorem d_FW_count_83 : decode prog_1_method_16_code 83 = .ok (.getfield 64, 3) := by decide +kernel
theorem d_FW_count_86 : decode prog_1_method_16_code 86 = .ok (.ireturn, 1) := by decide +kernel
theorem d_FW_count_87 : decode prog_1_method_16_code 87 = .ok (.aload_n 0, 1) := by decide +kernel
theorem d_FW_count_88 : decode prog_1_method_16_code 88 = .ok (.getfield 37, 3) := by decide +kernel
theorem d_FW_count_91 : decode prog_1_method_16_code 91 = .ok (.getfield 180, 3) := by decide +kernel
theorem d_FW_count_94 : decode prog_1_method_16_code 94 = .ok (.ireturn, 1) := by decide +kernel
theorem d_FW_count_95 : decode prog_1_method_16_code 95 = .ok (.aload_n 0, 1) := by decide +kernel
theorem d_FW_count_96 : decode prog_1_method_16_code 96 = .ok (.getfield 37, 3) := by decide +kernel
theorem d_FW_count_99 : decode prog_1_method_16_code 99 = .ok (.getfield 181, 3) := by decide +kernel
theorem d_FW_count_102 : decode prog_1_method_16_code 102 = .ok (.ireturn, 1) := by decide +kernel
theorem d_FW_count_103 : decode prog_1_method_16_code 103 = .ok (.iconst (-1), 1) := by decide +kernel
theorem d_FW_count_104 : decode prog_1_method_16_code 104 = .ok (.ireturn, 1) := by decide +kernel
theorem d_FW_line_0 : decode prog_1_method_17_code 0 = .ok (.aload_n 0, 1) := by decide +kernel
theorem d_FW_line_1 : decode prog_1_method_17_code 1 = .ok (.iload_n 1, 1) := by decide +kernel
theorem d_FW_line_2 : decode prog_1_method_17_code 2 = .ok (.invokevirtual 119, 3) := by decide +kernel
theorem d_FW_line_5 : decode prog_1_method_17_code 5 = .ok (.astore_n 3, 1) := by decide +kernel
theorem d_FW_line_6 : decode prog_1_method_17_code 6 = .ok (.aload_n 3, 1) := by decide +kernel
theorem d_FW_line_7 : decode prog_1_method_17_code 7 = .ok (.ifnonnull (5), 3) := by decide +kernel
theorem d_FW_line_10 : decode prog_1_method_17_code 10 = .ok (.iconst (-1), 1) := by decide +kernel
theorem d_FW_line_11 : decode prog_1_method_17_code 11 = .ok (.ireturn, 1) := by decide +kernel
theorem d_FW_line_12 : decode prog_1_method_17_code 12 = .ok (.iload_n 2, 1) := by decide +kernel
theorem d_FW_line_13 : decode prog_1_method_17_code 13 = .ok (.tableswitch (50) (0) (2) #[27, 40, 45], 27) := by decide +kernel
theorem d_FW_line_40 : decode prog_1_method_17_code 40 = .ok (.aload_n 3, 1) := by decide +kernel
theorem d_FW_line_41 : decode prog_1_method_17_code 41 = .ok (.getfield 74, 3) := by decide +kernel
theorem d_FW_line_44 : decode prog_1_method_17_code 44 = .ok (.ifCond .eq (7), 3) := by decide +kernel
theorem d_FW_line_47 : decode prog_1_method_17_code 47 = .ok (.iconst 1, 1) := by decide +kernel
theorem d_FW_line_48 : decode prog_1_method_17_code 48 = .ok (.goto (4), 3) := by decide +kernel
theorem d_FW_line_51 : decode prog_1_method_17_code 51 = .ok (.iconst 0, 1) := by decide +kernel
theorem d_FW_line_52 : decode prog_1_method_17_code 52 = .ok (.ireturn, 1) := by decide +kernel
theorem d_FW_line_53 : decode prog_1_method_17_code 53 = .ok (.aload_n 3, 1) := by decide +kernel
theorem d_FW_line_54 : decode prog_1_method_17_code 54 = .ok (.getfield 130, 3) := by decide +kernel
theorem d_FW_line_57 : decode prog_1_method_17_code 57 = .ok (.ireturn, 1) := by decide +kernel
theorem d_FW_line_58 : decode prog_1_method_17_code 58 = .ok (.aload_n 3, 1) := by decide +kernel
theorem d_FW_line_59 : decode prog_1_method_17_code 59 = .ok (.getfield 184, 3) := by decide +kernel
theorem d_FW_line_62 : decode prog_1_method_17_code 62 = .ok (.ireturn, 1) := by decide +kernel
theorem d_FW_line_63 : decode prog_1_method_17_code 63 = .ok (.iconst (-1), 1) := by decide +kernel
theorem d_FW_line_64 : decode prog_1_method_17_code 64 = .ok (.ireturn, 1) := by decide +kernel
theorem d_Mo_init_0 : decode prog_9_method_1_code 0 = .ok (.aload_n 0, 1) := by decide +kernel
theorem d_Mo_init_1 : decode prog_9_method_1_code 1 = .ok (.invokespecial 1, 3) := by decide +kernel
theorem d_Mo_init_4 : decode prog_9_method_1_code 4 = .ok (.aload_n 0, 1) := by decide +kernel
theorem d_Mo_init_5 : decode prog_9_method_1_code 5 = .ok (.iconst 5, 1) := by decide +kernel
theorem d_Mo_init_6 : decode prog_9_method_1_code 6 = .ok (.newarray .boolean, 2) := by decide +kernel
theorem d_Mo_init_8 : decode prog_9_method_1_code 8 = .ok (.putfield 7, 3) := by decide +kernel
theorem d_Mo_init_11 : decode prog_9_method_1_code 11 = .ok (.aload_n 0, 1) := by decide +kernel
theorem d_Mo_init_12 : decode prog_9_method_1_code 12 = .ok (.sipush 1500, 3) := by decide +kernel
theorem d_Mo_init_15 : decode prog_9_method_1_code 15 = .ok (.newarray .int, 2) := by decide +kernel
theorem d_Mo_init_17 : decode prog_9_method_1_code 17 = .ok (.putfield 13, 3) := by decide +kernel
theorem d_Mo_init_20 : decode prog_9_method_1_code 20 = .ok (.aload_n 0, 1) := by decide +kernel
theorem d_Mo_init_21 : decode prog_9_method_1_code 21 = .ok (.iconst 5, 1) := by decide +kernel
theorem d_Mo_init_22 : decode prog_9_method_1_code 22 = .ok (.newarray .int, 2) := by decide +kernel
theorem d_Mo_init_24 : decode prog_9_method_1_code 24 = .ok (.putfield 17, 3) := by decide +kernel
theorem d_Mo_init_27 : decode prog_9_method_1_code 27 = .ok (.aload_n 0, 1) := by decide +kernel
theorem d_Mo_init_28 : decode prog_9_method_1_code 28 = .ok (.sipush 150, 3) := by decide +kernel
theorem d_Mo_init_31 : decode prog_9_method_1_code 31 = .ok (.newarray .int, 2) := by decide +kernel
theorem d_Mo_init_33 : decode prog_9_method_1_code 33 = .ok (.putfield 20, 3) := by decide +kernel
theorem d_Mo_init_36 : decode prog_9_method_1_code 36 = .ok (.aload_n 0, 1) := by decide +kernel
theorem d_Mo_init_37 : decode prog_9_method_1_code 37 = .ok (.iconst 5, 1) := by decide +kernel
theorem d_Mo_init_38 : decode prog_9_method_1_code 38 = .ok (.newarray .int, 2) := by decide +kernel
theorem d_Mo_init_40 : decode prog_9_method_1_code 40 = .ok (.putfield 23, 3) := by decide +kernel
theorem d_Mo_init_43 : decode prog_9_method_1_code 43 = .ok (.aload_n 0, 1) := by decide +kernel
theorem d_Mo_init_44 : decode prog_9_method_1_code 44 = .ok (.iconst 4, 1) := by decide +kernel
theorem d_Mo_init_45 : decode prog_9_method_1_code 45 = .ok (.putfield 26, 3) := by decide +kernel
theorem d_Mo_init_48 : decode prog_9_method_1_code 48 = .ok (.aload_n 0, 1) := by decide +kernel
theorem d_Mo_init_49 : decode prog_9_method_1_code 49 = .ok (.bipush 10, 2) := by decide +kernel
theorem d_Mo_init_51 : decode prog_9_method_1_code 51 = .ok (.putfield 30, 3) := by decide +kernel
theorem d_Mo_init_54 : decode prog_9_method_1_code 54 = .ok (.aload_n 0, 1) := by decide +kernel
theorem d_Mo_init_55 : decode prog_9_method_1_code 55 = .ok (.iconst 2, 1) := by decide +kernel
theorem d_Mo_init_56 : decode prog_9_method_1_code 56 = .ok (.putfield 33, 3) := by decide +kernel
theorem d_Mo_init_59 : decode prog_9_method_1_code 59 = .ok (.aload_n 0, 1) := by decide +kernel
theorem d_Mo_init_60 : decode prog_9_method_1_code 60 = .ok (.bipush 20, 2) := by decide +kernel
theorem d_Mo_init_62 : decode prog_9_method_1_code 62 = .ok (.newarray .int, 2) := by decide +kernel
theorem d_Mo_init_64 : decode prog_9_method_1_code 64 = .ok (.putfield 36, 3) := by decide +kernel
theorem d_Mo_init_67 : decode prog_9_method_1_code 67 = .ok (.aload_n 0, 1) := by decide +kernel
theorem d_Mo_init_68 : decode prog_9_method_1_code 68 = .ok (.bipush 20, 2) := by decide +kernel
theorem d_Mo_init_70 : decode prog_9_method_1_code 70 = .ok (.newarray .int, 2) := by decide +kernel
theorem d_Mo_init_72 : decode prog_9_method_1_code 72 = .ok (.putfield 39, 3) := by decide +kernel
theorem d_Mo_init_75 : decode prog_9_method_1_code 75 = .ok (.aload_n 0, 1) := by decide +kernel
theorem d_Mo_init_76 : decode prog_9_method_1_code 76 = .ok (.bipush 24, 2) := by decide +kernel
theorem d_Mo_init_78 : decode prog_9_method_1_code 78 = .ok (.newarray .int, 2) := by decide +kernel
theorem d_Mo_init_80 : decode prog_9_method_1_code 80 = .ok (.putfield 42, 3) := by decide +kernel
theorem d_Mo_init_83 : decode prog_9_method_1_code 83 = .ok (.aload_n 0, 1) := by decide +kernel
theorem d_Mo_init_84 : decode prog_9_method_1_code 84 = .ok (.bipush 24, 2) := by decide +kernel
theorem d_Mo_init_86 : decode prog_9_method_1_code 86 = .ok (.newarray .boolean, 2) := by decide +kernel
theorem d_Mo_init_88 : decode prog_9_method_1_code 88 = .ok (.putfield 45, 3) := by decide +kernel
theorem d_Mo_init_91 : decode prog_9_method_1_code 91 = .ok (.aload_n 0, 1) := by decide +kernel
theorem d_Mo_init_92 : decode prog_9_method_1_code 92 = .ok (.bipush 24, 2) := by decide +kernel
theorem d_Mo_init_94 : decode prog_9_method_1_code 94 = .ok (.newarray .int, 2) := by decide +kernel
theorem d_Mo_init_96 : decode prog_9_method_1_code 96 = .ok (.putfield 48, 3) := by decide +kernel
theorem d_Mo_init_99 : decode prog_9_method_1_code 99 = .ok (.aload_n 0, 1) := by decide +kernel
theorem d_Mo_init_100 : decode prog_9_method_1_code 100 = .ok (.bipush 24, 2) := by decide +kernel
theorem d_Mo_init_102 : decode prog_9_method_1_code 102 = .ok (.newarray .int, 2) := by decide +kernel
theorem d_Mo_init_104 : decode prog_9_method_1_code 104 = .ok (.putfield 51, 3) := by decide +kernel
theorem d_Mo_init_107 : decode prog_9_method_1_code 107 = .ok (.aload_n 0, 1) := by decide +kernel
theorem d_Mo_init_108 : decode prog_9_method_1_code 108 = .ok (.bipush 24, 2) := by decide +kernel
theorem d_Mo_init_110 : decode prog_9_method_1_code 110 = .ok (.newarray .int, 2) := by decide +kernel
theorem d_Mo_init_112 : decode prog_9_method_1_code 112 = .ok (.putfield 54, 3) := by decide +kernel
theorem d_Mo_init_115 : decode prog_9_method_1_code 115 = .ok (.aload_n 0, 1) := by decide +kernel
theorem d_Mo_init_116 : decode prog_9_method_1_code 116 = .ok (.sipush 480, 3) := by decide +kernel
theorem d_Mo_init_119 : decode prog_9_method_1_code 119 = .ok (.newarray .int, 2) := by decide +kernel
theorem d_Mo_init_121 : decode prog_9_method_1_code 121 = .ok (.putfield 57, 3) := by decide +kernel
theorem d_Mo_init_124 : decode prog_9_method_1_code 124 = .ok (.aload_n 0, 1) := by decide +kernel
theorem d_Mo_init_125 : decode prog_9_method_1_code 125 = .ok (.sipush 480, 3) := by decide +kernel
theorem d_Mo_init_128 : decode prog_9_method_1_code 128 = .ok (.newarray .int, 2) := by decide +kernel
theorem d_Mo_init_130 : decode prog_9_method_1_code 130 = .ok (.putfield 60, 3) := by decide +kernel
theorem d_Mo_init_133 : decode prog_9_method_1_code 133 = .ok (.aload_n 0, 1) := by decide +kernel
theorem d_Mo_init_134 : decode prog_9_method_1_code 134 = .ok (.bipush 24, 2) := by decide +kernel
theorem d_Mo_init_136 : decode prog_9_method_1_code 136 = .ok (.newarray .int, 2) := by decide +kernel
theorem d_Mo_init_138 : decode prog_9_method_1_code 138 = .ok (.putfield 63, 3) := by decide +kernel
theorem d_Mo_init_141 : decode prog_9_method_1_code 141 = .ok (.aload_n 0, 1) := by decide +kernel
theorem d_Mo_init_142 : decode prog_9_method_1_code 142 = .ok (.sipush 480, 3) := by decide +kernel
theorem d_Mo_init_145 : decode prog_9_method_1_code 145 = .ok (.newarray .int, 2) := by decide +kernel
theorem d_Mo_init_147 : decode prog_9_method_1_code 147 = .ok (.putfield 66, 3) := by decide +kernel
theorem d_Mo_init_150 : decode prog_9_method_1_code 150 = .ok (.aload_n 0, 1) := by decide +kernel
theorem d_Mo_init_151 : decode prog_9_method_1_code 151 = .ok (.bipush 24, 2) := by decide +kernel
theorem d_Mo_init_153 : decode prog_9_method_1_code 153 = .ok (.newarray .int, 2) := by decide +kernel
theorem d_Mo_init_155 : decode prog_9_method_1_code 155 = .ok (.putfield 69, 3) := by decide +kernel
theorem d_Mo_init_158 : decode prog_9_method_1_code 158 = .ok (.aload_n 0, 1) := by decide +kernel
theorem d_Mo_init_159 : decode prog_9_method_1_code 159 = .ok (.bipush 24, 2) := by decide +kernel
theorem d_Mo_init_161 : decode prog_9_method_1_code 161 = .ok (.newarray .int, 2) := by decide +kernel
theorem d_Mo_init_163 : decode prog_9_method_1_code 163 = .ok (.putfield 72, 3) := by decide +kernel
theorem d_Mo_init_166 : decode prog_9_method_1_code 166 = .ok (.aload_n 0, 1) := by decide +kernel
theorem d_Mo_init_167 : decode prog_9_method_1_code 167 = .ok (.bipush 24, 2) := by decide +kernel
theorem d_Mo_init_169 : decode prog_9_method_1_code 169 = .ok (.newarray .int, 2) := by decide +kernel
theorem d_Mo_init_171 : decode prog_9_method_1_code 171 = .ok (.putfield 75, 3) := by decide +kernel
theorem d_Mo_init_174 : decode prog_9_method_1_code 174 = .ok (.aload_n 0, 1) := by decide +kernel
theorem d_Mo_init_175 : decode prog_9_method_1_code 175 = .ok (.sipush 1440, 3) := by decide +kernel
theorem d_Mo_init_178 : decode prog_9_method_1_code 178 = .ok (.newarray .int, 2) := by decide +kernel
theorem d_Mo_init_180 : decode prog_9_method_1_code 180 = .ok (.putfield 78, 3) := by decide +kernel
theorem d_Mo_init_183 : decode prog_9_method_1_code 183 = .ok (.aload_n 0, 1) := by decide +kernel
theorem d_Mo_init_184 : decode prog_9_method_1_code 184 = .ok (.sipush 1440, 3) := by decide +kernel
theorem d_Mo_init_187 : decode prog_9_method_1_code 187 = .ok (.newarray .int, 2) := by decide +kernel
theorem d_Mo_init_189 : decode prog_9_method_1_code 189 = .ok (.putfield 81, 3) := by decide +kernel
theorem d_Mo_init_192 : decode prog_9_method_1_code 192 = .ok (.aload_n 0, 1) := by decide +kernel
theorem d_Mo_init_193 : decode prog_9_method_1_code 193 = .ok (.bipush 24, 2) := by decide +kernel
theorem d_Mo_init_195 : decode prog_9_method_1_code 195 = .ok (.newarray .int, 2) := by decide +kernel
theorem d_Mo_init_197 : decode prog_9_method_1_code 197 = .ok (.putfield 84, 3) := by decide +kernel
theorem d_Mo_init_200 : decode prog_9_method_1_code 200 = .ok (.aload_n 0, 1) := by decide +kernel
theorem d_Mo_init_201 : decode prog_9_method_1_code 201 = .ok (.bipush 24, 2) := by decide +kernel
theorem d_Mo_init_203 : decode prog_9_method_1_code 203 = .ok (.newarray .int, 2) := by decide +kernel
theorem d_Mo_init_205 : decode prog_9_method_1_code 205 = .ok (.putfield 87, 3) := by decide +kernel
theorem d_Mo_init_208 : decode prog_9_method_1_code 208 = .ok (.aload_n 0, 1) := by decide +kernel
theorem d_Mo_init_209 : decode prog_9_method_1_code 209 = .ok (.bipush 24, 2) := by decide +kernel
theorem d_Mo_init_211 : decode prog_9_method_1_code 211 = .ok (.newarray .int, 2) := by decide +kernel
theorem d_Mo_init_213 : decode prog_9_method_1_code 213 = .ok (.putfield 90, 3) := by decide +kernel
theorem d_Mo_init_216 : decode prog_9_method_1_code 216 = .ok (.aload_n 0, 1) := by decide +kernel
theorem d_Mo_init_217 : decode prog_9_method_1_code 217 = .ok (.bipush 24, 2) := by decide +kernel
theorem d_Mo_init_219 : decode prog_9_method_1_code 219 = .ok (.newarray .int, 2) := by decide +kernel
theorem d_Mo_init_221 : decode prog_9_method_1_code 221 = .ok (.putfield 93, 3) := by decide +kernel
theorem d_Mo_init_224 : decode prog_9_method_1_code 224 = .ok (.aload_n 0, 1) := by decide +kernel
theorem d_Mo_init_225 : decode prog_9_method_1_code 225 = .ok (.bipush 24, 2) := by decide +kernel
theorem d_Mo_init_227 : decode prog_9_method_1_code 227 = .ok (.newarray .int, 2) := by decide +kernel
theorem d_Mo_init_229 : decode prog_9_method_1_code 229 = .ok (.putfield 96, 3) := by decide +kernel
theorem d_Mo_init_232 : decode prog_9_method_1_code 232 = .ok (.aload_n 0, 1) := by decide +kernel
theorem d_Mo_init_233 : decode prog_9_method_1_code 233 = .ok (.bipush 24, 2) := by decide +kernel
theorem d_Mo_init_235 : decode prog_9_method_1_code 235 = .ok (.newarray .int, 2) := by decide +kernel
theorem d_Mo_init_237 : decode prog_9_method_1_code 237 = .ok (.putfield 99, 3) := by decide +kernel
theorem d_Mo_init_240 : decode prog_9_method_1_code 240 = .ok (.aload_n 0, 1) := by decide +kernel
theorem d_Mo_init_241 : decode prog_9_method_1_code 241 = .ok (.sipush 480, 3) := by decide +kernel
theorem d_Mo_init_244 : decode prog_9_method_1_code 244 = .ok (.newarray .int, 2) := by decide +kernel
theorem d_Mo_init_246 : decode prog_9_method_1_code 246 = .ok (.putfield 102, 3) := by decide +kernel
theorem d_Mo_init_249 : decode prog_9_method_1_code 249 = .ok (.aload_n 0, 1) := by decide +kernel
theorem d_Mo_init_250 : decode prog_9_method_1_code 250 = .ok (.iconst 4, 1) := by decide +kernel
theorem d_Mo_init_251 : decode prog_9_method_1_code 251 = .ok (.newarray .int, 2) := by decide +kernel
theorem d_Mo_init_253 : decode prog_9_method_1_code 253 = .ok (.dup, 1) := by decide +kernel
theorem d_Mo_init_254 : decode prog_9_method_1_code 254 = .ok (.iconst 0, 1) := by decide +kernel
theorem d_Mo_init_255 : decode prog_9_method_1_code 255 = .ok (.sipush 1000, 3) := by decide +kernel
theorem d_Mo_init_258 : decode prog_9_method_1_code 258 = .ok (.iastore, 1) := by decide +kernel
theorem d_Mo_init_259 : decode prog_9_method_1_code 259 = .ok (.dup, 1) := by decide +kernel
theorem d_Mo_init_260 : decode prog_9_method_1_code 260 = .ok (.iconst 1, 1) := by decide +kernel
theorem d_Mo_init_261 : decode prog_9_method_1_code 261 = .ok (.sipush 1000, 3) := by decide +kernel
theorem d_Mo_init_264 : decode prog_9_method_1_code 264 = .ok (.iastore, 1) := by decide +kernel
theorem d_Mo_init_265 : decode prog_9_method_1_code 265 = .ok (.dup, 1) := by decide +kernel
theorem d_Mo_init_266 : decode prog_9_method_1_code 266 = .ok (.iconst 2, 1) := by decide +kernel
theorem d_Mo_init_267 : decode prog_9_method_1_code 267 = .ok (.sipush 1000, 3) := by decide +kernel
theorem d_Mo_init_270 : decode prog_9_method_1_code 270 = .ok (.iastore, 1) := by decide +kernel
theorem d_Mo_init_271 : decode prog_9_method_1_code 271 = .ok (.dup, 1) := by decide +kernel
theorem d_Mo_init_272 : decode prog_9_method_1_code 272 = .ok (.iconst 3, 1) := by decide +kernel

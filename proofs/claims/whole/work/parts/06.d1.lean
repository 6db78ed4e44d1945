theorem d_ServingEnd_remember_83 : decode prog_6_method_7_code 83 = .ok (.aload_n 0, 1) := by decide +kernel
theorem d_ServingEnd_remember_84 : decode prog_6_method_7_code 84 = .ok (.getfield 14, 3) := by decide +kernel
theorem d_ServingEnd_remember_87 : decode prog_6_method_7_code 87 = .ok (.iload 4, 2) := by decide +kernel
theorem d_ServingEnd_remember_89 : decode prog_6_method_7_code 89 = .ok (.invokevirtual 92, 3) := by decide +kernel
theorem d_ServingEnd_remember_92 : decode prog_6_method_7_code 92 = .ok (.aload_n 0, 1) := by decide +kernel
theorem d_ServingEnd_remember_93 : decode prog_6_method_7_code 93 = .ok (.getfield 14, 3) := by decide +kernel
theorem d_ServingEnd_remember_96 : decode prog_6_method_7_code 96 = .ok (.iload 4, 2) := by decide +kernel
theorem d_ServingEnd_remember_98 : decode prog_6_method_7_code 98 = .ok (.invokevirtual 95, 3) := by decide +kernel
theorem d_ServingEnd_remember_101 : decode prog_6_method_7_code 101 = .ok (.invokevirtual 98, 3) := by decide +kernel
theorem d_ServingEnd_remember_104 : decode prog_6_method_7_code 104 = .ok (.pop, 1) := by decide +kernel
theorem d_ServingEnd_remember_105 : decode prog_6_method_7_code 105 = .ok (.iinc 4 1, 3) := by decide +kernel
theorem d_ServingEnd_remember_108 : decode prog_6_method_7_code 108 = .ok (.goto (-58), 3) := by decide +kernel
theorem d_ServingEnd_remember_111 : decode prog_6_method_7_code 111 = .ok (.iinc 3 1, 3) := by decide +kernel
theorem d_ServingEnd_remember_114 : decode prog_6_method_7_code 114 = .ok (.goto (-75), 3) := by decide +kernel
theorem d_ServingEnd_remember_117 : decode prog_6_method_7_code 117 = .ok (.return_, 1) := by decide +kernel
theorem d_ServingEnd_writeRows_0 : decode prog_6_method_8_code 0 = .ok (.aload_n 1, 1) := by decide +kernel
theorem d_ServingEnd_writeRows_1 : decode prog_6_method_8_code 1 = .ok (.ifnonnull (4), 3) := by decide +kernel
theorem d_ServingEnd_writeRows_4 : decode prog_6_method_8_code 4 = .ok (.return_, 1) := by decide +kernel
theorem d_ServingEnd_writeRows_5 : decode prog_6_method_8_code 5 = .ok (.iload_n 3, 1) := by decide +kernel
theorem d_ServingEnd_writeRows_6 : decode prog_6_method_8_code 6 = .ok (.bipush 8, 2) := by decide +kernel
theorem d_ServingEnd_writeRows_8 : decode prog_6_method_8_code 8 = .ok (.iadd, 1) := by decide +kernel
theorem d_ServingEnd_writeRows_9 : decode prog_6_method_8_code 9 = .ok (.aload_n 1, 1) := by decide +kernel
theorem d_ServingEnd_writeRows_10 : decode prog_6_method_8_code 10 = .ok (.getfield 69, 3) := by decide +kernel
theorem d_ServingEnd_writeRows_13 : decode prog_6_method_8_code 13 = .ok (.getfield 72, 3) := by decide +kernel
theorem d_ServingEnd_writeRows_16 : decode prog_6_method_8_code 16 = .ok (.invokestatic 102, 3) := by decide +kernel
theorem d_ServingEnd_writeRows_19 : decode prog_6_method_8_code 19 = .ok (.istore 4, 2) := by decide +kernel
theorem d_ServingEnd_writeRows_21 : decode prog_6_method_8_code 21 = .ok (.aload_n 0, 1) := by decide +kernel
theorem d_ServingEnd_writeRows_22 : decode prog_6_method_8_code 22 = .ok (.getfield 36, 3) := by decide +kernel
theorem d_ServingEnd_writeRows_25 : decode prog_6_method_8_code 25 = .ok (.iconst 2, 1) := by decide +kernel
theorem d_ServingEnd_writeRows_26 : decode prog_6_method_8_code 26 = .ok (.aload_n 1, 1) := by decide +kernel
theorem d_ServingEnd_writeRows_27 : decode prog_6_method_8_code 27 = .ok (.getfield 85, 3) := by decide +kernel
theorem d_ServingEnd_writeRows_30 : decode prog_6_method_8_code 30 = .ok (.invokevirtual 78, 3) := by decide +kernel
theorem d_ServingEnd_writeRows_33 : decode prog_6_method_8_code 33 = .ok (.aload_n 0, 1) := by decide +kernel
theorem d_ServingEnd_writeRows_34 : decode prog_6_method_8_code 34 = .ok (.getfield 36, 3) := by decide +kernel
theorem d_ServingEnd_writeRows_37 : decode prog_6_method_8_code 37 = .ok (.iload_n 2, 1) := by decide +kernel
theorem d_ServingEnd_writeRows_38 : decode prog_6_method_8_code 38 = .ok (.invokevirtual 82, 3) := by decide +kernel
theorem d_ServingEnd_writeRows_41 : decode prog_6_method_8_code 41 = .ok (.aload_n 0, 1) := by decide +kernel
theorem d_ServingEnd_writeRows_42 : decode prog_6_method_8_code 42 = .ok (.getfield 36, 3) := by decide +kernel
theorem d_ServingEnd_writeRows_45 : decode prog_6_method_8_code 45 = .ok (.iload 4, 2) := by decide +kernel
theorem d_ServingEnd_writeRows_47 : decode prog_6_method_8_code 47 = .ok (.aload_n 1, 1) := by decide +kernel
theorem d_ServingEnd_writeRows_48 : decode prog_6_method_8_code 48 = .ok (.getfield 69, 3) := by decide +kernel
theorem d_ServingEnd_writeRows_51 : decode prog_6_method_8_code 51 = .ok (.getfield 72, 3) := by decide +kernel
theorem d_ServingEnd_writeRows_54 : decode prog_6_method_8_code 54 = .ok (.if_icmp .ge (7), 3) := by decide +kernel
theorem d_ServingEnd_writeRows_57 : decode prog_6_method_8_code 57 = .ok (.iconst 1, 1) := by decide +kernel
theorem d_ServingEnd_writeRows_58 : decode prog_6_method_8_code 58 = .ok (.goto (4), 3) := by decide +kernel
theorem d_ServingEnd_writeRows_61 : decode prog_6_method_8_code 61 = .ok (.iconst 0, 1) := by decide +kernel
theorem d_ServingEnd_writeRows_62 : decode prog_6_method_8_code 62 = .ok (.invokevirtual 82, 3) := by decide +kernel
theorem d_ServingEnd_writeRows_65 : decode prog_6_method_8_code 65 = .ok (.iload_n 3, 1) := by decide +kernel
theorem d_ServingEnd_writeRows_66 : decode prog_6_method_8_code 66 = .ok (.istore 5, 2) := by decide +kernel
theorem d_ServingEnd_writeRows_68 : decode prog_6_method_8_code 68 = .ok (.iload 5, 2) := by decide +kernel
theorem d_ServingEnd_writeRows_70 : decode prog_6_method_8_code 70 = .ok (.iload 4, 2) := by decide +kernel
theorem d_ServingEnd_writeRows_72 : decode prog_6_method_8_code 72 = .ok (.if_icmp .ge (41), 3) := by decide +kernel
theorem d_ServingEnd_writeRows_75 : decode prog_6_method_8_code 75 = .ok (.aload_n 0, 1) := by decide +kernel
theorem d_ServingEnd_writeRows_76 : decode prog_6_method_8_code 76 = .ok (.getfield 36, 3) := by decide +kernel
theorem d_ServingEnd_writeRows_79 : decode prog_6_method_8_code 79 = .ok (.aload_n 1, 1) := by decide +kernel
theorem d_ServingEnd_writeRows_80 : decode prog_6_method_8_code 80 = .ok (.getfield 69, 3) := by decide +kernel
theorem d_ServingEnd_writeRows_83 : decode prog_6_method_8_code 83 = .ok (.iload 5, 2) := by decide +kernel
theorem d_ServingEnd_writeRows_85 : decode prog_6_method_8_code 85 = .ok (.invokevirtual 92, 3) := by decide +kernel
theorem d_ServingEnd_writeRows_88 : decode prog_6_method_8_code 88 = .ok (.invokevirtual 82, 3) := by decide +kernel
theorem d_ServingEnd_writeRows_91 : decode prog_6_method_8_code 91 = .ok (.aload_n 0, 1) := by decide +kernel
theorem d_ServingEnd_writeRows_92 : decode prog_6_method_8_code 92 = .ok (.getfield 36, 3) := by decide +kernel
theorem d_ServingEnd_writeRows_95 : decode prog_6_method_8_code 95 = .ok (.aload_n 1, 1) := by decide +kernel
theorem d_ServingEnd_writeRows_96 : decode prog_6_method_8_code 96 = .ok (.getfield 69, 3) := by decide +kernel
theorem d_ServingEnd_writeRows_99 : decode prog_6_method_8_code 99 = .ok (.iload 5, 2) := by decide +kernel
theorem d_ServingEnd_writeRows_101 : decode prog_6_method_8_code 101 = .ok (.invokevirtual 95, 3) := by decide +kernel
theorem d_ServingEnd_writeRows_104 : decode prog_6_method_8_code 104 = .ok (.invokevirtual 82, 3) := by decide +kernel
theorem d_ServingEnd_writeRows_107 : decode prog_6_method_8_code 107 = .ok (.iinc 5 1, 3) := by decide +kernel
theorem d_ServingEnd_writeRows_110 : decode prog_6_method_8_code 110 = .ok (.goto (-42), 3) := by decide +kernel
theorem d_ServingEnd_writeRows_113 : decode prog_6_method_8_code 113 = .ok (.return_, 1) := by decide +kernel
theorem d_ServingEnd_answerAsk_0 : decode prog_6_method_2_code 0 = .ok (.aload_n 0, 1) := by decide +kernel
theorem d_ServingEnd_answerAsk_1 : decode prog_6_method_2_code 1 = .ok (.aload_n 0, 1) := by decide +kernel
theorem d_ServingEnd_answerAsk_2 : decode prog_6_method_2_code 2 = .ok (.aload_n 1, 1) := by decide +kernel
theorem d_ServingEnd_answerAsk_3 : decode prog_6_method_2_code 3 = .ok (.getfield 41, 3) := by decide +kernel
theorem d_ServingEnd_answerAsk_6 : decode prog_6_method_2_code 6 = .ok (.invokevirtual 44, 3) := by decide +kernel
theorem d_ServingEnd_answerAsk_9 : decode prog_6_method_2_code 9 = .ok (.invokevirtual 48, 3) := by decide +kernel
theorem d_ServingEnd_answerAsk_12 : decode prog_6_method_2_code 12 = .ok (.astore_n 2, 1) := by decide +kernel
theorem d_ServingEnd_answerAsk_13 : decode prog_6_method_2_code 13 = .ok (.aload_n 2, 1) := by decide +kernel
theorem d_ServingEnd_answerAsk_14 : decode prog_6_method_2_code 14 = .ok (.ifnull (28), 3) := by decide +kernel
theorem d_ServingEnd_answerAsk_17 : decode prog_6_method_2_code 17 = .ok (.aload_n 2, 1) := by decide +kernel
theorem d_ServingEnd_answerAsk_18 : decode prog_6_method_2_code 18 = .ok (.getfield 52, 3) := by decide +kernel
theorem d_ServingEnd_answerAsk_21 : decode prog_6_method_2_code 21 = .ok (.aload_n 1, 1) := by decide +kernel
theorem d_ServingEnd_answerAsk_22 : decode prog_6_method_2_code 22 = .ok (.iconst 0, 1) := by decide +kernel
theorem d_ServingEnd_answerAsk_23 : decode prog_6_method_2_code 23 = .ok (.invokevirtual 55, 3) := by decide +kernel
theorem d_ServingEnd_answerAsk_26 : decode prog_6_method_2_code 26 = .ok (.if_icmp .ne (16), 3) := by decide +kernel
theorem d_ServingEnd_answerAsk_29 : decode prog_6_method_2_code 29 = .ok (.aload_n 0, 1) := by decide +kernel
theorem d_ServingEnd_answerAsk_30 : decode prog_6_method_2_code 30 = .ok (.dup, 1) := by decide +kernel
theorem d_ServingEnd_answerAsk_31 : decode prog_6_method_2_code 31 = .ok (.getfield 30, 3) := by decide +kernel
theorem d_ServingEnd_answerAsk_34 : decode prog_6_method_2_code 34 = .ok (.iconst 1, 1) := by decide +kernel
theorem d_ServingEnd_answerAsk_35 : decode prog_6_method_2_code 35 = .ok (.iadd, 1) := by decide +kernel
theorem d_ServingEnd_answerAsk_36 : decode prog_6_method_2_code 36 = .ok (.putfield 30, 3) := by decide +kernel
theorem d_ServingEnd_answerAsk_39 : decode prog_6_method_2_code 39 = .ok (.goto (18), 3) := by decide +kernel
theorem d_ServingEnd_answerAsk_42 : decode prog_6_method_2_code 42 = .ok (.aload_n 0, 1) := by decide +kernel
theorem d_ServingEnd_answerAsk_43 : decode prog_6_method_2_code 43 = .ok (.aload_n 1, 1) := by decide +kernel
theorem d_ServingEnd_answerAsk_44 : decode prog_6_method_2_code 44 = .ok (.getfield 41, 3) := by decide +kernel
theorem d_ServingEnd_answerAsk_47 : decode prog_6_method_2_code 47 = .ok (.invokevirtual 58, 3) := by decide +kernel
theorem d_ServingEnd_answerAsk_50 : decode prog_6_method_2_code 50 = .ok (.astore_n 2, 1) := by decide +kernel
theorem d_ServingEnd_answerAsk_51 : decode prog_6_method_2_code 51 = .ok (.aload_n 0, 1) := by decide +kernel
theorem d_ServingEnd_answerAsk_52 : decode prog_6_method_2_code 52 = .ok (.aload_n 2, 1) := by decide +kernel
theorem d_ServingEnd_answerAsk_53 : decode prog_6_method_2_code 53 = .ok (.aload_n 1, 1) := by decide +kernel
theorem d_ServingEnd_answerAsk_54 : decode prog_6_method_2_code 54 = .ok (.invokevirtual 61, 3) := by decide +kernel
theorem d_ServingEnd_answerAsk_57 : decode prog_6_method_2_code 57 = .ok (.aload_n 0, 1) := by decide +kernel
theorem d_ServingEnd_answerAsk_58 : decode prog_6_method_2_code 58 = .ok (.aload_n 2, 1) := by decide +kernel
theorem d_ServingEnd_answerAsk_59 : decode prog_6_method_2_code 59 = .ok (.aload_n 1, 1) := by decide +kernel
theorem d_ServingEnd_answerAsk_60 : decode prog_6_method_2_code 60 = .ok (.iconst 0, 1) := by decide +kernel
theorem d_ServingEnd_answerAsk_61 : decode prog_6_method_2_code 61 = .ok (.invokevirtual 55, 3) := by decide +kernel
theorem d_ServingEnd_answerAsk_64 : decode prog_6_method_2_code 64 = .ok (.iconst 0, 1) := by decide +kernel
theorem d_ServingEnd_answerAsk_65 : decode prog_6_method_2_code 65 = .ok (.invokevirtual 65, 3) := by decide +kernel
theorem d_ServingEnd_answerAsk_68 : decode prog_6_method_2_code 68 = .ok (.return_, 1) := by decide +kernel
theorem d_ServingEnd_answerMore_0 : decode prog_6_method_3_code 0 = .ok (.aload_n 0, 1) := by decide +kernel
theorem d_ServingEnd_answerMore_1 : decode prog_6_method_3_code 1 = .ok (.aload_n 0, 1) := by decide +kernel
theorem d_ServingEnd_answerMore_2 : decode prog_6_method_3_code 2 = .ok (.aload_n 1, 1) := by decide +kernel
theorem d_ServingEnd_answerMore_3 : decode prog_6_method_3_code 3 = .ok (.getfield 41, 3) := by decide +kernel
theorem d_ServingEnd_answerMore_6 : decode prog_6_method_3_code 6 = .ok (.invokevirtual 44, 3) := by decide +kernel
theorem d_ServingEnd_answerMore_9 : decode prog_6_method_3_code 9 = .ok (.invokevirtual 48, 3) := by decide +kernel
theorem d_ServingEnd_answerMore_12 : decode prog_6_method_3_code 12 = .ok (.astore_n 2, 1) := by decide +kernel
theorem d_ServingEnd_answerMore_13 : decode prog_6_method_3_code 13 = .ok (.aload_n 1, 1) := by decide +kernel
theorem d_ServingEnd_answerMore_14 : decode prog_6_method_3_code 14 = .ok (.iconst 0, 1) := by decide +kernel
theorem d_ServingEnd_answerMore_15 : decode prog_6_method_3_code 15 = .ok (.invokevirtual 55, 3) := by decide +kernel
theorem d_ServingEnd_answerMore_18 : decode prog_6_method_3_code 18 = .ok (.istore_n 3, 1) := by decide +kernel
theorem d_ServingEnd_answerMore_19 : decode prog_6_method_3_code 19 = .ok (.aload_n 1, 1) := by decide +kernel
theorem d_ServingEnd_answerMore_20 : decode prog_6_method_3_code 20 = .ok (.iconst 1, 1) := by decide +kernel
theorem d_ServingEnd_answerMore_21 : decode prog_6_method_3_code 21 = .ok (.invokevirtual 55, 3) := by decide +kernel
theorem d_ServingEnd_answerMore_24 : decode prog_6_method_3_code 24 = .ok (.istore 4, 2) := by decide +kernel
theorem d_ServingEnd_answerMore_26 : decode prog_6_method_3_code 26 = .ok (.aload_n 2, 1) := by decide +kernel
theorem d_ServingEnd_answerMore_27 : decode prog_6_method_3_code 27 = .ok (.ifnull (37), 3) := by decide +kernel
theorem d_ServingEnd_answerMore_30 : decode prog_6_method_3_code 30 = .ok (.iload 4, 2) := by decide +kernel
theorem d_ServingEnd_answerMore_32 : decode prog_6_method_3_code 32 = .ok (.aload_n 2, 1) := by decide +kernel
theorem d_ServingEnd_answerMore_33 : decode prog_6_method_3_code 33 = .ok (.getfield 69, 3) := by decide +kernel
theorem d_ServingEnd_answerMore_36 : decode prog_6_method_3_code 36 = .ok (.getfield 72, 3) := by decide +kernel
theorem d_ServingEnd_answerMore_39 : decode prog_6_method_3_code 39 = .ok (.if_icmp .gt (25), 3) := by decide +kernel
theorem d_ServingEnd_answerMore_42 : decode prog_6_method_3_code 42 = .ok (.iload_n 3, 1) := by decide +kernel
theorem d_ServingEnd_answerMore_43 : decode prog_6_method_3_code 43 = .ok (.aload_n 2, 1) := by decide +kernel
theorem d_ServingEnd_answerMore_44 : decode prog_6_method_3_code 44 = .ok (.getfield 75, 3) := by decide +kernel
theorem d_ServingEnd_answerMore_47 : decode prog_6_method_3_code 47 = .ok (.if_icmp .eq (38), 3) := by decide +kernel
theorem d_ServingEnd_answerMore_50 : decode prog_6_method_3_code 50 = .ok (.iload_n 3, 1) := by decide +kernel
theorem d_ServingEnd_answerMore_51 : decode prog_6_method_3_code 51 = .ok (.aload_n 2, 1) := by decide +kernel
theorem d_ServingEnd_answerMore_52 : decode prog_6_method_3_code 52 = .ok (.getfield 75, 3) := by decide +kernel
theorem d_ServingEnd_answerMore_55 : decode prog_6_method_3_code 55 = .ok (.iconst 1, 1) := by decide +kernel
theorem d_ServingEnd_answerMore_56 : decode prog_6_method_3_code 56 = .ok (.iadd, 1) := by decide +kernel
theorem d_ServingEnd_answerMore_57 : decode prog_6_method_3_code 57 = .ok (.sipush 255, 3) := by decide +kernel
theorem d_ServingEnd_answerMore_60 : decode prog_6_method_3_code 60 = .ok (.iand, 1) := by decide +kernel
theorem d_ServingEnd_answerMore_61 : decode prog_6_method_3_code 61 = .ok (.if_icmp .eq (24), 3) := by decide +kernel
theorem d_ServingEnd_answerMore_64 : decode prog_6_method_3_code 64 = .ok (.aload_n 0, 1) := by decide +kernel
theorem d_ServingEnd_answerMore_65 : decode prog_6_method_3_code 65 = .ok (.getfield 36, 3) := by decide +kernel
theorem d_ServingEnd_answerMore_68 : decode prog_6_method_3_code 68 = .ok (.iconst 4, 1) := by decide +kernel
theorem d_ServingEnd_answerMore_69 : decode prog_6_method_3_code 69 = .ok (.aload_n 1, 1) := by decide +kernel
theorem d_ServingEnd_answerMore_70 : decode prog_6_method_3_code 70 = .ok (.getfield 41, 3) := by decide +kernel
theorem d_ServingEnd_answerMore_73 : decode prog_6_method_3_code 73 = .ok (.invokevirtual 78, 3) := by decide +kernel
theorem d_ServingEnd_answerMore_76 : decode prog_6_method_3_code 76 = .ok (.aload_n 0, 1) := by decide +kernel
theorem d_ServingEnd_answerMore_77 : decode prog_6_method_3_code 77 = .ok (.getfield 36, 3) := by decide +kernel
theorem d_ServingEnd_answerMore_80 : decode prog_6_method_3_code 80 = .ok (.iload_n 3, 1) := by decide +kernel
theorem d_ServingEnd_answerMore_81 : decode prog_6_method_3_code 81 = .ok (.invokevirtual 82, 3) := by decide +kernel
theorem d_ServingEnd_answerMore_84 : decode prog_6_method_3_code 84 = .ok (.return_, 1) := by decide +kernel
theorem d_ServingEnd_answerMore_85 : decode prog_6_method_3_code 85 = .ok (.aload_n 2, 1) := by decide +kernel
theorem d_ServingEnd_answerMore_86 : decode prog_6_method_3_code 86 = .ok (.iload_n 3, 1) := by decide +kernel
theorem d_ServingEnd_answerMore_87 : decode prog_6_method_3_code 87 = .ok (.putfield 75, 3) := by decide +kernel
theorem d_ServingEnd_answerMore_90 : decode prog_6_method_3_code 90 = .ok (.aload_n 0, 1) := by decide +kernel
theorem d_ServingEnd_answerMore_91 : decode prog_6_method_3_code 91 = .ok (.aload_n 2, 1) := by decide +kernel
theorem d_ServingEnd_answerMore_92 : decode prog_6_method_3_code 92 = .ok (.iload_n 3, 1) := by decide +kernel
theorem d_ServingEnd_answerMore_93 : decode prog_6_method_3_code 93 = .ok (.iload 4, 2) := by decide +kernel
theorem d_ServingEnd_answerMore_95 : decode prog_6_method_3_code 95 = .ok (.invokevirtual 65, 3) := by decide +kernel
theorem d_ServingEnd_answerMore_98 : decode prog_6_method_3_code 98 = .ok (.return_, 1) := by decide +kernel
theorem d_Wire_init_0 : decode prog_7_method_1_code 0 = .ok (.aload_n 0, 1) := by decide +kernel
theorem d_Wire_init_1 : decode prog_7_method_1_code 1 = .ok (.invokespecial 3, 3) := by decide +kernel
theorem d_Wire_init_4 : decode prog_7_method_1_code 4 = .ok (.aload_n 0, 1) := by decide +kernel
theorem d_Wire_init_5 : decode prog_7_method_1_code 5 = .ok (.sipush 300, 3) := by decide +kernel
theorem d_Wire_init_8 : decode prog_7_method_1_code 8 = .ok (.newarray .int, 2) := by decide +kernel
theorem d_Wire_init_10 : decode prog_7_method_1_code 10 = .ok (.putfield 9, 3) := by decide +kernel
theorem d_Wire_init_13 : decode prog_7_method_1_code 13 = .ok (.aload_n 0, 1) := by decide +kernel
theorem d_Wire_init_14 : decode prog_7_method_1_code 14 = .ok (.iconst 0, 1) := by decide +kernel
theorem d_Wire_init_15 : decode prog_7_method_1_code 15 = .ok (.putfield 15, 3) := by decide +kernel
theorem d_Wire_init_18 : decode prog_7_method_1_code 18 = .ok (.aload_n 0, 1) := by decide +kernel
theorem d_Wire_init_19 : decode prog_7_method_1_code 19 = .ok (.iconst 0, 1) := by decide +kernel
theorem d_Wire_init_20 : decode prog_7_method_1_code 20 = .ok (.putfield 19, 3) := by decide +kernel
theorem d_Wire_init_23 : decode prog_7_method_1_code 23 = .ok (.aload_n 0, 1) := by decide +kernel
theorem d_Wire_init_24 : decode prog_7_method_1_code 24 = .ok (.new 22, 3) := by decide +kernel
theorem d_Wire_init_27 : decode prog_7_method_1_code 27 = .ok (.dup, 1) := by decide +kernel
theorem d_Wire_init_28 : decode prog_7_method_1_code 28 = .ok (.invokespecial 24, 3) := by decide +kernel
theorem d_Wire_init_31 : decode prog_7_method_1_code 31 = .ok (.putfield 25, 3) := by decide +kernel
theorem d_Wire_init_34 : decode prog_7_method_1_code 34 = .ok (.aload_n 0, 1) := by decide +kernel
theorem d_Wire_init_35 : decode prog_7_method_1_code 35 = .ok (.iconst 0, 1) := by decide +kernel
theorem d_Wire_init_36 : decode prog_7_method_1_code 36 = .ok (.putfield 29, 3) := by decide +kernel
theorem d_Wire_init_39 : decode prog_7_method_1_code 39 = .ok (.aload_n 0, 1) := by decide +kernel
theorem d_Wire_init_40 : decode prog_7_method_1_code 40 = .ok (.iconst 0, 1) := by decide +kernel
theorem d_Wire_init_41 : decode prog_7_method_1_code 41 = .ok (.putfield 32, 3) := by decide +kernel
theorem d_Wire_init_44 : decode prog_7_method_1_code 44 = .ok (.aload_n 0, 1) := by decide +kernel
theorem d_Wire_init_45 : decode prog_7_method_1_code 45 = .ok (.iload_n 1, 1) := by decide +kernel
theorem d_Wire_init_46 : decode prog_7_method_1_code 46 = .ok (.putfield 35, 3) := by decide +kernel
theorem d_Wire_init_49 : decode prog_7_method_1_code 49 = .ok (.return_, 1) := by decide +kernel
theorem d_Wire_clearOut_0 : decode prog_7_method_3_code 0 = .ok (.aload_n 0, 1) := by decide +kernel
theorem d_Wire_clearOut_1 : decode prog_7_method_3_code 1 = .ok (.iconst 0, 1) := by decide +kernel
theorem d_Wire_clearOut_2 : decode prog_7_method_3_code 2 = .ok (.putfield 15, 3) := by decide +kernel
theorem d_Wire_clearOut_5 : decode prog_7_method_3_code 5 = .ok (.aload_n 0, 1) := by decide +kernel
theorem d_Wire_clearOut_6 : decode prog_7_method_3_code 6 = .ok (.iconst 0, 1) := by decide +kernel
theorem d_Wire_clearOut_7 : decode prog_7_method_3_code 7 = .ok (.putfield 19, 3) := by decide +kernel
theorem d_Wire_clearOut_10 : decode prog_7_method_3_code 10 = .ok (.return_, 1) := by decide +kernel
theorem d_Wire_end_0 : decode prog_7_method_2_code 0 = .ok (.aload_n 0, 1) := by decide +kernel
theorem d_Wire_end_1 : decode prog_7_method_2_code 1 = .ok (.iconst 0, 1) := by decide +kernel
theorem d_Wire_end_2 : decode prog_7_method_2_code 2 = .ok (.putfield 35, 3) := by decide +kernel
theorem d_Wire_end_5 : decode prog_7_method_2_code 5 = .ok (.aload_n 0, 1) := by decide +kernel
theorem d_Wire_end_6 : decode prog_7_method_2_code 6 = .ok (.iconst 0, 1) := by decide +kernel
theorem d_Wire_end_7 : decode prog_7_method_2_code 7 = .ok (.putfield 29, 3) := by decide +kernel
theorem d_Wire_end_10 : decode prog_7_method_2_code 10 = .ok (.aload_n 0, 1) := by decide +kernel
theorem d_Wire_end_11 : decode prog_7_method_2_code 11 = .ok (.invokevirtual 39, 3) := by decide +kernel
theorem d_Wire_end_14 : decode prog_7_method_2_code 14 = .ok (.return_, 1) := by decide +kernel
theorem d_Wire_push_0 : decode prog_7_method_5_code 0 = .ok (.aload_n 0, 1) := by decide +kernel
theorem d_Wire_push_1 : decode prog_7_method_5_code 1 = .ok (.getfield 15, 3) := by decide +kernel
theorem d_Wire_push_4 : decode prog_7_method_5_code 4 = .ok (.aload_n 0, 1) := by decide +kernel
theorem d_Wire_push_5 : decode prog_7_method_5_code 5 = .ok (.getfield 19, 3) := by decide +kernel
theorem d_Wire_push_8 : decode prog_7_method_5_code 8 = .ok (.iadd, 1) := by decide +kernel
theorem d_Wire_push_9 : decode prog_7_method_5_code 9 = .ok (.sipush 300, 3) := by decide +kernel
theorem d_Wire_push_12 : decode prog_7_method_5_code 12 = .ok (.irem, 1) := by decide +kernel
theorem d_Wire_push_13 : decode prog_7_method_5_code 13 = .ok (.istore_n 2, 1) := by decide +kernel
theorem d_Wire_push_14 : decode prog_7_method_5_code 14 = .ok (.aload_n 0, 1) := by decide +kernel
theorem d_Wire_push_15 : decode prog_7_method_5_code 15 = .ok (.getfield 19, 3) := by decide +kernel
theorem d_Wire_push_18 : decode prog_7_method_5_code 18 = .ok (.sipush 300, 3) := by decide +kernel
theorem d_Wire_push_21 : decode prog_7_method_5_code 21 = .ok (.if_icmp .ge (33), 3) := by decide +kernel
theorem d_Wire_push_24 : decode prog_7_method_5_code 24 = .ok (.iload_n 2, 1) := by decide +kernel
theorem d_Wire_push_25 : decode prog_7_method_5_code 25 = .ok (.ifCond .lt (29), 3) := by decide +kernel
theorem d_Wire_push_28 : decode prog_7_method_5_code 28 = .ok (.iload_n 2, 1) := by decide +kernel
theorem d_Wire_push_29 : decode prog_7_method_5_code 29 = .ok (.aload_n 0, 1) := by decide +kernel
theorem d_Wire_push_30 : decode prog_7_method_5_code 30 = .ok (.getfield 9, 3) := by decide +kernel
theorem d_Wire_push_33 : decode prog_7_method_5_code 33 = .ok (.arraylength, 1) := by decide +kernel
theorem d_Wire_push_34 : decode prog_7_method_5_code 34 = .ok (.if_icmp .ge (20), 3) := by decide +kernel
theorem d_Wire_push_37 : decode prog_7_method_5_code 37 = .ok (.aload_n 0, 1) := by decide +kernel
theorem d_Wire_push_38 : decode prog_7_method_5_code 38 = .ok (.getfield 9, 3) := by decide +kernel
theorem d_Wire_push_41 : decode prog_7_method_5_code 41 = .ok (.iload_n 2, 1) := by decide +kernel
theorem d_Wire_push_42 : decode prog_7_method_5_code 42 = .ok (.iload_n 1, 1) := by decide +kernel
theorem d_Wire_push_43 : decode prog_7_method_5_code 43 = .ok (.iastore, 1) := by decide +kernel
theorem d_Wire_push_44 : decode prog_7_method_5_code 44 = .ok (.aload_n 0, 1) := by decide +kernel
theorem d_Wire_push_45 : decode prog_7_method_5_code 45 = .ok (.dup, 1) := by decide +kernel
theorem d_Wire_push_46 : decode prog_7_method_5_code 46 = .ok (.getfield 19, 3) := by decide +kernel
theorem d_Wire_push_49 : decode prog_7_method_5_code 49 = .ok (.iconst 1, 1) := by decide +kernel
theorem d_Wire_push_50 : decode prog_7_method_5_code 50 = .ok (.iadd, 1) := by decide +kernel
theorem d_Wire_push_51 : decode prog_7_method_5_code 51 = .ok (.putfield 19, 3) := by decide +kernel
theorem d_Wire_push_54 : decode prog_7_method_5_code 54 = .ok (.return_, 1) := by decide +kernel
theorem d_Wire_send_0 : decode prog_7_method_4_code 0 = .ok (.aload_n 0, 1) := by decide +kernel
theorem d_Wire_send_1 : decode prog_7_method_4_code 1 = .ok (.getfield 35, 3) := by decide +kernel
theorem d_Wire_send_4 : decode prog_7_method_4_code 4 = .ok (.ifCond .eq (22), 3) := by decide +kernel
theorem d_Wire_send_7 : decode prog_7_method_4_code 7 = .ok (.aload_n 0, 1) := by decide +kernel
theorem d_Wire_send_8 : decode prog_7_method_4_code 8 = .ok (.getfield 19, 3) := by decide +kernel
theorem d_Wire_send_11 : decode prog_7_method_4_code 11 = .ok (.iconst 4, 1) := by decide +kernel
theorem d_Wire_send_12 : decode prog_7_method_4_code 12 = .ok (.iadd, 1) := by decide +kernel
theorem d_Wire_send_13 : decode prog_7_method_4_code 13 = .ok (.aload_n 1, 1) := by decide +kernel
theorem d_Wire_send_14 : decode prog_7_method_4_code 14 = .ok (.getfield 42, 3) := by decide +kernel
theorem d_Wire_send_17 : decode prog_7_method_4_code 17 = .ok (.iadd, 1) := by decide +kernel
theorem d_Wire_send_18 : decode prog_7_method_4_code 18 = .ok (.iconst 1, 1) := by decide +kernel
theorem d_Wire_send_19 : decode prog_7_method_4_code 19 = .ok (.iadd, 1) := by decide +kernel
theorem d_Wire_send_20 : decode prog_7_method_4_code 20 = .ok (.sipush 300, 3) := by decide +kernel
theorem d_Wire_send_23 : decode prog_7_method_4_code 23 = .ok (.if_icmp .le (5), 3) := by decide +kernel
theorem d_Wire_send_26 : decode prog_7_method_4_code 26 = .ok (.iconst 0, 1) := by decide +kernel
theorem d_Wire_send_27 : decode prog_7_method_4_code 27 = .ok (.ireturn, 1) := by decide +kernel
theorem d_Wire_send_28 : decode prog_7_method_4_code 28 = .ok (.aload_n 0, 1) := by decide +kernel
theorem d_Wire_send_29 : decode prog_7_method_4_code 29 = .ok (.bipush 126, 2) := by decide +kernel
theorem d_Wire_send_31 : decode prog_7_method_4_code 31 = .ok (.invokevirtual 45, 3) := by decide +kernel
theorem d_Wire_send_34 : decode prog_7_method_4_code 34 = .ok (.aload_n 0, 1) := by decide +kernel
theorem d_Wire_send_35 : decode prog_7_method_4_code 35 = .ok (.aload_n 1, 1) := by decide +kernel
theorem d_Wire_send_36 : decode prog_7_method_4_code 36 = .ok (.getfield 49, 3) := by decide +kernel
theorem d_Wire_send_39 : decode prog_7_method_4_code 39 = .ok (.invokevirtual 45, 3) := by decide +kernel
theorem d_Wire_send_42 : decode prog_7_method_4_code 42 = .ok (.aload_n 0, 1) := by decide +kernel
theorem d_Wire_send_43 : decode prog_7_method_4_code 43 = .ok (.aload_n 1, 1) := by decide +kernel
theorem d_Wire_send_44 : decode prog_7_method_4_code 44 = .ok (.getfield 52, 3) := by decide +kernel
theorem d_Wire_send_47 : decode prog_7_method_4_code 47 = .ok (.invokevirtual 45, 3) := by decide +kernel
theorem d_Wire_send_50 : decode prog_7_method_4_code 50 = .ok (.aload_n 0, 1) := by decide +kernel
theorem d_Wire_send_51 : decode prog_7_method_4_code 51 = .ok (.aload_n 1, 1) := by decide +kernel
theorem d_Wire_send_52 : decode prog_7_method_4_code 52 = .ok (.getfield 42, 3) := by decide +kernel
theorem d_Wire_send_55 : decode prog_7_method_4_code 55 = .ok (.invokevirtual 45, 3) := by decide +kernel
theorem d_Wire_send_58 : decode prog_7_method_4_code 58 = .ok (.iconst 0, 1) := by decide +kernel
theorem d_Wire_send_59 : decode prog_7_method_4_code 59 = .ok (.istore_n 2, 1) := by decide +kernel
theorem d_Wire_send_60 : decode prog_7_method_4_code 60 = .ok (.iload_n 2, 1) := by decide +kernel
theorem d_Wire_send_61 : decode prog_7_method_4_code 61 = .ok (.aload_n 1, 1) := by decide +kernel
theorem d_Wire_send_62 : decode prog_7_method_4_code 62 = .ok (.getfield 42, 3) := by decide +kernel
theorem d_Wire_send_65 : decode prog_7_method_4_code 65 = .ok (.if_icmp .ge (18), 3) := by decide +kernel
theorem d_Wire_send_68 : decode prog_7_method_4_code 68 = .ok (.aload_n 0, 1) := by decide +kernel
theorem d_Wire_send_69 : decode prog_7_method_4_code 69 = .ok (.aload_n 1, 1) := by decide +kernel
theorem d_Wire_send_70 : decode prog_7_method_4_code 70 = .ok (.iload_n 2, 1) := by decide +kernel
theorem d_Wire_send_71 : decode prog_7_method_4_code 71 = .ok (.invokevirtual 55, 3) := by decide +kernel
theorem d_Wire_send_74 : decode prog_7_method_4_code 74 = .ok (.invokevirtual 45, 3) := by decide +kernel
theorem d_Wire_send_77 : decode prog_7_method_4_code 77 = .ok (.iinc 2 1, 3) := by decide +kernel
theorem d_Wire_send_80 : decode prog_7_method_4_code 80 = .ok (.goto (-20), 3) := by decide +kernel
theorem d_Wire_send_83 : decode prog_7_method_4_code 83 = .ok (.aload_n 0, 1) := by decide +kernel
theorem d_Wire_send_84 : decode prog_7_method_4_code 84 = .ok (.aload_n 1, 1) := by decide +kernel
theorem d_Wire_send_85 : decode prog_7_method_4_code 85 = .ok (.invokevirtual 59, 3) := by decide +kernel
theorem d_Wire_send_88 : decode prog_7_method_4_code 88 = .ok (.invokevirtual 45, 3) := by decide +kernel
theorem d_Wire_send_91 : decode prog_7_method_4_code 91 = .ok (.iconst 1, 1) := by decide +kernel
theorem d_Wire_send_92 : decode prog_7_method_4_code 92 = .ok (.ireturn, 1) := by decide +kernel
theorem d_Wire_takeFirst_0 : decode prog_7_method_6_code 0 = .ok (.aload_n 0, 1) := by decide +kernel
theorem d_Wire_takeFirst_1 : decode prog_7_method_6_code 1 = .ok (.getfield 19, 3) := by decide +kernel
theorem d_Wire_takeFirst_4 : decode prog_7_method_6_code 4 = .ok (.ifCond .le (22), 3) := by decide +kernel
theorem d_Wire_takeFirst_7 : decode prog_7_method_6_code 7 = .ok (.aload_n 0, 1) := by decide +kernel
theorem d_Wire_takeFirst_8 : decode prog_7_method_6_code 8 = .ok (.getfield 15, 3) := by decide +kernel
theorem d_Wire_takeFirst_11 : decode prog_7_method_6_code 11 = .ok (.ifCond .lt (15), 3) := by decide +kernel
theorem d_Wire_takeFirst_14 : decode prog_7_method_6_code 14 = .ok (.aload_n 0, 1) := by decide +kernel
theorem d_Wire_takeFirst_15 : decode prog_7_method_6_code 15 = .ok (.getfield 15, 3) := by decide +kernel
theorem d_Wire_takeFirst_18 : decode prog_7_method_6_code 18 = .ok (.aload_n 0, 1) := by decide +kernel
theorem d_Wire_takeFirst_19 : decode prog_7_method_6_code 19 = .ok (.getfield 9, 3) := by decide +kernel
theorem d_Wire_takeFirst_22 : decode prog_7_method_6_code 22 = .ok (.arraylength, 1) := by decide +kernel
theorem d_Wire_takeFirst_23 : decode prog_7_method_6_code 23 = .ok (.if_icmp .lt (6), 3) := by decide +kernel
theorem d_Wire_takeFirst_26 : decode prog_7_method_6_code 26 = .ok (.bipush (-2), 2) := by decide +kernel
theorem d_Wire_takeFirst_28 : decode prog_7_method_6_code 28 = .ok (.ireturn, 1) := by decide +kernel
theorem d_Wire_takeFirst_29 : decode prog_7_method_6_code 29 = .ok (.aload_n 0, 1) := by decide +kernel
theorem d_Wire_takeFirst_30 : decode prog_7_method_6_code 30 = .ok (.getfield 9, 3) := by decide +kernel
theorem d_Wire_takeFirst_33 : decode prog_7_method_6_code 33 = .ok (.aload_n 0, 1) := by decide +kernel
theorem d_Wire_takeFirst_34 : decode prog_7_method_6_code 34 = .ok (.getfield 15, 3) := by decide +kernel
theorem d_Wire_takeFirst_37 : decode prog_7_method_6_code 37 = .ok (.iaload, 1) := by decide +kernel
theorem d_Wire_takeFirst_38 : decode prog_7_method_6_code 38 = .ok (.istore_n 1, 1) := by decide +kernel
theorem d_Wire_takeFirst_39 : decode prog_7_method_6_code 39 = .ok (.aload_n 0, 1) := by decide +kernel
theorem d_Wire_takeFirst_40 : decode prog_7_method_6_code 40 = .ok (.aload_n 0, 1) := by decide +kernel
theorem d_Wire_takeFirst_41 : decode prog_7_method_6_code 41 = .ok (.getfield 15, 3) := by decide +kernel
theorem d_Wire_takeFirst_44 : decode prog_7_method_6_code 44 = .ok (.iconst 1, 1) := by decide +kernel
theorem d_Wire_takeFirst_45 : decode prog_7_method_6_code 45 = .ok (.iadd, 1) := by decide +kernel
theorem d_Wire_takeFirst_46 : decode prog_7_method_6_code 46 = .ok (.sipush 300, 3) := by decide +kernel
theorem d_Wire_takeFirst_49 : decode prog_7_method_6_code 49 = .ok (.irem, 1) := by decide +kernel
theorem d_Wire_takeFirst_50 : decode prog_7_method_6_code 50 = .ok (.putfield 15, 3) := by decide +kernel
theorem d_Wire_takeFirst_53 : decode prog_7_method_6_code 53 = .ok (.aload_n 0, 1) := by decide +kernel
theorem d_Wire_takeFirst_54 : decode prog_7_method_6_code 54 = .ok (.dup, 1) := by decide +kernel
theorem d_Wire_takeFirst_55 : decode prog_7_method_6_code 55 = .ok (.getfield 19, 3) := by decide +kernel
theorem d_Wire_takeFirst_58 : decode prog_7_method_6_code 58 = .ok (.iconst 1, 1) := by decide +kernel
theorem d_Wire_takeFirst_59 : decode prog_7_method_6_code 59 = .ok (.isub, 1) := by decide +kernel
theorem d_Wire_takeFirst_60 : decode prog_7_method_6_code 60 = .ok (.putfield 19, 3) := by decide +kernel
theorem d_Wire_takeFirst_63 : decode prog_7_method_6_code 63 = .ok (.iload_n 1, 1) := by decide +kernel
theorem d_Wire_takeFirst_64 : decode prog_7_method_6_code 64 = .ok (.ireturn, 1) := by decide +kernel
theorem d_Wire_lengthSuits_0 : decode prog_7_method_9_code 0 = .ok (.aload_n 0, 1) := by decide +kernel
theorem d_Wire_lengthSuits_1 : decode prog_7_method_9_code 1 = .ok (.getfield 25, 3) := by decide +kernel
theorem d_Wire_lengthSuits_4 : decode prog_7_method_9_code 4 = .ok (.getfield 49, 3) := by decide +kernel
theorem d_Wire_lengthSuits_7 : decode prog_7_method_9_code 7 = .ok (.tableswitch (91) (1) (4) #[29, 46, 69, 80], 29) := by decide +kernel
theorem d_Wire_lengthSuits_36 : decode prog_7_method_9_code 36 = .ok (.iload_n 1, 1) := by decide +kernel
theorem d_Wire_lengthSuits_37 : decode prog_7_method_9_code 37 = .ok (.iconst 2, 1) := by decide +kernel
theorem d_Wire_lengthSuits_38 : decode prog_7_method_9_code 38 = .ok (.if_icmp .lt (13), 3) := by decide +kernel
theorem d_Wire_lengthSuits_41 : decode prog_7_method_9_code 41 = .ok (.iload_n 1, 1) := by decide +kernel
theorem d_Wire_lengthSuits_42 : decode prog_7_method_9_code 42 = .ok (.bipush 9, 2) := by decide +kernel
theorem d_Wire_lengthSuits_44 : decode prog_7_method_9_code 44 = .ok (.if_icmp .gt (7), 3) := by decide +kernel
theorem d_Wire_lengthSuits_47 : decode prog_7_method_9_code 47 = .ok (.iconst 1, 1) := by decide +kernel
theorem d_Wire_lengthSuits_48 : decode prog_7_method_9_code 48 = .ok (.goto (4), 3) := by decide +kernel
theorem d_Wire_lengthSuits_51 : decode prog_7_method_9_code 51 = .ok (.iconst 0, 1) := by decide +kernel
theorem d_Wire_lengthSuits_52 : decode prog_7_method_9_code 52 = .ok (.ireturn, 1) := by decide +kernel
theorem d_Wire_lengthSuits_53 : decode prog_7_method_9_code 53 = .ok (.iload_n 1, 1) := by decide +kernel
theorem d_Wire_lengthSuits_54 : decode prog_7_method_9_code 54 = .ok (.iconst 2, 1) := by decide +kernel
theorem d_Wire_lengthSuits_55 : decode prog_7_method_9_code 55 = .ok (.if_icmp .lt (19), 3) := by decide +kernel
theorem d_Wire_lengthSuits_58 : decode prog_7_method_9_code 58 = .ok (.iload_n 1, 1) := by decide +kernel
theorem d_Wire_lengthSuits_59 : decode prog_7_method_9_code 59 = .ok (.bipush 18, 2) := by decide +kernel
theorem d_Wire_lengthSuits_61 : decode prog_7_method_9_code 61 = .ok (.if_icmp .gt (13), 3) := by decide +kernel
theorem d_Wire_lengthSuits_64 : decode prog_7_method_9_code 64 = .ok (.iload_n 1, 1) := by decide +kernel
theorem d_Wire_lengthSuits_65 : decode prog_7_method_9_code 65 = .ok (.iconst 1, 1) := by decide +kernel
theorem d_Wire_lengthSuits_66 : decode prog_7_method_9_code 66 = .ok (.iand, 1) := by decide +kernel
theorem d_Wire_lengthSuits_67 : decode prog_7_method_9_code 67 = .ok (.ifCond .ne (7), 3) := by decide +kernel
theorem d_Wire_lengthSuits_70 : decode prog_7_method_9_code 70 = .ok (.iconst 1, 1) := by decide +kernel
theorem d_Wire_lengthSuits_71 : decode prog_7_method_9_code 71 = .ok (.goto (4), 3) := by decide +kernel
theorem d_Wire_lengthSuits_74 : decode prog_7_method_9_code 74 = .ok (.iconst 0, 1) := by decide +kernel
theorem d_Wire_lengthSuits_75 : decode prog_7_method_9_code 75 = .ok (.ireturn, 1) := by decide +kernel
theorem d_Wire_lengthSuits_76 : decode prog_7_method_9_code 76 = .ok (.iload_n 1, 1) := by decide +kernel
theorem d_Wire_lengthSuits_77 : decode prog_7_method_9_code 77 = .ok (.iconst 2, 1) := by decide +kernel
theorem d_Wire_lengthSuits_78 : decode prog_7_method_9_code 78 = .ok (.if_icmp .ne (7), 3) := by decide +kernel
theorem d_Wire_lengthSuits_81 : decode prog_7_method_9_code 81 = .ok (.iconst 1, 1) := by decide +kernel
theorem d_Wire_lengthSuits_82 : decode prog_7_method_9_code 82 = .ok (.goto (4), 3) := by decide +kernel
theorem d_Wire_lengthSuits_85 : decode prog_7_method_9_code 85 = .ok (.iconst 0, 1) := by decide +kernel
theorem d_Wire_lengthSuits_86 : decode prog_7_method_9_code 86 = .ok (.ireturn, 1) := by decide +kernel
theorem d_Wire_lengthSuits_87 : decode prog_7_method_9_code 87 = .ok (.iload_n 1, 1) := by decide +kernel
theorem d_Wire_lengthSuits_88 : decode prog_7_method_9_code 88 = .ok (.iconst 1, 1) := by decide +kernel
theorem d_Wire_lengthSuits_89 : decode prog_7_method_9_code 89 = .ok (.if_icmp .ne (7), 3) := by decide +kernel
theorem d_Wire_lengthSuits_92 : decode prog_7_method_9_code 92 = .ok (.iconst 1, 1) := by decide +kernel
theorem d_Wire_lengthSuits_93 : decode prog_7_method_9_code 93 = .ok (.goto (4), 3) := by decide +kernel
theorem d_Wire_lengthSuits_96 : decode prog_7_method_9_code 96 = .ok (.iconst 0, 1) := by decide +kernel
theorem d_Wire_lengthSuits_97 : decode prog_7_method_9_code 97 = .ok (.ireturn, 1) := by decide +kernel
theorem d_Wire_lengthSuits_98 : decode prog_7_method_9_code 98 = .ok (.iconst 0, 1) := by decide +kernel
theorem d_Wire_lengthSuits_99 : decode prog_7_method_9_code 99 = .ok (.ireturn, 1) := by decide +kernel
theorem d_Wire_suits_0 : decode prog_7_method_8_code 0 = .ok (.aload_n 0, 1) := by decide +kernel
theorem d_Wire_suits_1 : decode prog_7_method_8_code 1 = .ok (.getfield 29, 3) := by decide +kernel
theorem d_Wire_suits_4 : decode prog_7_method_8_code 4 = .ok (.tableswitch (68) (0) (3) #[32, 44, 60, 62], 32) := by decide +kernel
theorem d_Wire_suits_36 : decode prog_7_method_8_code 36 = .ok (.iload_n 1, 1) := by decide +kernel
theorem d_Wire_suits_37 : decode prog_7_method_8_code 37 = .ok (.bipush 126, 2) := by decide +kernel
theorem d_Wire_suits_39 : decode prog_7_method_8_code 39 = .ok (.if_icmp .ne (7), 3) := by decide +kernel
theorem d_Wire_suits_42 : decode prog_7_method_8_code 42 = .ok (.iconst 1, 1) := by decide +kernel
theorem d_Wire_suits_43 : decode prog_7_method_8_code 43 = .ok (.goto (4), 3) := by decide +kernel
theorem d_Wire_suits_46 : decode prog_7_method_8_code 46 = .ok (.iconst 0, 1) := by decide +kernel
theorem d_Wire_suits_47 : decode prog_7_method_8_code 47 = .ok (.ireturn, 1) := by decide +kernel
theorem d_Wire_suits_48 : decode prog_7_method_8_code 48 = .ok (.iload_n 1, 1) := by decide +kernel
theorem d_Wire_suits_49 : decode prog_7_method_8_code 49 = .ok (.iconst 1, 1) := by decide +kernel
theorem d_Wire_suits_50 : decode prog_7_method_8_code 50 = .ok (.if_icmp .lt (12), 3) := by decide +kernel
theorem d_Wire_suits_53 : decode prog_7_method_8_code 53 = .ok (.iload_n 1, 1) := by decide +kernel
theorem d_Wire_suits_54 : decode prog_7_method_8_code 54 = .ok (.iconst 4, 1) := by decide +kernel
theorem d_Wire_suits_55 : decode prog_7_method_8_code 55 = .ok (.if_icmp .gt (7), 3) := by decide +kernel
theorem d_Wire_suits_58 : decode prog_7_method_8_code 58 = .ok (.iconst 1, 1) := by decide +kernel
theorem d_Wire_suits_59 : decode prog_7_method_8_code 59 = .ok (.goto (4), 3) := by decide +kernel
theorem d_Wire_suits_62 : decode prog_7_method_8_code 62 = .ok (.iconst 0, 1) := by decide +kernel
theorem d_Wire_suits_63 : decode prog_7_method_8_code 63 = .ok (.ireturn, 1) := by decide +kernel
theorem d_Wire_suits_64 : decode prog_7_method_8_code 64 = .ok (.iconst 1, 1) := by decide +kernel
theorem d_Wire_suits_65 : decode prog_7_method_8_code 65 = .ok (.ireturn, 1) := by decide +kernel
theorem d_Wire_suits_66 : decode prog_7_method_8_code 66 = .ok (.aload_n 0, 1) := by decide +kernel
theorem d_Wire_suits_67 : decode prog_7_method_8_code 67 = .ok (.iload_n 1, 1) := by decide +kernel
theorem d_Wire_suits_68 : decode prog_7_method_8_code 68 = .ok (.invokevirtual 70, 3) := by decide +kernel
theorem d_Wire_suits_71 : decode prog_7_method_8_code 71 = .ok (.ireturn, 1) := by decide +kernel
theorem d_Wire_suits_72 : decode prog_7_method_8_code 72 = .ok (.aload_n 0, 1) := by decide +kernel
theorem d_Wire_suits_73 : decode prog_7_method_8_code 73 = .ok (.getfield 29, 3) := by decide +kernel
theorem d_Wire_suits_76 : decode prog_7_method_8_code 76 = .ok (.iconst 4, 1) := by decide +kernel
theorem d_Wire_suits_77 : decode prog_7_method_8_code 77 = .ok (.aload_n 0, 1) := by decide +kernel
theorem d_Wire_suits_78 : decode prog_7_method_8_code 78 = .ok (.getfield 32, 3) := by decide +kernel
theorem d_Wire_suits_81 : decode prog_7_method_8_code 81 = .ok (.iadd, 1) := by decide +kernel
theorem d_Wire_suits_82 : decode prog_7_method_8_code 82 = .ok (.if_icmp .ne (20), 3) := by decide +kernel
theorem d_Wire_suits_85 : decode prog_7_method_8_code 85 = .ok (.iload_n 1, 1) := by decide +kernel
theorem d_Wire_suits_86 : decode prog_7_method_8_code 86 = .ok (.aload_n 0, 1) := by decide +kernel
theorem d_Wire_suits_87 : decode prog_7_method_8_code 87 = .ok (.getfield 25, 3) := by decide +kernel
theorem d_Wire_suits_90 : decode prog_7_method_8_code 90 = .ok (.invokevirtual 59, 3) := by decide +kernel
theorem d_Wire_suits_93 : decode prog_7_method_8_code 93 = .ok (.if_icmp .ne (7), 3) := by decide +kernel
theorem d_Wire_suits_96 : decode prog_7_method_8_code 96 = .ok (.iconst 1, 1) := by decide +kernel
theorem d_Wire_suits_97 : decode prog_7_method_8_code 97 = .ok (.goto (4), 3) := by decide +kernel
theorem d_Wire_suits_100 : decode prog_7_method_8_code 100 = .ok (.iconst 0, 1) := by decide +kernel
theorem d_Wire_suits_101 : decode prog_7_method_8_code 101 = .ok (.ireturn, 1) := by decide +kernel
theorem d_Wire_suits_102 : decode prog_7_method_8_code 102 = .ok (.aload_n 0, 1) := by decide +kernel
theorem d_Wire_suits_103 : decode prog_7_method_8_code 103 = .ok (.getfield 25, 3) := by decide +kernel
theorem d_Wire_suits_106 : decode prog_7_method_8_code 106 = .ok (.getfield 49, 3) := by decide +kernel
theorem d_Wire_suits_109 : decode prog_7_method_8_code 109 = .ok (.iconst 2, 1) := by decide +kernel
theorem d_Wire_suits_110 : decode prog_7_method_8_code 110 = .ok (.if_icmp .ne (16), 3) := by decide +kernel
theorem d_Wire_suits_113 : decode prog_7_method_8_code 113 = .ok (.aload_n 0, 1) := by decide +kernel
theorem d_Wire_suits_114 : decode prog_7_method_8_code 114 = .ok (.getfield 29, 3) := by decide +kernel
theorem d_Wire_suits_117 : decode prog_7_method_8_code 117 = .ok (.iconst 5, 1) := by decide +kernel
theorem d_Wire_suits_118 : decode prog_7_method_8_code 118 = .ok (.if_icmp .ne (8), 3) := by decide +kernel
theorem d_Wire_suits_121 : decode prog_7_method_8_code 121 = .ok (.iload_n 1, 1) := by decide +kernel
theorem d_Wire_suits_122 : decode prog_7_method_8_code 122 = .ok (.iconst 1, 1) := by decide +kernel
theorem d_Wire_suits_123 : decode prog_7_method_8_code 123 = .ok (.if_icmp .gt (7), 3) := by decide +kernel
theorem d_Wire_suits_126 : decode prog_7_method_8_code 126 = .ok (.iconst 1, 1) := by decide +kernel
theorem d_Wire_suits_127 : decode prog_7_method_8_code 127 = .ok (.goto (4), 3) := by decide +kernel
theorem d_Wire_suits_130 : decode prog_7_method_8_code 130 = .ok (.iconst 0, 1) := by decide +kernel
theorem d_Wire_suits_131 : decode prog_7_method_8_code 131 = .ok (.ireturn, 1) := by decide +kernel
theorem d_Wire_keep_0 : decode prog_7_method_10_code 0 = .ok (.aload_n 0, 1) := by decide +kernel
theorem d_Wire_keep_1 : decode prog_7_method_10_code 1 = .ok (.getfield 29, 3) := by decide +kernel
theorem d_Wire_keep_4 : decode prog_7_method_10_code 4 = .ok (.tableswitch (71) (0) (3) #[32, 40, 52, 63], 32) := by decide +kernel
theorem d_Wire_keep_36 : decode prog_7_method_10_code 36 = .ok (.aload_n 0, 1) := by decide +kernel
theorem d_Wire_keep_37 : decode prog_7_method_10_code 37 = .ok (.iconst 0, 1) := by decide +kernel
theorem d_Wire_keep_38 : decode prog_7_method_10_code 38 = .ok (.putfield 32, 3) := by decide +kernel
theorem d_Wire_keep_41 : decode prog_7_method_10_code 41 = .ok (.goto (55), 3) := by decide +kernel
theorem d_Wire_keep_44 : decode prog_7_method_10_code 44 = .ok (.aload_n 0, 1) := by decide +kernel
theorem d_Wire_keep_45 : decode prog_7_method_10_code 45 = .ok (.getfield 25, 3) := by decide +kernel
theorem d_Wire_keep_48 : decode prog_7_method_10_code 48 = .ok (.iload_n 1, 1) := by decide +kernel
theorem d_Wire_keep_49 : decode prog_7_method_10_code 49 = .ok (.iconst 0, 1) := by decide +kernel
theorem d_Wire_keep_50 : decode prog_7_method_10_code 50 = .ok (.invokevirtual 73, 3) := by decide +kernel
theorem d_Wire_keep_53 : decode prog_7_method_10_code 53 = .ok (.goto (43), 3) := by decide +kernel
theorem d_Wire_keep_56 : decode prog_7_method_10_code 56 = .ok (.aload_n 0, 1) := by decide +kernel
theorem d_Wire_keep_57 : decode prog_7_method_10_code 57 = .ok (.getfield 25, 3) := by decide +kernel
theorem d_Wire_keep_60 : decode prog_7_method_10_code 60 = .ok (.iload_n 1, 1) := by decide +kernel
theorem d_Wire_keep_61 : decode prog_7_method_10_code 61 = .ok (.putfield 52, 3) := by decide +kernel
theorem d_Wire_keep_64 : decode prog_7_method_10_code 64 = .ok (.goto (32), 3) := by decide +kernel
theorem d_Wire_keep_67 : decode prog_7_method_10_code 67 = .ok (.aload_n 0, 1) := by decide +kernel
theorem d_Wire_keep_68 : decode prog_7_method_10_code 68 = .ok (.iload_n 1, 1) := by decide +kernel
theorem d_Wire_keep_69 : decode prog_7_method_10_code 69 = .ok (.putfield 32, 3) := by decide +kernel
theorem d_Wire_keep_72 : decode prog_7_method_10_code 72 = .ok (.goto (24), 3) := by decide +kernel
theorem d_Wire_keep_75 : decode prog_7_method_10_code 75 = .ok (.aload_n 0, 1) := by decide +kernel
theorem d_Wire_keep_76 : decode prog_7_method_10_code 76 = .ok (.getfield 29, 3) := by decide +kernel
theorem d_Wire_keep_79 : decode prog_7_method_10_code 79 = .ok (.iconst 4, 1) := by decide +kernel
theorem d_Wire_keep_80 : decode prog_7_method_10_code 80 = .ok (.aload_n 0, 1) := by decide +kernel
theorem d_Wire_keep_81 : decode prog_7_method_10_code 81 = .ok (.getfield 32, 3) := by decide +kernel
theorem d_Wire_keep_84 : decode prog_7_method_10_code 84 = .ok (.iadd, 1) := by decide +kernel
theorem d_Wire_keep_85 : decode prog_7_method_10_code 85 = .ok (.if_icmp .ge (11), 3) := by decide +kernel
theorem d_Wire_keep_88 : decode prog_7_method_10_code 88 = .ok (.aload_n 0, 1) := by decide +kernel
theorem d_Wire_keep_89 : decode prog_7_method_10_code 89 = .ok (.getfield 25, 3) := by decide +kernel
theorem d_Wire_keep_92 : decode prog_7_method_10_code 92 = .ok (.iload_n 1, 1) := by decide +kernel
theorem d_Wire_keep_93 : decode prog_7_method_10_code 93 = .ok (.invokevirtual 77, 3) := by decide +kernel
theorem d_Wire_keep_96 : decode prog_7_method_10_code 96 = .ok (.return_, 1) := by decide +kernel
theorem d_Wire_accept_0 : decode prog_7_method_7_code 0 = .ok (.aload_n 0, 1) := by decide +kernel
theorem d_Wire_accept_1 : decode prog_7_method_7_code 1 = .ok (.iload_n 1, 1) := by decide +kernel
theorem d_Wire_accept_2 : decode prog_7_method_7_code 2 = .ok (.invokevirtual 63, 3) := by decide +kernel
theorem d_Wire_accept_5 : decode prog_7_method_7_code 5 = .ok (.ifCond .ne (6), 3) := by decide +kernel
theorem d_Wire_accept_8 : decode prog_7_method_7_code 8 = .ok (.bipush (-10), 2) := by decide +kernel
theorem d_Wire_accept_10 : decode prog_7_method_7_code 10 = .ok (.ireturn, 1) := by decide +kernel
theorem d_Wire_accept_11 : decode prog_7_method_7_code 11 = .ok (.aload_n 0, 1) := by decide +kernel
theorem d_Wire_accept_12 : decode prog_7_method_7_code 12 = .ok (.iload_n 1, 1) := by decide +kernel
theorem d_Wire_accept_13 : decode prog_7_method_7_code 13 = .ok (.invokevirtual 67, 3) := by decide +kernel
theorem d_Wire_accept_16 : decode prog_7_method_7_code 16 = .ok (.aload_n 0, 1) := by decide +kernel
theorem d_Wire_accept_17 : decode prog_7_method_7_code 17 = .ok (.dup, 1) := by decide +kernel
theorem d_Wire_accept_18 : decode prog_7_method_7_code 18 = .ok (.getfield 29, 3) := by decide +kernel
theorem d_Wire_accept_21 : decode prog_7_method_7_code 21 = .ok (.iconst 1, 1) := by decide +kernel
theorem d_Wire_accept_22 : decode prog_7_method_7_code 22 = .ok (.iadd, 1) := by decide +kernel
theorem d_Wire_accept_23 : decode prog_7_method_7_code 23 = .ok (.putfield 29, 3) := by decide +kernel
theorem d_Wire_accept_26 : decode prog_7_method_7_code 26 = .ok (.aload_n 0, 1) := by decide +kernel
theorem d_Wire_accept_27 : decode prog_7_method_7_code 27 = .ok (.getfield 29, 3) := by decide +kernel
theorem d_Wire_accept_30 : decode prog_7_method_7_code 30 = .ok (.iconst 4, 1) := by decide +kernel
theorem d_Wire_accept_31 : decode prog_7_method_7_code 31 = .ok (.aload_n 0, 1) := by decide +kernel
theorem d_Wire_accept_32 : decode prog_7_method_7_code 32 = .ok (.getfield 32, 3) := by decide +kernel
theorem d_Wire_accept_35 : decode prog_7_method_7_code 35 = .ok (.iadd, 1) := by decide +kernel
theorem d_Wire_accept_36 : decode prog_7_method_7_code 36 = .ok (.if_icmp .gt (5), 3) := by decide +kernel
theorem d_Wire_accept_39 : decode prog_7_method_7_code 39 = .ok (.iconst 0, 1) := by decide +kernel
theorem d_Wire_accept_40 : decode prog_7_method_7_code 40 = .ok (.ireturn, 1) := by decide +kernel
theorem d_Wire_accept_41 : decode prog_7_method_7_code 41 = .ok (.aload_n 0, 1) := by decide +kernel
theorem d_Wire_accept_42 : decode prog_7_method_7_code 42 = .ok (.iconst 0, 1) := by decide +kernel
theorem d_Wire_accept_43 : decode prog_7_method_7_code 43 = .ok (.putfield 29, 3) := by decide +kernel
theorem d_Wire_accept_46 : decode prog_7_method_7_code 46 = .ok (.iconst 1, 1) := by decide +kernel
theorem d_Wire_accept_47 : decode prog_7_method_7_code 47 = .ok (.ireturn, 1) := by decide +kernel
theorem d_FW_init_0 : decode prog_1_method_1_code 0 = .ok (.aload_n 0, 1) := by decide +kernel
theorem d_FW_init_1 : decode prog_1_method_1_code 1 = .ok (.invokespecial 1, 3) := by decide +kernel
theorem d_FW_init_4 : decode prog_1_method_1_code 4 = .ok (.aload_n 0, 1) := by decide +kernel
theorem d_FW_init_5 : decode prog_1_method_1_code 5 = .ok (.iconst 5, 1) := by decide +kernel
theorem d_FW_init_6 : decode prog_1_method_1_code 6 = .ok (.anewarray 9, 3) := by decide +kernel
theorem d_FW_init_9 : decode prog_1_method_1_code 9 = .ok (.putfield 11, 3) := by decide +kernel
theorem d_FW_init_12 : decode prog_1_method_1_code 12 = .ok (.aload_n 0, 1) := by decide +kernel
theorem d_FW_init_13 : decode prog_1_method_1_code 13 = .ok (.bipush 24, 2) := by decide +kernel
theorem d_FW_init_15 : decode prog_1_method_1_code 15 = .ok (.anewarray 15, 3) := by decide +kernel
theorem d_FW_init_18 : decode prog_1_method_1_code 18 = .ok (.putfield 17, 3) := by decide +kernel
theorem d_FW_init_21 : decode prog_1_method_1_code 21 = .ok (.aload_n 0, 1) := by decide +kernel
theorem d_FW_init_22 : decode prog_1_method_1_code 22 = .ok (.iconst 0, 1) := by decide +kernel
theorem d_FW_init_23 : decode prog_1_method_1_code 23 = .ok (.putfield 21, 3) := by decide +kernel
theorem d_FW_init_26 : decode prog_1_method_1_code 26 = .ok (.aload_n 0, 1) := by decide +kernel
theorem d_FW_init_27 : decode prog_1_method_1_code 27 = .ok (.new 25, 3) := by decide +kernel
theorem d_FW_init_30 : decode prog_1_method_1_code 30 = .ok (.dup, 1) := by decide +kernel
theorem d_FW_init_31 : decode prog_1_method_1_code 31 = .ok (.bipush 20, 2) := by decide +kernel
theorem d_FW_init_33 : decode prog_1_method_1_code 33 = .ok (.invokespecial 27, 3) := by decide +kernel
theorem d_FW_init_36 : decode prog_1_method_1_code 36 = .ok (.putfield 30, 3) := by decide +kernel
theorem d_FW_init_39 : decode prog_1_method_1_code 39 = .ok (.aload_n 0, 1) := by decide +kernel
theorem d_FW_init_40 : decode prog_1_method_1_code 40 = .ok (.new 34, 3) := by decide +kernel
theorem d_FW_init_43 : decode prog_1_method_1_code 43 = .ok (.dup, 1) := by decide +kernel
theorem d_FW_init_44 : decode prog_1_method_1_code 44 = .ok (.invokespecial 36, 3) := by decide +kernel
theorem d_FW_init_47 : decode prog_1_method_1_code 47 = .ok (.putfield 37, 3) := by decide +kernel
theorem d_FW_init_50 : decode prog_1_method_1_code 50 = .ok (.aload_n 0, 1) := by decide +kernel
theorem d_FW_init_51 : decode prog_1_method_1_code 51 = .ok (.iconst 4, 1) := by decide +kernel
theorem d_FW_init_52 : decode prog_1_method_1_code 52 = .ok (.newarray .int, 2) := by decide +kernel
theorem d_FW_init_54 : decode prog_1_method_1_code 54 = .ok (.putfield 41, 3) := by decide +kernel
theorem d_FW_init_57 : decode prog_1_method_1_code 57 = .ok (.aload_n 0, 1) := by decide +kernel
theorem d_FW_init_58 : decode prog_1_method_1_code 58 = .ok (.iconst 4, 1) := by decide +kernel
theorem d_FW_init_59 : decode prog_1_method_1_code 59 = .ok (.newarray .boolean, 2) := by decide +kernel
theorem d_FW_init_61 : decode prog_1_method_1_code 61 = .ok (.putfield 45, 3) := by decide +kernel
theorem d_FW_init_64 : decode prog_1_method_1_code 64 = .ok (.aload_n 0, 1) := by decide +kernel
theorem d_FW_init_65 : decode prog_1_method_1_code 65 = .ok (.iconst 4, 1) := by decide +kernel
theorem d_FW_init_66 : decode prog_1_method_1_code 66 = .ok (.putfield 49, 3) := by decide +kernel
theorem d_FW_init_69 : decode prog_1_method_1_code 69 = .ok (.aload_n 0, 1) := by decide +kernel
theorem d_FW_init_70 : decode prog_1_method_1_code 70 = .ok (.bipush 10, 2) := by decide +kernel
theorem d_FW_init_72 : decode prog_1_method_1_code 72 = .ok (.putfield 52, 3) := by decide +kernel
theorem d_FW_init_75 : decode prog_1_method_1_code 75 = .ok (.aload_n 0, 1) := by decide +kernel
theorem d_FW_init_76 : decode prog_1_method_1_code 76 = .ok (.iconst 2, 1) := by decide +kernel
theorem d_FW_init_77 : decode prog_1_method_1_code 77 = .ok (.putfield 55, 3) := by decide +kernel
theorem d_FW_init_80 : decode prog_1_method_1_code 80 = .ok (.aload_n 0, 1) := by decide +kernel
theorem d_FW_init_81 : decode prog_1_method_1_code 81 = .ok (.iconst 0, 1) := by decide +kernel
theorem d_FW_init_82 : decode prog_1_method_1_code 82 = .ok (.putfield 58, 3) := by decide +kernel
theorem d_FW_init_85 : decode prog_1_method_1_code 85 = .ok (.aload_n 0, 1) := by decide +kernel
theorem d_FW_init_86 : decode prog_1_method_1_code 86 = .ok (.iconst 0, 1) := by decide +kernel
theorem d_FW_init_87 : decode prog_1_method_1_code 87 = .ok (.putfield 61, 3) := by decide +kernel
theorem d_FW_init_90 : decode prog_1_method_1_code 90 = .ok (.aload_n 0, 1) := by decide +kernel
theorem d_FW_init_91 : decode prog_1_method_1_code 91 = .ok (.iconst 0, 1) := by decide +kernel
theorem d_FW_init_92 : decode prog_1_method_1_code 92 = .ok (.putfield 64, 3) := by decide +kernel
theorem d_FW_init_95 : decode prog_1_method_1_code 95 = .ok (.iconst 0, 1) := by decide +kernel
theorem d_FW_init_96 : decode prog_1_method_1_code 96 = .ok (.istore_n 1, 1) := by decide +kernel
theorem d_FW_init_97 : decode prog_1_method_1_code 97 = .ok (.iload_n 1, 1) := by decide +kernel
theorem d_FW_init_98 : decode prog_1_method_1_code 98 = .ok (.iconst 5, 1) := by decide +kernel
theorem d_FW_init_99 : decode prog_1_method_1_code 99 = .ok (.if_icmp .ge (32), 3) := by decide +kernel
theorem d_FW_init_102 : decode prog_1_method_1_code 102 = .ok (.aload_n 0, 1) := by decide +kernel
theorem d_FW_init_103 : decode prog_1_method_1_code 103 = .ok (.getfield 11, 3) := by decide +kernel
theorem d_FW_init_106 : decode prog_1_method_1_code 106 = .ok (.iload_n 1, 1) := by decide +kernel
theorem d_FW_init_107 : decode prog_1_method_1_code 107 = .ok (.new 9, 3) := by decide +kernel
theorem d_FW_init_110 : decode prog_1_method_1_code 110 = .ok (.dup, 1) := by decide +kernel
theorem d_FW_init_111 : decode prog_1_method_1_code 111 = .ok (.iload_n 1, 1) := by decide +kernel
theorem d_FW_init_112 : decode prog_1_method_1_code 112 = .ok (.iconst 4, 1) := by decide +kernel
theorem d_FW_init_113 : decode prog_1_method_1_code 113 = .ok (.if_icmp .ne (7), 3) := by decide +kernel
theorem d_FW_init_116 : decode prog_1_method_1_code 116 = .ok (.iconst 1, 1) := by decide +kernel
theorem d_FW_init_117 : decode prog_1_method_1_code 117 = .ok (.goto (4), 3) := by decide +kernel
theorem d_FW_init_120 : decode prog_1_method_1_code 120 = .ok (.iconst 0, 1) := by decide +kernel
theorem d_FW_init_121 : decode prog_1_method_1_code 121 = .ok (.invokespecial 67, 3) := by decide +kernel
theorem d_FW_init_124 : decode prog_1_method_1_code 124 = .ok (.aastore, 1) := by decide +kernel
theorem d_FW_init_125 : decode prog_1_method_1_code 125 = .ok (.iinc 1 1, 3) := by decide +kernel
theorem d_FW_init_128 : decode prog_1_method_1_code 128 = .ok (.goto (-31), 3) := by decide +kernel
theorem d_FW_init_131 : decode prog_1_method_1_code 131 = .ok (.iconst 0, 1) := by decide +kernel
theorem d_FW_init_132 : decode prog_1_method_1_code 132 = .ok (.istore_n 1, 1) := by decide +kernel
theorem d_FW_init_133 : decode prog_1_method_1_code 133 = .ok (.iload_n 1, 1) := by decide +kernel
theorem d_FW_init_134 : decode prog_1_method_1_code 134 = .ok (.iconst 4, 1) := by decide +kernel
theorem d_FW_init_135 : decode prog_1_method_1_code 135 = .ok (.if_icmp .ge (18), 3) := by decide +kernel
theorem d_FW_init_138 : decode prog_1_method_1_code 138 = .ok (.aload_n 0, 1) := by decide +kernel
theorem d_FW_init_139 : decode prog_1_method_1_code 139 = .ok (.getfield 41, 3) := by decide +kernel
theorem d_FW_init_142 : decode prog_1_method_1_code 142 = .ok (.iload_n 1, 1) := by decide +kernel
theorem d_FW_init_143 : decode prog_1_method_1_code 143 = .ok (.sipush 1000, 3) := by decide +kernel
theorem d_FW_init_146 : decode prog_1_method_1_code 146 = .ok (.iastore, 1) := by decide +kernel
theorem d_FW_init_147 : decode prog_1_method_1_code 147 = .ok (.iinc 1 1, 3) := by decide +kernel
theorem d_FW_init_150 : decode prog_1_method_1_code 150 = .ok (.goto (-17), 3) := by decide +kernel
theorem d_FW_init_153 : decode prog_1_method_1_code 153 = .ok (.return_, 1) := by decide +kernel
theorem d_FW_wireAt_0 : decode prog_1_method_19_code 0 = .ok (.iload_n 1, 1) := by decide +kernel
theorem d_FW_wireAt_1 : decode prog_1_method_19_code 1 = .ok (.ifCond .lt (21), 3) := by decide +kernel
theorem d_FW_wireAt_4 : decode prog_1_method_19_code 4 = .ok (.iload_n 1, 1) := by decide +kernel
theorem d_FW_wireAt_5 : decode prog_1_method_19_code 5 = .ok (.aload_n 0, 1) := by decide +kernel
theorem d_FW_wireAt_6 : decode prog_1_method_19_code 6 = .ok (.getfield 11, 3) := by decide +kernel
theorem d_FW_wireAt_9 : decode prog_1_method_19_code 9 = .ok (.arraylength, 1) := by decide +kernel
theorem d_FW_wireAt_10 : decode prog_1_method_19_code 10 = .ok (.if_icmp .ge (12), 3) := by decide +kernel
theorem d_FW_wireAt_13 : decode prog_1_method_19_code 13 = .ok (.aload_n 0, 1) := by decide +kernel
theorem d_FW_wireAt_14 : decode prog_1_method_19_code 14 = .ok (.getfield 11, 3) := by decide +kernel
theorem d_FW_wireAt_17 : decode prog_1_method_19_code 17 = .ok (.iload_n 1, 1) := by decide +kernel
theorem d_FW_wireAt_18 : decode prog_1_method_19_code 18 = .ok (.aaload, 1) := by decide +kernel
theorem d_FW_wireAt_19 : decode prog_1_method_19_code 19 = .ok (.goto (4), 3) := by decide +kernel
theorem d_FW_wireAt_22 : decode prog_1_method_19_code 22 = .ok (.aconst_null, 1) := by decide +kernel
theorem d_FW_wireAt_23 : decode prog_1_method_19_code 23 = .ok (.areturn, 1) := by decide +kernel
theorem d_FW_houseWire_0 : decode prog_1_method_20_code 0 = .ok (.iload_n 1, 1) := by decide +kernel
theorem d_FW_houseWire_1 : decode prog_1_method_20_code 1 = .ok (.iconst 4, 1) := by decide +kernel
theorem d_FW_houseWire_2 : decode prog_1_method_20_code 2 = .ok (.if_icmp .ge (11), 3) := by decide +kernel
theorem d_FW_houseWire_5 : decode prog_1_method_20_code 5 = .ok (.aload_n 0, 1) := by decide +kernel
theorem d_FW_houseWire_6 : decode prog_1_method_20_code 6 = .ok (.iload_n 1, 1) := by decide +kernel
theorem d_FW_houseWire_7 : decode prog_1_method_20_code 7 = .ok (.invokevirtual 119, 3) := by decide +kernel
theorem d_FW_houseWire_10 : decode prog_1_method_20_code 10 = .ok (.goto (4), 3) := by decide +kernel
theorem d_FW_houseWire_13 : decode prog_1_method_20_code 13 = .ok (.aconst_null, 1) := by decide +kernel
theorem d_FW_houseWire_14 : decode prog_1_method_20_code 14 = .ok (.areturn, 1) := by decide +kernel
theorem d_FW_requestAt_0 : decode prog_1_method_21_code 0 = .ok (.iload_n 1, 1) := by decide +kernel
theorem d_FW_requestAt_1 : decode prog_1_method_21_code 1 = .ok (.ifCond .lt (29), 3) := by decide +kernel
theorem d_FW_requestAt_4 : decode prog_1_method_21_code 4 = .ok (.iload_n 1, 1) := by decide +kernel
theorem d_FW_requestAt_5 : decode prog_1_method_21_code 5 = .ok (.aload_n 0, 1) := by decide +kernel
theorem d_FW_requestAt_6 : decode prog_1_method_21_code 6 = .ok (.getfield 21, 3) := by decide +kernel
theorem d_FW_requestAt_9 : decode prog_1_method_21_code 9 = .ok (.if_icmp .ge (21), 3) := by decide +kernel
theorem d_FW_requestAt_12 : decode prog_1_method_21_code 12 = .ok (.iload_n 1, 1) := by decide +kernel
theorem d_FW_requestAt_13 : decode prog_1_method_21_code 13 = .ok (.aload_n 0, 1) := by decide +kernel
theorem d_FW_requestAt_14 : decode prog_1_method_21_code 14 = .ok (.getfield 17, 3) := by decide +kernel
theorem d_FW_requestAt_17 : decode prog_1_method_21_code 17 = .ok (.arraylength, 1) := by decide +kernel
theorem d_FW_requestAt_18 : decode prog_1_method_21_code 18 = .ok (.if_icmp .ge (12), 3) := by decide +kernel
theorem d_FW_requestAt_21 : decode prog_1_method_21_code 21 = .ok (.aload_n 0, 1) := by decide +kernel
theorem d_FW_requestAt_22 : decode prog_1_method_21_code 22 = .ok (.getfield 17, 3) := by decide +kernel
theorem d_FW_requestAt_25 : decode prog_1_method_21_code 25 = .ok (.iload_n 1, 1) := by decide +kernel
theorem d_FW_requestAt_26 : decode prog_1_method_21_code 26 = .ok (.aaload, 1) := by decide +kernel
theorem d_FW_requestAt_27 : decode prog_1_method_21_code 27 = .ok (.goto (4), 3) := by decide +kernel
theorem d_FW_requestAt_30 : decode prog_1_method_21_code 30 = .ok (.aconst_null, 1) := by decide +kernel
theorem d_FW_requestAt_31 : decode prog_1_method_21_code 31 = .ok (.areturn, 1) := by decide +kernel
theorem d_FW_send_0 : decode prog_1_method_22_code 0 = .ok (.aload_n 2, 1) := by decide +kernel
theorem d_FW_send_1 : decode prog_1_method_22_code 1 = .ok (.aload_n 1, 1) := by decide +kernel
theorem d_FW_send_2 : decode prog_1_method_22_code 2 = .ok (.invokevirtual 187, 3) := by decide +kernel
theorem d_FW_send_5 : decode prog_1_method_22_code 5 = .ok (.istore_n 3, 1) := by decide +kernel
theorem d_FW_send_6 : decode prog_1_method_22_code 6 = .ok (.iload_n 3, 1) := by decide +kernel
theorem d_FW_send_7 : decode prog_1_method_22_code 7 = .ok (.ifCond .ne (13), 3) := by decide +kernel
theorem d_FW_send_10 : decode prog_1_method_22_code 10 = .ok (.aload_n 0, 1) := by decide +kernel
theorem d_FW_send_11 : decode prog_1_method_22_code 11 = .ok (.dup, 1) := by decide +kernel
theorem d_FW_send_12 : decode prog_1_method_22_code 12 = .ok (.getfield 64, 3) := by decide +kernel
theorem d_FW_send_15 : decode prog_1_method_22_code 15 = .ok (.iconst 1, 1) := by decide +kernel
theorem d_FW_send_16 : decode prog_1_method_22_code 16 = .ok (.iadd, 1) := by decide +kernel
theorem d_FW_send_17 : decode prog_1_method_22_code 17 = .ok (.putfield 64, 3) := by decide +kernel
theorem d_FW_send_20 : decode prog_1_method_22_code 20 = .ok (.iload_n 3, 1) := by decide +kernel
theorem d_FW_send_21 : decode prog_1_method_22_code 21 = .ok (.ireturn, 1) := by decide +kernel
theorem d_FW_sendFirst_0 : decode prog_1_method_23_code 0 = .ok (.aload_n 1, 1) := by decide +kernel
theorem d_FW_sendFirst_1 : decode prog_1_method_23_code 1 = .ok (.aload_n 0, 1) := by decide +kernel
theorem d_FW_sendFirst_2 : decode prog_1_method_23_code 2 = .ok (.getfield 58, 3) := by decide +kernel
theorem d_FW_sendFirst_5 : decode prog_1_method_23_code 5 = .ok (.putfield 191, 3) := by decide +kernel
theorem d_FW_sendFirst_8 : decode prog_1_method_23_code 8 = .ok (.aload_n 1, 1) := by decide +kernel
theorem d_FW_sendFirst_9 : decode prog_1_method_23_code 9 = .ok (.iconst 0, 1) := by decide +kernel
theorem d_FW_sendFirst_10 : decode prog_1_method_23_code 10 = .ok (.putfield 160, 3) := by decide +kernel
theorem d_FW_sendFirst_13 : decode prog_1_method_23_code 13 = .ok (.aload_n 0, 1) := by decide +kernel
theorem d_FW_sendFirst_14 : decode prog_1_method_23_code 14 = .ok (.aload_n 1, 1) := by decide +kernel
theorem d_FW_sendFirst_15 : decode prog_1_method_23_code 15 = .ok (.getfield 194, 3) := by decide +kernel
theorem d_FW_sendFirst_18 : decode prog_1_method_23_code 18 = .ok (.aload_n 2, 1) := by decide +kernel
theorem d_FW_sendFirst_19 : decode prog_1_method_23_code 19 = .ok (.invokevirtual 198, 3) := by decide +kernel
theorem d_FW_sendFirst_22 : decode prog_1_method_23_code 22 = .ok (.ireturn, 1) := by decide +kernel
theorem d_FW_up_0 : decode prog_1_method_2_code 0 = .ok (.aload_n 0, 1) := by decide +kernel
theorem d_FW_up_1 : decode prog_1_method_2_code 1 = .ok (.iload_n 1, 1) := by decide +kernel
theorem d_FW_up_2 : decode prog_1_method_2_code 2 = .ok (.invokevirtual 70, 3) := by decide +kernel
theorem d_FW_up_5 : decode prog_1_method_2_code 5 = .ok (.astore_n 2, 1) := by decide +kernel
theorem d_FW_up_6 : decode prog_1_method_2_code 6 = .ok (.aload_n 2, 1) := by decide +kernel
theorem d_FW_up_7 : decode prog_1_method_2_code 7 = .ok (.ifnonnull (5), 3) := by decide +kernel
theorem d_FW_up_10 : decode prog_1_method_2_code 10 = .ok (.iconst (-1), 1) := by decide +kernel
theorem d_FW_up_11 : decode prog_1_method_2_code 11 = .ok (.ireturn, 1) := by decide +kernel
theorem d_FW_up_12 : decode prog_1_method_2_code 12 = .ok (.aload_n 2, 1) := by decide +kernel
theorem d_FW_up_13 : decode prog_1_method_2_code 13 = .ok (.getfield 74, 3) := by decide +kernel
theorem d_FW_up_16 : decode prog_1_method_2_code 16 = .ok (.ifCond .eq (6), 3) := by decide +kernel
theorem d_FW_up_19 : decode prog_1_method_2_code 19 = .ok (.bipush (-2), 2) := by decide +kernel
theorem d_FW_up_21 : decode prog_1_method_2_code 21 = .ok (.ireturn, 1) := by decide +kernel
theorem d_FW_up_22 : decode prog_1_method_2_code 22 = .ok (.aload_n 2, 1) := by decide +kernel
theorem d_FW_up_23 : decode prog_1_method_2_code 23 = .ok (.iconst 1, 1) := by decide +kernel
theorem d_FW_up_24 : decode prog_1_method_2_code 24 = .ok (.putfield 74, 3) := by decide +kernel
theorem d_FW_up_27 : decode prog_1_method_2_code 27 = .ok (.iconst 0, 1) := by decide +kernel
theorem d_FW_up_28 : decode prog_1_method_2_code 28 = .ok (.istore_n 3, 1) := by decide +kernel
theorem d_FW_up_29 : decode prog_1_method_2_code 29 = .ok (.iconst 0, 1) := by decide +kernel
theorem d_FW_up_30 : decode prog_1_method_2_code 30 = .ok (.istore 4, 2) := by decide +kernel
theorem d_FW_up_32 : decode prog_1_method_2_code 32 = .ok (.iload 4, 2) := by decide +kernel
theorem d_FW_up_34 : decode prog_1_method_2_code 34 = .ok (.aload_n 0, 1) := by decide +kernel
theorem d_FW_up_35 : decode prog_1_method_2_code 35 = .ok (.getfield 21, 3) := by decide +kernel
theorem d_FW_up_38 : decode prog_1_method_2_code 38 = .ok (.if_icmp .ge (52), 3) := by decide +kernel
theorem d_FW_up_41 : decode prog_1_method_2_code 41 = .ok (.aload_n 0, 1) := by decide +kernel
theorem d_FW_up_42 : decode prog_1_method_2_code 42 = .ok (.iload 4, 2) := by decide +kernel
theorem d_FW_up_44 : decode prog_1_method_2_code 44 = .ok (.invokevirtual 78, 3) := by decide +kernel
theorem d_FW_up_47 : decode prog_1_method_2_code 47 = .ok (.astore 5, 2) := by decide +kernel
theorem d_FW_up_49 : decode prog_1_method_2_code 49 = .ok (.aload 5, 2) := by decide +kernel
theorem d_FW_up_51 : decode prog_1_method_2_code 51 = .ok (.ifnull (33), 3) := by decide +kernel
theorem d_FW_up_54 : decode prog_1_method_2_code 54 = .ok (.aload 5, 2) := by decide +kernel
theorem d_FW_up_56 : decode prog_1_method_2_code 56 = .ok (.getfield 82, 3) := by decide +kernel
theorem d_FW_up_59 : decode prog_1_method_2_code 59 = .ok (.iload_n 1, 1) := by decide +kernel
theorem d_FW_up_60 : decode prog_1_method_2_code 60 = .ok (.if_icmp .ne (24), 3) := by decide +kernel
theorem d_FW_up_63 : decode prog_1_method_2_code 63 = .ok (.aload 5, 2) := by decide +kernel
theorem d_FW_up_65 : decode prog_1_method_2_code 65 = .ok (.getfield 85, 3) := by decide +kernel
theorem d_FW_up_68 : decode prog_1_method_2_code 68 = .ok (.ifCond .ne (16), 3) := by decide +kernel
theorem d_FW_up_71 : decode prog_1_method_2_code 71 = .ok (.aload_n 0, 1) := by decide +kernel
theorem d_FW_up_72 : decode prog_1_method_2_code 72 = .ok (.aload 5, 2) := by decide +kernel
theorem d_FW_up_74 : decode prog_1_method_2_code 74 = .ok (.aload_n 2, 1) := by decide +kernel
theorem d_FW_up_75 : decode prog_1_method_2_code 75 = .ok (.invokevirtual 88, 3) := by decide +kernel
theorem d_FW_up_78 : decode prog_1_method_2_code 78 = .ok (.ifCond .eq (6), 3) := by decide +kernel
theorem d_FW_up_81 : decode prog_1_method_2_code 81 = .ok (.iinc 3 1, 3) := by decide +kernel
theorem d_FW_up_84 : decode prog_1_method_2_code 84 = .ok (.iinc 4 1, 3) := by decide +kernel
theorem d_FW_up_87 : decode prog_1_method_2_code 87 = .ok (.goto (-55), 3) := by decide +kernel
theorem d_FW_up_90 : decode prog_1_method_2_code 90 = .ok (.iload_n 3, 1) := by decide +kernel
theorem d_FW_up_91 : decode prog_1_method_2_code 91 = .ok (.ireturn, 1) := by decide +kernel
theorem d_FW_down_0 : decode prog_1_method_3_code 0 = .ok (.aload_n 0, 1) := by decide +kernel
theorem d_FW_down_1 : decode prog_1_method_3_code 1 = .ok (.iload_n 1, 1) := by decide +kernel
theorem d_FW_down_2 : decode prog_1_method_3_code 2 = .ok (.invokevirtual 70, 3) := by decide +kernel
theorem d_FW_down_5 : decode prog_1_method_3_code 5 = .ok (.astore_n 2, 1) := by decide +kernel
theorem d_FW_down_6 : decode prog_1_method_3_code 6 = .ok (.aload_n 2, 1) := by decide +kernel
theorem d_FW_down_7 : decode prog_1_method_3_code 7 = .ok (.ifnonnull (5), 3) := by decide +kernel
theorem d_FW_down_10 : decode prog_1_method_3_code 10 = .ok (.iconst (-1), 1) := by decide +kernel
theorem d_FW_down_11 : decode prog_1_method_3_code 11 = .ok (.ireturn, 1) := by decide +kernel
theorem d_FW_down_12 : decode prog_1_method_3_code 12 = .ok (.aload_n 2, 1) := by decide +kernel
theorem d_FW_down_13 : decode prog_1_method_3_code 13 = .ok (.getfield 74, 3) := by decide +kernel
theorem d_FW_down_16 : decode prog_1_method_3_code 16 = .ok (.ifCond .ne (6), 3) := by decide +kernel
theorem d_FW_down_19 : decode prog_1_method_3_code 19 = .ok (.bipush (-2), 2) := by decide +kernel
theorem d_FW_down_21 : decode prog_1_method_3_code 21 = .ok (.ireturn, 1) := by decide +kernel
theorem d_FW_down_22 : decode prog_1_method_3_code 22 = .ok (.aload_n 2, 1) := by decide +kernel
theorem d_FW_down_23 : decode prog_1_method_3_code 23 = .ok (.invokevirtual 92, 3) := by decide +kernel
theorem d_FW_down_26 : decode prog_1_method_3_code 26 = .ok (.iconst 1, 1) := by decide +kernel
theorem d_FW_down_27 : decode prog_1_method_3_code 27 = .ok (.ireturn, 1) := by decide +kernel
theorem d_FW_setting_0 : decode prog_1_method_4_code 0 = .ok (.iload_n 1, 1) := by decide +kernel
theorem d_FW_setting_1 : decode prog_1_method_4_code 1 = .ok (.ifCond .ne (27), 3) := by decide +kernel
theorem d_FW_setting_4 : decode prog_1_method_4_code 4 = .ok (.iload_n 2, 1) := by decide +kernel
theorem d_FW_setting_5 : decode prog_1_method_4_code 5 = .ok (.iconst 1, 1) := by decide +kernel
theorem d_FW_setting_6 : decode prog_1_method_4_code 6 = .ok (.if_icmp .lt (22), 3) := by decide +kernel
theorem d_FW_setting_9 : decode prog_1_method_4_code 9 = .ok (.iload_n 2, 1) := by decide +kernel
theorem d_FW_setting_10 : decode prog_1_method_4_code 10 = .ok (.bipush 8, 2) := by decide +kernel
theorem d_FW_setting_12 : decode prog_1_method_4_code 12 = .ok (.if_icmp .gt (16), 3) := by decide +kernel
theorem d_FW_setting_15 : decode prog_1_method_4_code 15 = .ok (.aload_n 0, 1) := by decide +kernel
theorem d_FW_setting_16 : decode prog_1_method_4_code 16 = .ok (.getfield 49, 3) := by decide +kernel
theorem d_FW_setting_19 : decode prog_1_method_4_code 19 = .ok (.istore_n 3, 1) := by decide +kernel
theorem d_FW_setting_20 : decode prog_1_method_4_code 20 = .ok (.aload_n 0, 1) := by decide +kernel
theorem d_FW_setting_21 : decode prog_1_method_4_code 21 = .ok (.iload_n 2, 1) := by decide +kernel
theorem d_FW_setting_22 : decode prog_1_method_4_code 22 = .ok (.putfield 49, 3) := by decide +kernel
theorem d_FW_setting_25 : decode prog_1_method_4_code 25 = .ok (.goto (61), 3) := by decide +kernel
theorem d_FW_setting_28 : decode prog_1_method_4_code 28 = .ok (.iload_n 1, 1) := by decide +kernel
theorem d_FW_setting_29 : decode prog_1_method_4_code 29 = .ok (.iconst 1, 1) := by decide +kernel
theorem d_FW_setting_30 : decode prog_1_method_4_code 30 = .ok (.if_icmp .ne (27), 3) := by decide +kernel
theorem d_FW_setting_33 : decode prog_1_method_4_code 33 = .ok (.iload_n 2, 1) := by decide +kernel
theorem d_FW_setting_34 : decode prog_1_method_4_code 34 = .ok (.iconst 1, 1) := by decide +kernel
theorem d_FW_setting_35 : decode prog_1_method_4_code 35 = .ok (.if_icmp .lt (22), 3) := by decide +kernel
theorem d_FW_setting_38 : decode prog_1_method_4_code 38 = .ok (.iload_n 2, 1) := by decide +kernel
theorem d_FW_setting_39 : decode prog_1_method_4_code 39 = .ok (.bipush 100, 2) := by decide +kernel
theorem d_FW_setting_41 : decode prog_1_method_4_code 41 = .ok (.if_icmp .gt (16), 3) := by decide +kernel
theorem d_FW_setting_44 : decode prog_1_method_4_code 44 = .ok (.aload_n 0, 1) := by decide +kernel
theorem d_FW_setting_45 : decode prog_1_method_4_code 45 = .ok (.getfield 52, 3) := by decide +kernel
theorem d_FW_setting_48 : decode prog_1_method_4_code 48 = .ok (.istore_n 3, 1) := by decide +kernel
theorem d_FW_setting_49 : decode prog_1_method_4_code 49 = .ok (.aload_n 0, 1) := by decide +kernel
theorem d_FW_setting_50 : decode prog_1_method_4_code 50 = .ok (.iload_n 2, 1) := by decide +kernel
theorem d_FW_setting_51 : decode prog_1_method_4_code 51 = .ok (.putfield 52, 3) := by decide +kernel
theorem d_FW_setting_54 : decode prog_1_method_4_code 54 = .ok (.goto (32), 3) := by decide +kernel
theorem d_FW_setting_57 : decode prog_1_method_4_code 57 = .ok (.iload_n 1, 1) := by decide +kernel
theorem d_FW_setting_58 : decode prog_1_method_4_code 58 = .ok (.iconst 2, 1) := by decide +kernel
theorem d_FW_setting_59 : decode prog_1_method_4_code 59 = .ok (.if_icmp .ne (25), 3) := by decide +kernel
theorem d_FW_setting_62 : decode prog_1_method_4_code 62 = .ok (.iload_n 2, 1) := by decide +kernel
theorem d_FW_setting_63 : decode prog_1_method_4_code 63 = .ok (.ifCond .lt (21), 3) := by decide +kernel
theorem d_FW_setting_66 : decode prog_1_method_4_code 66 = .ok (.iload_n 2, 1) := by decide +kernel
theorem d_FW_setting_67 : decode prog_1_method_4_code 67 = .ok (.iconst 5, 1) := by decide +kernel
theorem d_FW_setting_68 : decode prog_1_method_4_code 68 = .ok (.if_icmp .gt (16), 3) := by decide +kernel
theorem d_FW_setting_71 : decode prog_1_method_4_code 71 = .ok (.aload_n 0, 1) := by decide +kernel
theorem d_FW_setting_72 : decode prog_1_method_4_code 72 = .ok (.getfield 55, 3) := by decide +kernel
theorem d_FW_setting_75 : decode prog_1_method_4_code 75 = .ok (.istore_n 3, 1) := by decide +kernel
theorem d_FW_setting_76 : decode prog_1_method_4_code 76 = .ok (.aload_n 0, 1) := by decide +kernel
theorem d_FW_setting_77 : decode prog_1_method_4_code 77 = .ok (.iload_n 2, 1) := by decide +kernel
theorem d_FW_setting_78 : decode prog_1_method_4_code 78 = .ok (.putfield 55, 3) := by decide +kernel
theorem d_FW_setting_81 : decode prog_1_method_4_code 81 = .ok (.goto (5), 3) := by decide +kernel
theorem d_FW_setting_84 : decode prog_1_method_4_code 84 = .ok (.iconst (-1), 1) := by decide +kernel
theorem d_FW_setting_85 : decode prog_1_method_4_code 85 = .ok (.istore_n 3, 1) := by decide +kernel
theorem d_FW_setting_86 : decode prog_1_method_4_code 86 = .ok (.iload_n 3, 1) := by decide +kernel
theorem d_FW_setting_87 : decode prog_1_method_4_code 87 = .ok (.ireturn, 1) := by decide +kernel
theorem d_FW_isByte_0 : decode prog_1_method_18_code 0 = .ok (.iload_n 0, 1) := by decide +kernel
theorem d_FW_isByte_1 : decode prog_1_method_18_code 1 = .ok (.ifCond .lt (14), 3) := by decide +kernel
theorem d_FW_isByte_4 : decode prog_1_method_18_code 4 = .ok (.iload_n 0, 1) := by decide +kernel
theorem d_FW_isByte_5 : decode prog_1_method_18_code 5 = .ok (.sipush 255, 3) := by decide +kernel
theorem d_FW_isByte_8 : decode prog_1_method_18_code 8 = .ok (.if_icmp .gt (7), 3) := by decide +kernel
theorem d_FW_isByte_11 : decode prog_1_method_18_code 11 = .ok (.iconst 1, 1) := by decide +kernel
theorem d_FW_isByte_12 : decode prog_1_method_18_code 12 = .ok (.goto (4), 3) := by decide +kernel
theorem d_FW_isByte_15 : decode prog_1_method_18_code 15 = .ok (.iconst 0, 1) := by decide +kernel
theorem d_FW_isByte_16 : decode prog_1_method_18_code 16 = .ok (.ireturn, 1) := by decide +kernel
theorem d_FW_bind_0 : decode prog_1_method_5_code 0 = .ok (.iload_n 1, 1) := by decide +kernel
theorem d_FW_bind_1 : decode prog_1_method_5_code 1 = .ok (.invokestatic 95, 3) := by decide +kernel
theorem d_FW_bind_4 : decode prog_1_method_5_code 4 = .ok (.ifCond .ne (5), 3) := by decide +kernel
theorem d_FW_bind_7 : decode prog_1_method_5_code 7 = .ok (.iconst (-1), 1) := by decide +kernel
theorem d_FW_bind_8 : decode prog_1_method_5_code 8 = .ok (.ireturn, 1) := by decide +kernel
theorem d_FW_bind_9 : decode prog_1_method_5_code 9 = .ok (.aload_n 0, 1) := by decide +kernel
theorem d_FW_bind_10 : decode prog_1_method_5_code 10 = .ok (.getfield 30, 3) := by decide +kernel
theorem d_FW_bind_13 : decode prog_1_method_5_code 13 = .ok (.iload_n 1, 1) := by decide +kernel
theorem d_FW_bind_14 : decode prog_1_method_5_code 14 = .ok (.iload_n 2, 1) := by decide +kernel
theorem d_FW_bind_15 : decode prog_1_method_5_code 15 = .ok (.invokevirtual 99, 3) := by decide +kernel
theorem d_FW_bind_18 : decode prog_1_method_5_code 18 = .ok (.ifCond .eq (13), 3) := by decide +kernel
theorem d_FW_bind_21 : decode prog_1_method_5_code 21 = .ok (.aload_n 0, 1) := by decide +kernel
theorem d_FW_bind_22 : decode prog_1_method_5_code 22 = .ok (.getfield 30, 3) := by decide +kernel
theorem d_FW_bind_25 : decode prog_1_method_5_code 25 = .ok (.getfield 103, 3) := by decide +kernel
theorem d_FW_bind_28 : decode prog_1_method_5_code 28 = .ok (.goto (5), 3) := by decide +kernel
theorem d_FW_bind_31 : decode prog_1_method_5_code 31 = .ok (.bipush (-3), 2) := by decide +kernel
theorem d_FW_bind_33 : decode prog_1_method_5_code 33 = .ok (.ireturn, 1) := by decide +kernel
theorem d_FW_ask_0 : decode prog_1_method_6_code 0 = .ok (.aload_n 0, 1) := by decide +kernel
theorem d_FW_ask_1 : decode prog_1_method_6_code 1 = .ok (.iload_n 1, 1) := by decide +kernel
theorem d_FW_ask_2 : decode prog_1_method_6_code 2 = .ok (.invokevirtual 70, 3) := by decide +kernel
theorem d_FW_ask_5 : decode prog_1_method_6_code 5 = .ok (.astore_n 3, 1) := by decide +kernel
theorem d_FW_ask_6 : decode prog_1_method_6_code 6 = .ok (.aload_n 3, 1) := by decide +kernel
theorem d_FW_ask_7 : decode prog_1_method_6_code 7 = .ok (.ifnonnull (5), 3) := by decide +kernel
theorem d_FW_ask_10 : decode prog_1_method_6_code 10 = .ok (.iconst (-1), 1) := by decide +kernel
theorem d_FW_ask_11 : decode prog_1_method_6_code 11 = .ok (.ireturn, 1) := by decide +kernel
theorem d_FW_ask_12 : decode prog_1_method_6_code 12 = .ok (.aload_n 0, 1) := by decide +kernel
theorem d_FW_ask_13 : decode prog_1_method_6_code 13 = .ok (.getfield 21, 3) := by decide +kernel
theorem d_FW_ask_16 : decode prog_1_method_6_code 16 = .ok (.istore 4, 2) := by decide +kernel
theorem d_FW_ask_18 : decode prog_1_method_6_code 18 = .ok (.iload 4, 2) := by decide +kernel
theorem d_FW_ask_20 : decode prog_1_method_6_code 20 = .ok (.ifCond .lt (13), 3) := by decide +kernel
theorem d_FW_ask_23 : decode prog_1_method_6_code 23 = .ok (.iload 4, 2) := by decide +kernel
theorem d_FW_ask_25 : decode prog_1_method_6_code 25 = .ok (.aload_n 0, 1) := by decide +kernel
theorem d_FW_ask_26 : decode prog_1_method_6_code 26 = .ok (.getfield 17, 3) := by decide +kernel
theorem d_FW_ask_29 : decode prog_1_method_6_code 29 = .ok (.arraylength, 1) := by decide +kernel
theorem d_FW_ask_30 : decode prog_1_method_6_code 30 = .ok (.if_icmp .lt (6), 3) := by decide +kernel
theorem d_FW_ask_33 : decode prog_1_method_6_code 33 = .ok (.bipush (-3), 2) := by decide +kernel
theorem d_FW_ask_35 : decode prog_1_method_6_code 35 = .ok (.ireturn, 1) := by decide +kernel
theorem d_FW_ask_36 : decode prog_1_method_6_code 36 = .ok (.new 15, 3) := by decide +kernel
theorem d_FW_ask_39 : decode prog_1_method_6_code 39 = .ok (.dup, 1) := by decide +kernel

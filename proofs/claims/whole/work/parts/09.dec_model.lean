theorem d_M_init_0 : decode b_M_init 0 = .ok (.aload_n 0, 1) := by decide +kernel
theorem d_M_init_1 : decode b_M_init 1 = .ok (.invokespecial 1, 3) := by decide +kernel
theorem d_M_init_4 : decode b_M_init 4 = .ok (.aload_n 0, 1) := by decide +kernel
theorem d_M_init_5 : decode b_M_init 5 = .ok (.sipush 400, 3) := by decide +kernel
theorem d_M_init_8 : decode b_M_init 8 = .ok (.newarray .int, 2) := by decide +kernel
theorem d_M_init_10 : decode b_M_init 10 = .ok (.putfield 7, 3) := by decide +kernel
theorem d_M_init_13 : decode b_M_init 13 = .ok (.aload_n 0, 1) := by decide +kernel
theorem d_M_init_14 : decode b_M_init 14 = .ok (.sipush 400, 3) := by decide +kernel
theorem d_M_init_17 : decode b_M_init 17 = .ok (.newarray .int, 2) := by decide +kernel
theorem d_M_init_19 : decode b_M_init 19 = .ok (.putfield 13, 3) := by decide +kernel
theorem d_M_init_22 : decode b_M_init 22 = .ok (.aload_n 0, 1) := by decide +kernel
theorem d_M_init_23 : decode b_M_init 23 = .ok (.sipush 400, 3) := by decide +kernel
theorem d_M_init_26 : decode b_M_init 26 = .ok (.newarray .boolean, 2) := by decide +kernel
theorem d_M_init_28 : decode b_M_init 28 = .ok (.putfield 16, 3) := by decide +kernel
theorem d_M_init_31 : decode b_M_init 31 = .ok (.aload_n 0, 1) := by decide +kernel
theorem d_M_init_32 : decode b_M_init 32 = .ok (.bipush 12, 2) := by decide +kernel
theorem d_M_init_34 : decode b_M_init 34 = .ok (.newarray .int, 2) := by decide +kernel
theorem d_M_init_36 : decode b_M_init 36 = .ok (.putfield 20, 3) := by decide +kernel
theorem d_M_init_39 : decode b_M_init 39 = .ok (.aload_n 0, 1) := by decide +kernel
theorem d_M_init_40 : decode b_M_init 40 = .ok (.bipush 12, 2) := by decide +kernel
theorem d_M_init_42 : decode b_M_init 42 = .ok (.newarray .int, 2) := by decide +kernel
theorem d_M_init_44 : decode b_M_init 44 = .ok (.putfield 23, 3) := by decide +kernel
theorem d_M_init_47 : decode b_M_init 47 = .ok (.aload_n 0, 1) := by decide +kernel
theorem d_M_init_48 : decode b_M_init 48 = .ok (.bipush 108, 2) := by decide +kernel
theorem d_M_init_50 : decode b_M_init 50 = .ok (.newarray .int, 2) := by decide +kernel
theorem d_M_init_52 : decode b_M_init 52 = .ok (.putfield 26, 3) := by decide +kernel
theorem d_M_init_55 : decode b_M_init 55 = .ok (.aload_n 0, 1) := by decide +kernel
theorem d_M_init_56 : decode b_M_init 56 = .ok (.ldc 29, 2) := by decide +kernel
theorem d_M_init_58 : decode b_M_init 58 = .ok (.newarray .long, 2) := by decide +kernel
theorem d_M_init_60 : decode b_M_init 60 = .ok (.putfield 30, 3) := by decide +kernel
theorem d_M_init_63 : decode b_M_init 63 = .ok (.aload_n 0, 1) := by decide +kernel
theorem d_M_init_64 : decode b_M_init 64 = .ok (.sipush 744, 3) := by decide +kernel
theorem d_M_init_67 : decode b_M_init 67 = .ok (.newarray .boolean, 2) := by decide +kernel
theorem d_M_init_69 : decode b_M_init 69 = .ok (.putfield 34, 3) := by decide +kernel
theorem d_M_init_72 : decode b_M_init 72 = .ok (.aload_n 0, 1) := by decide +kernel
theorem d_M_init_73 : decode b_M_init 73 = .ok (.sipush 1024, 3) := by decide +kernel
theorem d_M_init_76 : decode b_M_init 76 = .ok (.newarray .long, 2) := by decide +kernel
theorem d_M_init_78 : decode b_M_init 78 = .ok (.putfield 37, 3) := by decide +kernel
theorem d_M_init_81 : decode b_M_init 81 = .ok (.aload_n 0, 1) := by decide +kernel
theorem d_M_init_82 : decode b_M_init 82 = .ok (.sipush 2048, 3) := by decide +kernel
theorem d_M_init_85 : decode b_M_init 85 = .ok (.newarray .boolean, 2) := by decide +kernel
theorem d_M_init_87 : decode b_M_init 87 = .ok (.putfield 40, 3) := by decide +kernel
theorem d_M_init_90 : decode b_M_init 90 = .ok (.aload_n 0, 1) := by decide +kernel
theorem d_M_init_91 : decode b_M_init 91 = .ok (.iconst 5, 1) := by decide +kernel
theorem d_M_init_92 : decode b_M_init 92 = .ok (.newarray .int, 2) := by decide +kernel
theorem d_M_init_94 : decode b_M_init 94 = .ok (.putfield 43, 3) := by decide +kernel
theorem d_M_init_97 : decode b_M_init 97 = .ok (.aload_n 0, 1) := by decide +kernel
theorem d_M_init_98 : decode b_M_init 98 = .ok (.sipush 2048, 3) := by decide +kernel
theorem d_M_init_101 : decode b_M_init 101 = .ok (.newarray .int, 2) := by decide +kernel
theorem d_M_init_103 : decode b_M_init 103 = .ok (.putfield 46, 3) := by decide +kernel
theorem d_M_init_106 : decode b_M_init 106 = .ok (.iload_n 1, 1) := by decide +kernel
theorem d_M_init_107 : decode b_M_init 107 = .ok (.bipush 62, 2) := by decide +kernel
theorem d_M_init_109 : decode b_M_init 109 = .ok (.irem, 1) := by decide +kernel
theorem d_M_init_110 : decode b_M_init 110 = .ok (.istore_n 2, 1) := by decide +kernel
theorem d_M_init_111 : decode b_M_init 111 = .ok (.aload_n 0, 1) := by decide +kernel
theorem d_M_init_112 : decode b_M_init 112 = .ok (.iconst 1, 1) := by decide +kernel
theorem d_M_init_113 : decode b_M_init 113 = .ok (.iload_n 2, 1) := by decide +kernel
theorem d_M_init_114 : decode b_M_init 114 = .ok (.ifCond .ge 10, 3) := by decide +kernel
theorem d_M_init_117 : decode b_M_init 117 = .ok (.iload_n 2, 1) := by decide +kernel
theorem d_M_init_118 : decode b_M_init 118 = .ok (.bipush 62, 2) := by decide +kernel
theorem d_M_init_120 : decode b_M_init 120 = .ok (.iadd, 1) := by decide +kernel
theorem d_M_init_121 : decode b_M_init 121 = .ok (.goto 4, 3) := by decide +kernel
theorem d_M_init_124 : decode b_M_init 124 = .ok (.iload_n 2, 1) := by decide +kernel
theorem d_M_init_125 : decode b_M_init 125 = .ok (.iadd, 1) := by decide +kernel
theorem d_M_init_126 : decode b_M_init 126 = .ok (.putfield 49, 3) := by decide +kernel
theorem d_M_init_129 : decode b_M_init 129 = .ok (.return_, 1) := by decide +kernel
theorem d_M_isTriple_0 : decode b_M_isTriple 0 = .ok (.iload_n 0, 1) := by decide +kernel
theorem d_M_isTriple_1 : decode b_M_isTriple 1 = .ok (.ifCond .lt 33, 3) := by decide +kernel
theorem d_M_isTriple_4 : decode b_M_isTriple 4 = .ok (.iload_n 0, 1) := by decide +kernel
theorem d_M_isTriple_5 : decode b_M_isTriple 5 = .ok (.bipush 16, 2) := by decide +kernel
theorem d_M_isTriple_7 : decode b_M_isTriple 7 = .ok (.if_icmp .ge 27, 3) := by decide +kernel
theorem d_M_isTriple_10 : decode b_M_isTriple 10 = .ok (.iload_n 1, 1) := by decide +kernel
theorem d_M_isTriple_11 : decode b_M_isTriple 11 = .ok (.ifCond .lt 23, 3) := by decide +kernel
theorem d_M_isTriple_14 : decode b_M_isTriple 14 = .ok (.iload_n 1, 1) := by decide +kernel
theorem d_M_isTriple_15 : decode b_M_isTriple 15 = .ok (.bipush 8, 2) := by decide +kernel
theorem d_M_isTriple_17 : decode b_M_isTriple 17 = .ok (.if_icmp .ge 17, 3) := by decide +kernel
theorem d_M_isTriple_20 : decode b_M_isTriple 20 = .ok (.iload_n 2, 1) := by decide +kernel
theorem d_M_isTriple_21 : decode b_M_isTriple 21 = .ok (.ifCond .lt 13, 3) := by decide +kernel
theorem d_M_isTriple_24 : decode b_M_isTriple 24 = .ok (.iload_n 2, 1) := by decide +kernel
theorem d_M_isTriple_25 : decode b_M_isTriple 25 = .ok (.bipush 16, 2) := by decide +kernel
theorem d_M_isTriple_27 : decode b_M_isTriple 27 = .ok (.if_icmp .ge 7, 3) := by decide +kernel
theorem d_M_isTriple_30 : decode b_M_isTriple 30 = .ok (.iconst 1, 1) := by decide +kernel
theorem d_M_isTriple_31 : decode b_M_isTriple 31 = .ok (.goto 4, 3) := by decide +kernel
theorem d_M_isTriple_34 : decode b_M_isTriple 34 = .ok (.iconst 0, 1) := by decide +kernel
theorem d_M_isTriple_35 : decode b_M_isTriple 35 = .ok (.ireturn, 1) := by decide +kernel
theorem d_M_triple_0 : decode b_M_triple 0 = .ok (.sipush 128, 3) := by decide +kernel
theorem d_M_triple_3 : decode b_M_triple 3 = .ok (.iload_n 0, 1) := by decide +kernel
theorem d_M_triple_4 : decode b_M_triple 4 = .ok (.imul, 1) := by decide +kernel
theorem d_M_triple_5 : decode b_M_triple 5 = .ok (.bipush 16, 2) := by decide +kernel
theorem d_M_triple_7 : decode b_M_triple 7 = .ok (.iload_n 1, 1) := by decide +kernel
theorem d_M_triple_8 : decode b_M_triple 8 = .ok (.imul, 1) := by decide +kernel
theorem d_M_triple_9 : decode b_M_triple 9 = .ok (.iadd, 1) := by decide +kernel
theorem d_M_triple_10 : decode b_M_triple 10 = .ok (.iload_n 2, 1) := by decide +kernel
theorem d_M_triple_11 : decode b_M_triple 11 = .ok (.iadd, 1) := by decide +kernel
theorem d_M_triple_12 : decode b_M_triple 12 = .ok (.ireturn, 1) := by decide +kernel
theorem d_M_isNumber_0 : decode b_M_isNumber 0 = .ok (.iload_n 1, 1) := by decide +kernel
theorem d_M_isNumber_1 : decode b_M_isNumber 1 = .ok (.ifCond .lt 15, 3) := by decide +kernel
theorem d_M_isNumber_4 : decode b_M_isNumber 4 = .ok (.iload_n 1, 1) := by decide +kernel
theorem d_M_isNumber_5 : decode b_M_isNumber 5 = .ok (.aload_n 0, 1) := by decide +kernel
theorem d_M_isNumber_6 : decode b_M_isNumber 6 = .ok (.getfield 53, 3) := by decide +kernel
theorem d_M_isNumber_9 : decode b_M_isNumber 9 = .ok (.if_icmp .gt 7, 3) := by decide +kernel
theorem d_M_isNumber_12 : decode b_M_isNumber 12 = .ok (.iconst 1, 1) := by decide +kernel
theorem d_M_isNumber_13 : decode b_M_isNumber 13 = .ok (.goto 4, 3) := by decide +kernel
theorem d_M_isNumber_16 : decode b_M_isNumber 16 = .ok (.iconst 0, 1) := by decide +kernel
theorem d_M_isNumber_17 : decode b_M_isNumber 17 = .ok (.ireturn, 1) := by decide +kernel
theorem d_M_isQuestion_0 : decode b_M_isQuestion 0 = .ok (.iload_n 1, 1) := by decide +kernel
theorem d_M_isQuestion_1 : decode b_M_isQuestion 1 = .ok (.ifCond .lt 15, 3) := by decide +kernel
theorem d_M_isQuestion_4 : decode b_M_isQuestion 4 = .ok (.iload_n 1, 1) := by decide +kernel
theorem d_M_isQuestion_5 : decode b_M_isQuestion 5 = .ok (.aload_n 0, 1) := by decide +kernel
theorem d_M_isQuestion_6 : decode b_M_isQuestion 6 = .ok (.getfield 56, 3) := by decide +kernel
theorem d_M_isQuestion_9 : decode b_M_isQuestion 9 = .ok (.if_icmp .ge 7, 3) := by decide +kernel
theorem d_M_isQuestion_12 : decode b_M_isQuestion 12 = .ok (.iconst 1, 1) := by decide +kernel
theorem d_M_isQuestion_13 : decode b_M_isQuestion 13 = .ok (.goto 4, 3) := by decide +kernel
theorem d_M_isQuestion_16 : decode b_M_isQuestion 16 = .ok (.iconst 0, 1) := by decide +kernel
theorem d_M_isQuestion_17 : decode b_M_isQuestion 17 = .ok (.ireturn, 1) := by decide +kernel
theorem d_M_last_0 : decode b_M_last 0 = .ok (.iconst (-1), 1) := by decide +kernel
theorem d_M_last_1 : decode b_M_last 1 = .ok (.istore_n 3, 1) := by decide +kernel
theorem d_M_last_2 : decode b_M_last 2 = .ok (.iconst 0, 1) := by decide +kernel
theorem d_M_last_3 : decode b_M_last 3 = .ok (.istore 4, 2) := by decide +kernel
theorem d_M_last_5 : decode b_M_last 5 = .ok (.iload 4, 2) := by decide +kernel
theorem d_M_last_7 : decode b_M_last 7 = .ok (.aload_n 0, 1) := by decide +kernel
theorem d_M_last_8 : decode b_M_last 8 = .ok (.getfield 59, 3) := by decide +kernel
theorem d_M_last_11 : decode b_M_last 11 = .ok (.if_icmp .ge 54, 3) := by decide +kernel
theorem d_M_last_14 : decode b_M_last 14 = .ok (.aload_n 0, 1) := by decide +kernel
theorem d_M_last_15 : decode b_M_last 15 = .ok (.getfield 13, 3) := by decide +kernel
theorem d_M_last_18 : decode b_M_last 18 = .ok (.iload 4, 2) := by decide +kernel
theorem d_M_last_20 : decode b_M_last 20 = .ok (.iaload, 1) := by decide +kernel
theorem d_M_last_21 : decode b_M_last 21 = .ok (.iload_n 2, 1) := by decide +kernel
theorem d_M_last_22 : decode b_M_last 22 = .ok (.if_icmp .ne 37, 3) := by decide +kernel
theorem d_M_last_25 : decode b_M_last 25 = .ok (.aload_n 0, 1) := by decide +kernel
theorem d_M_last_26 : decode b_M_last 26 = .ok (.getfield 7, 3) := by decide +kernel
theorem d_M_last_29 : decode b_M_last 29 = .ok (.iload 4, 2) := by decide +kernel
theorem d_M_last_31 : decode b_M_last 31 = .ok (.iaload, 1) := by decide +kernel
theorem d_M_last_32 : decode b_M_last 32 = .ok (.iload_n 1, 1) := by decide +kernel
theorem d_M_last_33 : decode b_M_last 33 = .ok (.if_icmp .gt 26, 3) := by decide +kernel
theorem d_M_last_36 : decode b_M_last 36 = .ok (.iload_n 3, 1) := by decide +kernel
theorem d_M_last_37 : decode b_M_last 37 = .ok (.ifCond .lt 19, 3) := by decide +kernel
theorem d_M_last_40 : decode b_M_last 40 = .ok (.aload_n 0, 1) := by decide +kernel
theorem d_M_last_41 : decode b_M_last 41 = .ok (.getfield 7, 3) := by decide +kernel
theorem d_M_last_44 : decode b_M_last 44 = .ok (.iload 4, 2) := by decide +kernel
theorem d_M_last_46 : decode b_M_last 46 = .ok (.iaload, 1) := by decide +kernel
theorem d_M_last_47 : decode b_M_last 47 = .ok (.aload_n 0, 1) := by decide +kernel
theorem d_M_last_48 : decode b_M_last 48 = .ok (.getfield 7, 3) := by decide +kernel
theorem d_M_last_51 : decode b_M_last 51 = .ok (.iload_n 3, 1) := by decide +kernel
theorem d_M_last_52 : decode b_M_last 52 = .ok (.iaload, 1) := by decide +kernel
theorem d_M_last_53 : decode b_M_last 53 = .ok (.if_icmp .lt 6, 3) := by decide +kernel
theorem d_M_last_56 : decode b_M_last 56 = .ok (.iload 4, 2) := by decide +kernel
theorem d_M_last_58 : decode b_M_last 58 = .ok (.istore_n 3, 1) := by decide +kernel
theorem d_M_last_59 : decode b_M_last 59 = .ok (.iinc 4 1, 3) := by decide +kernel
theorem d_M_last_62 : decode b_M_last 62 = .ok (.goto (-57), 3) := by decide +kernel
theorem d_M_last_65 : decode b_M_last 65 = .ok (.iload_n 3, 1) := by decide +kernel
theorem d_M_last_66 : decode b_M_last 66 = .ok (.ireturn, 1) := by decide +kernel
theorem d_M_isThere_0 : decode b_M_isThere 0 = .ok (.aload_n 0, 1) := by decide +kernel
theorem d_M_isThere_1 : decode b_M_isThere 1 = .ok (.iload_n 1, 1) := by decide +kernel
theorem d_M_isThere_2 : decode b_M_isThere 2 = .ok (.iload_n 2, 1) := by decide +kernel
theorem d_M_isThere_3 : decode b_M_isThere 3 = .ok (.invokevirtual 62, 3) := by decide +kernel
theorem d_M_isThere_6 : decode b_M_isThere 6 = .ok (.istore_n 3, 1) := by decide +kernel
theorem d_M_isThere_7 : decode b_M_isThere 7 = .ok (.iload_n 3, 1) := by decide +kernel
theorem d_M_isThere_8 : decode b_M_isThere 8 = .ok (.ifCond .lt 16, 3) := by decide +kernel
theorem d_M_isThere_11 : decode b_M_isThere 11 = .ok (.aload_n 0, 1) := by decide +kernel
theorem d_M_isThere_12 : decode b_M_isThere 12 = .ok (.getfield 16, 3) := by decide +kernel
theorem d_M_isThere_15 : decode b_M_isThere 15 = .ok (.iload_n 3, 1) := by decide +kernel
theorem d_M_isThere_16 : decode b_M_isThere 16 = .ok (.baload, 1) := by decide +kernel
theorem d_M_isThere_17 : decode b_M_isThere 17 = .ok (.ifCond .eq 7, 3) := by decide +kernel
theorem d_M_isThere_20 : decode b_M_isThere 20 = .ok (.iconst 1, 1) := by decide +kernel
theorem d_M_isThere_21 : decode b_M_isThere 21 = .ok (.goto 4, 3) := by decide +kernel
theorem d_M_isThere_24 : decode b_M_isThere 24 = .ok (.iconst 0, 1) := by decide +kernel
theorem d_M_isThere_25 : decode b_M_isThere 25 = .ok (.ireturn, 1) := by decide +kernel
theorem d_M_say_0 : decode b_M_say 0 = .ok (.aload_n 0, 1) := by decide +kernel
theorem d_M_say_1 : decode b_M_say 1 = .ok (.getfield 7, 3) := by decide +kernel
theorem d_M_say_4 : decode b_M_say 4 = .ok (.aload_n 0, 1) := by decide +kernel
theorem d_M_say_5 : decode b_M_say 5 = .ok (.getfield 59, 3) := by decide +kernel
theorem d_M_say_8 : decode b_M_say 8 = .ok (.iload_n 1, 1) := by decide +kernel
theorem d_M_say_9 : decode b_M_say 9 = .ok (.iastore, 1) := by decide +kernel
theorem d_M_say_10 : decode b_M_say 10 = .ok (.aload_n 0, 1) := by decide +kernel
theorem d_M_say_11 : decode b_M_say 11 = .ok (.getfield 13, 3) := by decide +kernel
theorem d_M_say_14 : decode b_M_say 14 = .ok (.aload_n 0, 1) := by decide +kernel
theorem d_M_say_15 : decode b_M_say 15 = .ok (.getfield 59, 3) := by decide +kernel
theorem d_M_say_18 : decode b_M_say 18 = .ok (.iload_n 2, 1) := by decide +kernel
theorem d_M_say_19 : decode b_M_say 19 = .ok (.iastore, 1) := by decide +kernel
theorem d_M_say_20 : decode b_M_say 20 = .ok (.aload_n 0, 1) := by decide +kernel
theorem d_M_say_21 : decode b_M_say 21 = .ok (.getfield 16, 3) := by decide +kernel
theorem d_M_say_24 : decode b_M_say 24 = .ok (.aload_n 0, 1) := by decide +kernel
theorem d_M_say_25 : decode b_M_say 25 = .ok (.getfield 59, 3) := by decide +kernel
theorem d_M_say_28 : decode b_M_say 28 = .ok (.iload_n 3, 1) := by decide +kernel
theorem d_M_say_29 : decode b_M_say 29 = .ok (.bastore, 1) := by decide +kernel
theorem d_M_say_30 : decode b_M_say 30 = .ok (.aload_n 0, 1) := by decide +kernel
theorem d_M_say_31 : decode b_M_say 31 = .ok (.dup, 1) := by decide +kernel
theorem d_M_say_32 : decode b_M_say 32 = .ok (.getfield 59, 3) := by decide +kernel
theorem d_M_say_35 : decode b_M_say 35 = .ok (.iconst 1, 1) := by decide +kernel
theorem d_M_say_36 : decode b_M_say 36 = .ok (.iadd, 1) := by decide +kernel
theorem d_M_say_37 : decode b_M_say 37 = .ok (.putfield 59, 3) := by decide +kernel
theorem d_M_say_40 : decode b_M_say 40 = .ok (.return_, 1) := by decide +kernel
theorem d_M_forget_0 : decode b_M_forget 0 = .ok (.iload_n 2, 1) := by decide +kernel
theorem d_M_forget_1 : decode b_M_forget 1 = .ok (.istore_n 3, 1) := by decide +kernel
theorem d_M_forget_2 : decode b_M_forget 2 = .ok (.iload_n 3, 1) := by decide +kernel
theorem d_M_forget_3 : decode b_M_forget 3 = .ok (.bipush 62, 2) := by decide +kernel
theorem d_M_forget_5 : decode b_M_forget 5 = .ok (.if_icmp .ge 21, 3) := by decide +kernel
theorem d_M_forget_8 : decode b_M_forget 8 = .ok (.aload_n 0, 1) := by decide +kernel
theorem d_M_forget_9 : decode b_M_forget 9 = .ok (.getfield 34, 3) := by decide +kernel
theorem d_M_forget_12 : decode b_M_forget 12 = .ok (.bipush 62, 2) := by decide +kernel
theorem d_M_forget_14 : decode b_M_forget 14 = .ok (.iload_n 1, 1) := by decide +kernel
theorem d_M_forget_15 : decode b_M_forget 15 = .ok (.imul, 1) := by decide +kernel
theorem d_M_forget_16 : decode b_M_forget 16 = .ok (.iload_n 3, 1) := by decide +kernel
theorem d_M_forget_17 : decode b_M_forget 17 = .ok (.iadd, 1) := by decide +kernel
theorem d_M_forget_18 : decode b_M_forget 18 = .ok (.iconst 0, 1) := by decide +kernel
theorem d_M_forget_19 : decode b_M_forget 19 = .ok (.bastore, 1) := by decide +kernel
theorem d_M_forget_20 : decode b_M_forget 20 = .ok (.iinc 3 1, 3) := by decide +kernel
theorem d_M_forget_23 : decode b_M_forget 23 = .ok (.goto (-21), 3) := by decide +kernel
theorem d_M_forget_26 : decode b_M_forget 26 = .ok (.return_, 1) := by decide +kernel
theorem d_M_change_0 : decode b_M_change 0 = .ok (.iload_n 1, 1) := by decide +kernel
theorem d_M_change_1 : decode b_M_change 1 = .ok (.iload_n 2, 1) := by decide +kernel
theorem d_M_change_2 : decode b_M_change 2 = .ok (.iload_n 3, 1) := by decide +kernel
theorem d_M_change_3 : decode b_M_change 3 = .ok (.invokestatic 66, 3) := by decide +kernel
theorem d_M_change_6 : decode b_M_change 6 = .ok (.ifCond .ne 5, 3) := by decide +kernel
theorem d_M_change_9 : decode b_M_change 9 = .ok (.iconst (-1), 1) := by decide +kernel
theorem d_M_change_10 : decode b_M_change 10 = .ok (.ireturn, 1) := by decide +kernel
theorem d_M_change_11 : decode b_M_change 11 = .ok (.aload_n 0, 1) := by decide +kernel
theorem d_M_change_12 : decode b_M_change 12 = .ok (.getfield 59, 3) := by decide +kernel
theorem d_M_change_15 : decode b_M_change 15 = .ok (.sipush 400, 3) := by decide +kernel
theorem d_M_change_18 : decode b_M_change 18 = .ok (.if_icmp .ne 6, 3) := by decide +kernel
theorem d_M_change_21 : decode b_M_change 21 = .ok (.bipush (-3), 2) := by decide +kernel
theorem d_M_change_23 : decode b_M_change 23 = .ok (.ireturn, 1) := by decide +kernel
theorem d_M_change_24 : decode b_M_change 24 = .ok (.aload_n 0, 1) := by decide +kernel
theorem d_M_change_25 : decode b_M_change 25 = .ok (.aload_n 0, 1) := by decide +kernel
theorem d_M_change_26 : decode b_M_change 26 = .ok (.getfield 53, 3) := by decide +kernel
theorem d_M_change_29 : decode b_M_change 29 = .ok (.iload_n 1, 1) := by decide +kernel
theorem d_M_change_30 : decode b_M_change 30 = .ok (.iload_n 2, 1) := by decide +kernel
theorem d_M_change_31 : decode b_M_change 31 = .ok (.iload_n 3, 1) := by decide +kernel
theorem d_M_change_32 : decode b_M_change 32 = .ok (.invokestatic 70, 3) := by decide +kernel
theorem d_M_change_35 : decode b_M_change 35 = .ok (.invokevirtual 74, 3) := by decide +kernel
theorem d_M_change_38 : decode b_M_change 38 = .ok (.istore 5, 2) := by decide +kernel
theorem d_M_change_40 : decode b_M_change 40 = .ok (.aload_n 0, 1) := by decide +kernel
theorem d_M_change_41 : decode b_M_change 41 = .ok (.aload_n 0, 1) := by decide +kernel
theorem d_M_change_42 : decode b_M_change 42 = .ok (.getfield 53, 3) := by decide +kernel
theorem d_M_change_45 : decode b_M_change 45 = .ok (.iload_n 1, 1) := by decide +kernel
theorem d_M_change_46 : decode b_M_change 46 = .ok (.iload_n 2, 1) := by decide +kernel
theorem d_M_change_47 : decode b_M_change 47 = .ok (.iload_n 3, 1) := by decide +kernel
theorem d_M_change_48 : decode b_M_change 48 = .ok (.invokestatic 70, 3) := by decide +kernel
theorem d_M_change_51 : decode b_M_change 51 = .ok (.iload 4, 2) := by decide +kernel
theorem d_M_change_53 : decode b_M_change 53 = .ok (.invokevirtual 78, 3) := by decide +kernel
theorem d_M_change_56 : decode b_M_change 56 = .ok (.iconst 0, 1) := by decide +kernel
theorem d_M_change_57 : decode b_M_change 57 = .ok (.istore 6, 2) := by decide +kernel
theorem d_M_change_59 : decode b_M_change 59 = .ok (.iload 6, 2) := by decide +kernel
theorem d_M_change_61 : decode b_M_change 61 = .ok (.aload_n 0, 1) := by decide +kernel
theorem d_M_change_62 : decode b_M_change 62 = .ok (.getfield 56, 3) := by decide +kernel
theorem d_M_change_65 : decode b_M_change 65 = .ok (.if_icmp .ge 19, 3) := by decide +kernel
theorem d_M_change_68 : decode b_M_change 68 = .ok (.aload_n 0, 1) := by decide +kernel
theorem d_M_change_69 : decode b_M_change 69 = .ok (.iload 6, 2) := by decide +kernel
theorem d_M_change_71 : decode b_M_change 71 = .ok (.aload_n 0, 1) := by decide +kernel
theorem d_M_change_72 : decode b_M_change 72 = .ok (.getfield 53, 3) := by decide +kernel
theorem d_M_change_75 : decode b_M_change 75 = .ok (.invokevirtual 82, 3) := by decide +kernel
theorem d_M_change_78 : decode b_M_change 78 = .ok (.iinc 6 1, 3) := by decide +kernel
theorem d_M_change_81 : decode b_M_change 81 = .ok (.goto (-22), 3) := by decide +kernel
theorem d_M_change_84 : decode b_M_change 84 = .ok (.iload 5, 2) := by decide +kernel
theorem d_M_change_86 : decode b_M_change 86 = .ok (.iload 4, 2) := by decide +kernel
theorem d_M_change_88 : decode b_M_change 88 = .ok (.if_icmp .eq 7, 3) := by decide +kernel
theorem d_M_change_91 : decode b_M_change 91 = .ok (.iconst 1, 1) := by decide +kernel
theorem d_M_change_92 : decode b_M_change 92 = .ok (.goto 4, 3) := by decide +kernel
theorem d_M_change_95 : decode b_M_change 95 = .ok (.iconst 0, 1) := by decide +kernel
theorem d_M_change_96 : decode b_M_change 96 = .ok (.ireturn, 1) := by decide +kernel
theorem d_M_step_0 : decode b_M_step 0 = .ok (.aload_n 0, 1) := by decide +kernel
theorem d_M_step_1 : decode b_M_step 1 = .ok (.getfield 53, 3) := by decide +kernel
theorem d_M_step_4 : decode b_M_step 4 = .ok (.iconst 1, 1) := by decide +kernel
theorem d_M_step_5 : decode b_M_step 5 = .ok (.iadd, 1) := by decide +kernel
theorem d_M_step_6 : decode b_M_step 6 = .ok (.aload_n 0, 1) := by decide +kernel
theorem d_M_step_7 : decode b_M_step 7 = .ok (.getfield 49, 3) := by decide +kernel
theorem d_M_step_10 : decode b_M_step 10 = .ok (.if_icmp .ne 6, 3) := by decide +kernel
theorem d_M_step_13 : decode b_M_step 13 = .ok (.bipush (-3), 2) := by decide +kernel
theorem d_M_step_15 : decode b_M_step 15 = .ok (.ireturn, 1) := by decide +kernel
theorem d_M_step_16 : decode b_M_step 16 = .ok (.aload_n 0, 1) := by decide +kernel
theorem d_M_step_17 : decode b_M_step 17 = .ok (.dup, 1) := by decide +kernel
theorem d_M_step_18 : decode b_M_step 18 = .ok (.getfield 53, 3) := by decide +kernel
theorem d_M_step_21 : decode b_M_step 21 = .ok (.iconst 1, 1) := by decide +kernel
theorem d_M_step_22 : decode b_M_step 22 = .ok (.iadd, 1) := by decide +kernel
theorem d_M_step_23 : decode b_M_step 23 = .ok (.putfield 53, 3) := by decide +kernel
theorem d_M_step_26 : decode b_M_step 26 = .ok (.aload_n 0, 1) := by decide +kernel
theorem d_M_step_27 : decode b_M_step 27 = .ok (.getfield 53, 3) := by decide +kernel
theorem d_M_step_30 : decode b_M_step 30 = .ok (.ireturn, 1) := by decide +kernel
theorem d_M_latest_0 : decode b_M_latest 0 = .ok (.aload_n 0, 1) := by decide +kernel
theorem d_M_latest_1 : decode b_M_latest 1 = .ok (.getfield 53, 3) := by decide +kernel
theorem d_M_latest_4 : decode b_M_latest 4 = .ok (.ireturn, 1) := by decide +kernel
theorem d_M_there_0 : decode b_M_there 0 = .ok (.aload_n 0, 1) := by decide +kernel
theorem d_M_there_1 : decode b_M_there 1 = .ok (.iload_n 1, 1) := by decide +kernel
theorem d_M_there_2 : decode b_M_there 2 = .ok (.invokevirtual 86, 3) := by decide +kernel
theorem d_M_there_5 : decode b_M_there 5 = .ok (.ifCond .eq 13, 3) := by decide +kernel
theorem d_M_there_8 : decode b_M_there 8 = .ok (.iload_n 2, 1) := by decide +kernel
theorem d_M_there_9 : decode b_M_there 9 = .ok (.iload_n 3, 1) := by decide +kernel
theorem d_M_there_10 : decode b_M_there 10 = .ok (.iload 4, 2) := by decide +kernel
theorem d_M_there_12 : decode b_M_there 12 = .ok (.invokestatic 66, 3) := by decide +kernel
theorem d_M_there_15 : decode b_M_there 15 = .ok (.ifCond .ne 7, 3) := by decide +kernel
theorem d_M_there_18 : decode b_M_there 18 = .ok (.iconst (-1), 1) := by decide +kernel
theorem d_M_there_19 : decode b_M_there 19 = .ok (.goto 23, 3) := by decide +kernel
theorem d_M_there_22 : decode b_M_there 22 = .ok (.aload_n 0, 1) := by decide +kernel
theorem d_M_there_23 : decode b_M_there 23 = .ok (.iload_n 1, 1) := by decide +kernel
theorem d_M_there_24 : decode b_M_there 24 = .ok (.iload_n 2, 1) := by decide +kernel
theorem d_M_there_25 : decode b_M_there 25 = .ok (.iload_n 3, 1) := by decide +kernel
theorem d_M_there_26 : decode b_M_there 26 = .ok (.iload 4, 2) := by decide +kernel
theorem d_M_there_28 : decode b_M_there 28 = .ok (.invokestatic 70, 3) := by decide +kernel
theorem d_M_there_31 : decode b_M_there 31 = .ok (.invokevirtual 74, 3) := by decide +kernel
theorem d_M_there_34 : decode b_M_there 34 = .ok (.ifCond .eq 7, 3) := by decide +kernel
theorem d_M_there_37 : decode b_M_there 37 = .ok (.iconst 1, 1) := by decide +kernel
theorem d_M_there_38 : decode b_M_there 38 = .ok (.goto 4, 3) := by decide +kernel
theorem d_M_there_41 : decode b_M_there 41 = .ok (.iconst 0, 1) := by decide +kernel
theorem d_M_there_42 : decode b_M_there 42 = .ok (.ireturn, 1) := by decide +kernel
theorem d_M_age_0 : decode b_M_age 0 = .ok (.aload_n 0, 1) := by decide +kernel
theorem d_M_age_1 : decode b_M_age 1 = .ok (.iload_n 1, 1) := by decide +kernel
theorem d_M_age_2 : decode b_M_age 2 = .ok (.invokevirtual 86, 3) := by decide +kernel
theorem d_M_age_5 : decode b_M_age 5 = .ok (.ifCond .eq 13, 3) := by decide +kernel
theorem d_M_age_8 : decode b_M_age 8 = .ok (.iload_n 2, 1) := by decide +kernel
theorem d_M_age_9 : decode b_M_age 9 = .ok (.iload_n 3, 1) := by decide +kernel
theorem d_M_age_10 : decode b_M_age 10 = .ok (.iload 4, 2) := by decide +kernel
theorem d_M_age_12 : decode b_M_age 12 = .ok (.invokestatic 66, 3) := by decide +kernel
theorem d_M_age_15 : decode b_M_age 15 = .ok (.ifCond .ne 5, 3) := by decide +kernel
theorem d_M_age_18 : decode b_M_age 18 = .ok (.iconst (-1), 1) := by decide +kernel
theorem d_M_age_19 : decode b_M_age 19 = .ok (.ireturn, 1) := by decide +kernel
theorem d_M_age_20 : decode b_M_age 20 = .ok (.aload_n 0, 1) := by decide +kernel
theorem d_M_age_21 : decode b_M_age 21 = .ok (.iload_n 1, 1) := by decide +kernel
theorem d_M_age_22 : decode b_M_age 22 = .ok (.iload_n 2, 1) := by decide +kernel
theorem d_M_age_23 : decode b_M_age 23 = .ok (.iload_n 3, 1) := by decide +kernel
theorem d_M_age_24 : decode b_M_age 24 = .ok (.iload 4, 2) := by decide +kernel
theorem d_M_age_26 : decode b_M_age 26 = .ok (.invokestatic 70, 3) := by decide +kernel
theorem d_M_age_29 : decode b_M_age 29 = .ok (.invokevirtual 74, 3) := by decide +kernel
theorem d_M_age_32 : decode b_M_age 32 = .ok (.ifCond .eq 25, 3) := by decide +kernel
theorem d_M_age_35 : decode b_M_age 35 = .ok (.iload_n 1, 1) := by decide +kernel
theorem d_M_age_36 : decode b_M_age 36 = .ok (.aload_n 0, 1) := by decide +kernel
theorem d_M_age_37 : decode b_M_age 37 = .ok (.getfield 7, 3) := by decide +kernel
theorem d_M_age_40 : decode b_M_age 40 = .ok (.aload_n 0, 1) := by decide +kernel
theorem d_M_age_41 : decode b_M_age 41 = .ok (.iload_n 1, 1) := by decide +kernel
theorem d_M_age_42 : decode b_M_age 42 = .ok (.iload_n 2, 1) := by decide +kernel
theorem d_M_age_43 : decode b_M_age 43 = .ok (.iload_n 3, 1) := by decide +kernel
theorem d_M_age_44 : decode b_M_age 44 = .ok (.iload 4, 2) := by decide +kernel
theorem d_M_age_46 : decode b_M_age 46 = .ok (.invokestatic 70, 3) := by decide +kernel
theorem d_M_age_49 : decode b_M_age 49 = .ok (.invokevirtual 62, 3) := by decide +kernel
theorem d_M_age_52 : decode b_M_age 52 = .ok (.iaload, 1) := by decide +kernel
theorem d_M_age_53 : decode b_M_age 53 = .ok (.isub, 1) := by decide +kernel
theorem d_M_age_54 : decode b_M_age 54 = .ok (.goto 5, 3) := by decide +kernel
theorem d_M_age_57 : decode b_M_age 57 = .ok (.bipush (-2), 2) := by decide +kernel
theorem d_M_age_59 : decode b_M_age 59 = .ok (.ireturn, 1) := by decide +kernel
theorem d_M_question_0 : decode b_M_question 0 = .ok (.iload_n 1, 1) := by decide +kernel
theorem d_M_question_1 : decode b_M_question 1 = .ok (.ifCond .lt 9, 3) := by decide +kernel
theorem d_M_question_4 : decode b_M_question 4 = .ok (.iload_n 1, 1) := by decide +kernel
theorem d_M_question_5 : decode b_M_question 5 = .ok (.bipush 62, 2) := by decide +kernel
theorem d_M_question_7 : decode b_M_question 7 = .ok (.if_icmp .le 5, 3) := by decide +kernel
theorem d_M_question_10 : decode b_M_question 10 = .ok (.iconst (-1), 1) := by decide +kernel
theorem d_M_question_11 : decode b_M_question 11 = .ok (.ireturn, 1) := by decide +kernel
theorem d_M_question_12 : decode b_M_question 12 = .ok (.aload_n 0, 1) := by decide +kernel
theorem d_M_question_13 : decode b_M_question 13 = .ok (.getfield 56, 3) := by decide +kernel
theorem d_M_question_16 : decode b_M_question 16 = .ok (.bipush 12, 2) := by decide +kernel
theorem d_M_question_18 : decode b_M_question 18 = .ok (.if_icmp .ne 6, 3) := by decide +kernel
theorem d_M_question_21 : decode b_M_question 21 = .ok (.bipush (-3), 2) := by decide +kernel
theorem d_M_question_23 : decode b_M_question 23 = .ok (.ireturn, 1) := by decide +kernel
theorem d_M_question_24 : decode b_M_question 24 = .ok (.aload_n 0, 1) := by decide +kernel
theorem d_M_question_25 : decode b_M_question 25 = .ok (.getfield 20, 3) := by decide +kernel
theorem d_M_question_28 : decode b_M_question 28 = .ok (.aload_n 0, 1) := by decide +kernel
theorem d_M_question_29 : decode b_M_question 29 = .ok (.getfield 56, 3) := by decide +kernel
theorem d_M_question_32 : decode b_M_question 32 = .ok (.iload_n 1, 1) := by decide +kernel
theorem d_M_question_33 : decode b_M_question 33 = .ok (.iastore, 1) := by decide +kernel
theorem d_M_question_34 : decode b_M_question 34 = .ok (.aload_n 0, 1) := by decide +kernel
theorem d_M_question_35 : decode b_M_question 35 = .ok (.getfield 23, 3) := by decide +kernel
theorem d_M_question_38 : decode b_M_question 38 = .ok (.aload_n 0, 1) := by decide +kernel
theorem d_M_question_39 : decode b_M_question 39 = .ok (.getfield 56, 3) := by decide +kernel
theorem d_M_question_42 : decode b_M_question 42 = .ok (.iconst 0, 1) := by decide +kernel
theorem d_M_question_43 : decode b_M_question 43 = .ok (.iastore, 1) := by decide +kernel
theorem d_M_question_44 : decode b_M_question 44 = .ok (.aload_n 0, 1) := by decide +kernel
theorem d_M_question_45 : decode b_M_question 45 = .ok (.aload_n 0, 1) := by decide +kernel
theorem d_M_question_46 : decode b_M_question 46 = .ok (.getfield 56, 3) := by decide +kernel
theorem d_M_question_49 : decode b_M_question 49 = .ok (.iconst 0, 1) := by decide +kernel
theorem d_M_question_50 : decode b_M_question 50 = .ok (.invokevirtual 82, 3) := by decide +kernel
theorem d_M_question_53 : decode b_M_question 53 = .ok (.aload_n 0, 1) := by decide +kernel
theorem d_M_question_54 : decode b_M_question 54 = .ok (.dup, 1) := by decide +kernel
theorem d_M_question_55 : decode b_M_question 55 = .ok (.getfield 56, 3) := by decide +kernel
theorem d_M_question_58 : decode b_M_question 58 = .ok (.iconst 1, 1) := by decide +kernel
theorem d_M_question_59 : decode b_M_question 59 = .ok (.iadd, 1) := by decide +kernel
theorem d_M_question_60 : decode b_M_question 60 = .ok (.putfield 56, 3) := by decide +kernel
theorem d_M_question_63 : decode b_M_question 63 = .ok (.aload_n 0, 1) := by decide +kernel
theorem d_M_question_64 : decode b_M_question 64 = .ok (.getfield 56, 3) := by decide +kernel
theorem d_M_question_67 : decode b_M_question 67 = .ok (.iconst 1, 1) := by decide +kernel
theorem d_M_question_68 : decode b_M_question 68 = .ok (.isub, 1) := by decide +kernel
theorem d_M_question_69 : decode b_M_question 69 = .ok (.ireturn, 1) := by decide +kernel
theorem d_M_isItem_0 : decode b_M_isItem 0 = .ok (.iload_n 0, 1) := by decide +kernel
theorem d_M_isItem_1 : decode b_M_isItem 1 = .ok (.bipush (-4), 2) := by decide +kernel
theorem d_M_isItem_3 : decode b_M_isItem 3 = .ok (.if_icmp .lt 12, 3) := by decide +kernel
theorem d_M_isItem_6 : decode b_M_isItem 6 = .ok (.iload_n 0, 1) := by decide +kernel
theorem d_M_isItem_7 : decode b_M_isItem 7 = .ok (.iload_n 1, 1) := by decide +kernel
theorem d_M_isItem_8 : decode b_M_isItem 8 = .ok (.if_icmp .ge 7, 3) := by decide +kernel
theorem d_M_isItem_11 : decode b_M_isItem 11 = .ok (.iconst 1, 1) := by decide +kernel
theorem d_M_isItem_12 : decode b_M_isItem 12 = .ok (.goto 4, 3) := by decide +kernel
theorem d_M_isItem_15 : decode b_M_isItem 15 = .ok (.iconst 0, 1) := by decide +kernel
theorem d_M_isItem_16 : decode b_M_isItem 16 = .ok (.ireturn, 1) := by decide +kernel
theorem d_M_pattern_0 : decode b_M_pattern 0 = .ok (.aload_n 0, 1) := by decide +kernel
theorem d_M_pattern_1 : decode b_M_pattern 1 = .ok (.iload_n 1, 1) := by decide +kernel
theorem d_M_pattern_2 : decode b_M_pattern 2 = .ok (.invokevirtual 90, 3) := by decide +kernel
theorem d_M_pattern_5 : decode b_M_pattern 5 = .ok (.ifCond .eq 31, 3) := by decide +kernel
theorem d_M_pattern_8 : decode b_M_pattern 8 = .ok (.iload_n 2, 1) := by decide +kernel
theorem d_M_pattern_9 : decode b_M_pattern 9 = .ok (.bipush 16, 2) := by decide +kernel
theorem d_M_pattern_11 : decode b_M_pattern 11 = .ok (.invokestatic 93, 3) := by decide +kernel
theorem d_M_pattern_14 : decode b_M_pattern 14 = .ok (.ifCond .eq 22, 3) := by decide +kernel
theorem d_M_pattern_17 : decode b_M_pattern 17 = .ok (.iload_n 3, 1) := by decide +kernel
theorem d_M_pattern_18 : decode b_M_pattern 18 = .ok (.bipush 8, 2) := by decide +kernel
theorem d_M_pattern_20 : decode b_M_pattern 20 = .ok (.invokestatic 93, 3) := by decide +kernel
theorem d_M_pattern_23 : decode b_M_pattern 23 = .ok (.ifCond .eq 13, 3) := by decide +kernel
theorem d_M_pattern_26 : decode b_M_pattern 26 = .ok (.iload 4, 2) := by decide +kernel
theorem d_M_pattern_28 : decode b_M_pattern 28 = .ok (.bipush 16, 2) := by decide +kernel
theorem d_M_pattern_30 : decode b_M_pattern 30 = .ok (.invokestatic 93, 3) := by decide +kernel
theorem d_M_pattern_33 : decode b_M_pattern 33 = .ok (.ifCond .ne 5, 3) := by decide +kernel
theorem d_M_pattern_36 : decode b_M_pattern 36 = .ok (.iconst (-1), 1) := by decide +kernel
theorem d_M_pattern_37 : decode b_M_pattern 37 = .ok (.ireturn, 1) := by decide +kernel
theorem d_M_pattern_38 : decode b_M_pattern 38 = .ok (.aload_n 0, 1) := by decide +kernel
theorem d_M_pattern_39 : decode b_M_pattern 39 = .ok (.getfield 23, 3) := by decide +kernel
theorem d_M_pattern_42 : decode b_M_pattern 42 = .ok (.iload_n 1, 1) := by decide +kernel
theorem d_M_pattern_43 : decode b_M_pattern 43 = .ok (.iaload, 1) := by decide +kernel
theorem d_M_pattern_44 : decode b_M_pattern 44 = .ok (.iconst 3, 1) := by decide +kernel
theorem d_M_pattern_45 : decode b_M_pattern 45 = .ok (.if_icmp .ne 6, 3) := by decide +kernel
theorem d_M_pattern_48 : decode b_M_pattern 48 = .ok (.bipush (-3), 2) := by decide +kernel
theorem d_M_pattern_50 : decode b_M_pattern 50 = .ok (.ireturn, 1) := by decide +kernel
theorem d_M_pattern_51 : decode b_M_pattern 51 = .ok (.bipush 9, 2) := by decide +kernel
theorem d_M_pattern_53 : decode b_M_pattern 53 = .ok (.iload_n 1, 1) := by decide +kernel
theorem d_M_pattern_54 : decode b_M_pattern 54 = .ok (.imul, 1) := by decide +kernel
theorem d_M_pattern_55 : decode b_M_pattern 55 = .ok (.iconst 3, 1) := by decide +kernel
theorem d_M_pattern_56 : decode b_M_pattern 56 = .ok (.aload_n 0, 1) := by decide +kernel
theorem d_M_pattern_57 : decode b_M_pattern 57 = .ok (.getfield 23, 3) := by decide +kernel
theorem d_M_pattern_60 : decode b_M_pattern 60 = .ok (.iload_n 1, 1) := by decide +kernel
theorem d_M_pattern_61 : decode b_M_pattern 61 = .ok (.iaload, 1) := by decide +kernel
theorem d_M_pattern_62 : decode b_M_pattern 62 = .ok (.imul, 1) := by decide +kernel
theorem d_M_pattern_63 : decode b_M_pattern 63 = .ok (.iadd, 1) := by decide +kernel
theorem d_M_pattern_64 : decode b_M_pattern 64 = .ok (.istore 5, 2) := by decide +kernel
theorem d_M_pattern_66 : decode b_M_pattern 66 = .ok (.aload_n 0, 1) := by decide +kernel
theorem d_M_pattern_67 : decode b_M_pattern 67 = .ok (.getfield 26, 3) := by decide +kernel
theorem d_M_pattern_70 : decode b_M_pattern 70 = .ok (.iload 5, 2) := by decide +kernel
theorem d_M_pattern_72 : decode b_M_pattern 72 = .ok (.iload_n 2, 1) := by decide +kernel
theorem d_M_pattern_73 : decode b_M_pattern 73 = .ok (.iastore, 1) := by decide +kernel
theorem d_M_pattern_74 : decode b_M_pattern 74 = .ok (.aload_n 0, 1) := by decide +kernel
theorem d_M_pattern_75 : decode b_M_pattern 75 = .ok (.getfield 26, 3) := by decide +kernel
theorem d_M_pattern_78 : decode b_M_pattern 78 = .ok (.iload 5, 2) := by decide +kernel
theorem d_M_pattern_80 : decode b_M_pattern 80 = .ok (.iconst 1, 1) := by decide +kernel
theorem d_M_pattern_81 : decode b_M_pattern 81 = .ok (.iadd, 1) := by decide +kernel
theorem d_M_pattern_82 : decode b_M_pattern 82 = .ok (.iload_n 3, 1) := by decide +kernel
theorem d_M_pattern_83 : decode b_M_pattern 83 = .ok (.iastore, 1) := by decide +kernel
theorem d_M_pattern_84 : decode b_M_pattern 84 = .ok (.aload_n 0, 1) := by decide +kernel
theorem d_M_pattern_85 : decode b_M_pattern 85 = .ok (.getfield 26, 3) := by decide +kernel
theorem d_M_pattern_88 : decode b_M_pattern 88 = .ok (.iload 5, 2) := by decide +kernel
theorem d_M_pattern_90 : decode b_M_pattern 90 = .ok (.iconst 2, 1) := by decide +kernel
theorem d_M_pattern_91 : decode b_M_pattern 91 = .ok (.iadd, 1) := by decide +kernel
theorem d_M_pattern_92 : decode b_M_pattern 92 = .ok (.iload 4, 2) := by decide +kernel
theorem d_M_pattern_94 : decode b_M_pattern 94 = .ok (.iastore, 1) := by decide +kernel
theorem d_M_pattern_95 : decode b_M_pattern 95 = .ok (.aload_n 0, 1) := by decide +kernel
theorem d_M_pattern_96 : decode b_M_pattern 96 = .ok (.getfield 23, 3) := by decide +kernel
theorem d_M_pattern_99 : decode b_M_pattern 99 = .ok (.iload_n 1, 1) := by decide +kernel
theorem d_M_pattern_100 : decode b_M_pattern 100 = .ok (.dup2, 1) := by decide +kernel
theorem d_M_pattern_101 : decode b_M_pattern 101 = .ok (.iaload, 1) := by decide +kernel
theorem d_M_pattern_102 : decode b_M_pattern 102 = .ok (.iconst 1, 1) := by decide +kernel
theorem d_M_pattern_103 : decode b_M_pattern 103 = .ok (.iadd, 1) := by decide +kernel
theorem d_M_pattern_104 : decode b_M_pattern 104 = .ok (.iastore, 1) := by decide +kernel
theorem d_M_pattern_105 : decode b_M_pattern 105 = .ok (.aload_n 0, 1) := by decide +kernel
theorem d_M_pattern_106 : decode b_M_pattern 106 = .ok (.iload_n 1, 1) := by decide +kernel
theorem d_M_pattern_107 : decode b_M_pattern 107 = .ok (.iconst 0, 1) := by decide +kernel
theorem d_M_pattern_108 : decode b_M_pattern 108 = .ok (.invokevirtual 82, 3) := by decide +kernel
theorem d_M_pattern_111 : decode b_M_pattern 111 = .ok (.aload_n 0, 1) := by decide +kernel
theorem d_M_pattern_112 : decode b_M_pattern 112 = .ok (.getfield 23, 3) := by decide +kernel
theorem d_M_pattern_115 : decode b_M_pattern 115 = .ok (.iload_n 1, 1) := by decide +kernel
theorem d_M_pattern_116 : decode b_M_pattern 116 = .ok (.iaload, 1) := by decide +kernel
theorem d_M_pattern_117 : decode b_M_pattern 117 = .ok (.ireturn, 1) := by decide +kernel
theorem d_M_window_0 : decode b_M_window 0 = .ok (.aload_n 0, 1) := by decide +kernel
theorem d_M_window_1 : decode b_M_window 1 = .ok (.iload_n 1, 1) := by decide +kernel
theorem d_M_window_2 : decode b_M_window 2 = .ok (.invokevirtual 90, 3) := by decide +kernel
theorem d_M_window_5 : decode b_M_window 5 = .ok (.ifCond .eq 13, 3) := by decide +kernel
theorem d_M_window_8 : decode b_M_window 8 = .ok (.iload_n 2, 1) := by decide +kernel
theorem d_M_window_9 : decode b_M_window 9 = .ok (.ifCond .lt 9, 3) := by decide +kernel
theorem d_M_window_12 : decode b_M_window 12 = .ok (.iload_n 2, 1) := by decide +kernel
theorem d_M_window_13 : decode b_M_window 13 = .ok (.bipush 62, 2) := by decide +kernel
theorem d_M_window_15 : decode b_M_window 15 = .ok (.if_icmp .le 5, 3) := by decide +kernel
theorem d_M_window_18 : decode b_M_window 18 = .ok (.iconst (-1), 1) := by decide +kernel
theorem d_M_window_19 : decode b_M_window 19 = .ok (.ireturn, 1) := by decide +kernel
theorem d_M_window_20 : decode b_M_window 20 = .ok (.aload_n 0, 1) := by decide +kernel
theorem d_M_window_21 : decode b_M_window 21 = .ok (.getfield 20, 3) := by decide +kernel
theorem d_M_window_24 : decode b_M_window 24 = .ok (.iload_n 1, 1) := by decide +kernel
theorem d_M_window_25 : decode b_M_window 25 = .ok (.iaload, 1) := by decide +kernel
theorem d_M_window_26 : decode b_M_window 26 = .ok (.istore_n 3, 1) := by decide +kernel
theorem d_M_window_27 : decode b_M_window 27 = .ok (.aload_n 0, 1) := by decide +kernel
theorem d_M_window_28 : decode b_M_window 28 = .ok (.getfield 20, 3) := by decide +kernel
theorem d_M_window_31 : decode b_M_window 31 = .ok (.iload_n 1, 1) := by decide +kernel
theorem d_M_window_32 : decode b_M_window 32 = .ok (.iload_n 2, 1) := by decide +kernel
theorem d_M_window_33 : decode b_M_window 33 = .ok (.iastore, 1) := by decide +kernel
theorem d_M_window_34 : decode b_M_window 34 = .ok (.aload_n 0, 1) := by decide +kernel
theorem d_M_window_35 : decode b_M_window 35 = .ok (.iload_n 1, 1) := by decide +kernel
theorem d_M_window_36 : decode b_M_window 36 = .ok (.iconst 0, 1) := by decide +kernel
theorem d_M_window_37 : decode b_M_window 37 = .ok (.invokevirtual 82, 3) := by decide +kernel
theorem d_M_window_40 : decode b_M_window 40 = .ok (.iload_n 3, 1) := by decide +kernel
theorem d_M_window_41 : decode b_M_window 41 = .ok (.ireturn, 1) := by decide +kernel
theorem d_M_see_0 : decode b_M_see 0 = .ok (.iconst 0, 1) := by decide +kernel
theorem d_M_see_1 : decode b_M_see 1 = .ok (.istore_n 3, 1) := by decide +kernel
theorem d_M_see_2 : decode b_M_see 2 = .ok (.iload_n 3, 1) := by decide +kernel
theorem d_M_see_3 : decode b_M_see 3 = .ok (.sipush 2048, 3) := by decide +kernel
theorem d_M_see_6 : decode b_M_see 6 = .ok (.if_icmp .ge 16, 3) := by decide +kernel
theorem d_M_see_9 : decode b_M_see 9 = .ok (.aload_n 0, 1) := by decide +kernel
theorem d_M_see_10 : decode b_M_see 10 = .ok (.getfield 46, 3) := by decide +kernel
theorem d_M_see_13 : decode b_M_see 13 = .ok (.iload_n 3, 1) := by decide +kernel
theorem d_M_see_14 : decode b_M_see 14 = .ok (.iconst (-1), 1) := by decide +kernel
theorem d_M_see_15 : decode b_M_see 15 = .ok (.iastore, 1) := by decide +kernel
theorem d_M_see_16 : decode b_M_see 16 = .ok (.iinc 3 1, 3) := by decide +kernel
theorem d_M_see_19 : decode b_M_see 19 = .ok (.goto (-17), 3) := by decide +kernel
theorem d_M_see_22 : decode b_M_see 22 = .ok (.iconst 0, 1) := by decide +kernel
theorem d_M_see_23 : decode b_M_see 23 = .ok (.istore_n 3, 1) := by decide +kernel
theorem d_M_see_24 : decode b_M_see 24 = .ok (.iload_n 3, 1) := by decide +kernel
theorem d_M_see_25 : decode b_M_see 25 = .ok (.aload_n 0, 1) := by decide +kernel
theorem d_M_see_26 : decode b_M_see 26 = .ok (.getfield 59, 3) := by decide +kernel
theorem d_M_see_29 : decode b_M_see 29 = .ok (.if_icmp .ge 66, 3) := by decide +kernel
theorem d_M_see_32 : decode b_M_see 32 = .ok (.aload_n 0, 1) := by decide +kernel
theorem d_M_see_33 : decode b_M_see 33 = .ok (.getfield 13, 3) := by decide +kernel
theorem d_M_see_36 : decode b_M_see 36 = .ok (.iload_n 3, 1) := by decide +kernel
theorem d_M_see_37 : decode b_M_see 37 = .ok (.iaload, 1) := by decide +kernel
theorem d_M_see_38 : decode b_M_see 38 = .ok (.istore 4, 2) := by decide +kernel
theorem d_M_see_40 : decode b_M_see 40 = .ok (.aload_n 0, 1) := by decide +kernel
theorem d_M_see_41 : decode b_M_see 41 = .ok (.getfield 7, 3) := by decide +kernel
theorem d_M_see_44 : decode b_M_see 44 = .ok (.iload_n 3, 1) := by decide +kernel
theorem d_M_see_45 : decode b_M_see 45 = .ok (.iaload, 1) := by decide +kernel
theorem d_M_see_46 : decode b_M_see 46 = .ok (.iload_n 1, 1) := by decide +kernel
theorem d_M_see_47 : decode b_M_see 47 = .ok (.if_icmp .gt 42, 3) := by decide +kernel
theorem d_M_see_50 : decode b_M_see 50 = .ok (.aload_n 0, 1) := by decide +kernel
theorem d_M_see_51 : decode b_M_see 51 = .ok (.getfield 46, 3) := by decide +kernel
theorem d_M_see_54 : decode b_M_see 54 = .ok (.iload 4, 2) := by decide +kernel
theorem d_M_see_56 : decode b_M_see 56 = .ok (.iaload, 1) := by decide +kernel
theorem d_M_see_57 : decode b_M_see 57 = .ok (.ifCond .lt 24, 3) := by decide +kernel
theorem d_M_see_60 : decode b_M_see 60 = .ok (.aload_n 0, 1) := by decide +kernel
theorem d_M_see_61 : decode b_M_see 61 = .ok (.getfield 7, 3) := by decide +kernel
theorem d_M_see_64 : decode b_M_see 64 = .ok (.iload_n 3, 1) := by decide +kernel
theorem d_M_see_65 : decode b_M_see 65 = .ok (.iaload, 1) := by decide +kernel
theorem d_M_see_66 : decode b_M_see 66 = .ok (.aload_n 0, 1) := by decide +kernel
theorem d_M_see_67 : decode b_M_see 67 = .ok (.getfield 7, 3) := by decide +kernel
theorem d_M_see_70 : decode b_M_see 70 = .ok (.aload_n 0, 1) := by decide +kernel
theorem d_M_see_71 : decode b_M_see 71 = .ok (.getfield 46, 3) := by decide +kernel
theorem d_M_see_74 : decode b_M_see 74 = .ok (.iload 4, 2) := by decide +kernel
theorem d_M_see_76 : decode b_M_see 76 = .ok (.iaload, 1) := by decide +kernel
theorem d_M_see_77 : decode b_M_see 77 = .ok (.iaload, 1) := by decide +kernel
theorem d_M_see_78 : decode b_M_see 78 = .ok (.if_icmp .lt 11, 3) := by decide +kernel
theorem d_M_see_81 : decode b_M_see 81 = .ok (.aload_n 0, 1) := by decide +kernel
theorem d_M_see_82 : decode b_M_see 82 = .ok (.getfield 46, 3) := by decide +kernel
theorem d_M_see_85 : decode b_M_see 85 = .ok (.iload 4, 2) := by decide +kernel
theorem d_M_see_87 : decode b_M_see 87 = .ok (.iload_n 3, 1) := by decide +kernel
theorem d_M_see_88 : decode b_M_see 88 = .ok (.iastore, 1) := by decide +kernel
theorem d_M_see_89 : decode b_M_see 89 = .ok (.iinc 3 1, 3) := by decide +kernel
theorem d_M_see_92 : decode b_M_see 92 = .ok (.goto (-68), 3) := by decide +kernel
theorem d_M_see_95 : decode b_M_see 95 = .ok (.iconst 0, 1) := by decide +kernel
theorem d_M_see_96 : decode b_M_see 96 = .ok (.istore_n 3, 1) := by decide +kernel
theorem d_M_see_97 : decode b_M_see 97 = .ok (.iload_n 3, 1) := by decide +kernel
theorem d_M_see_98 : decode b_M_see 98 = .ok (.sipush 2048, 3) := by decide +kernel
theorem d_M_see_101 : decode b_M_see 101 = .ok (.if_icmp .ge 60, 3) := by decide +kernel
theorem d_M_see_104 : decode b_M_see 104 = .ok (.aload_n 0, 1) := by decide +kernel
theorem d_M_see_105 : decode b_M_see 105 = .ok (.getfield 46, 3) := by decide +kernel
theorem d_M_see_108 : decode b_M_see 108 = .ok (.iload_n 3, 1) := by decide +kernel
theorem d_M_see_109 : decode b_M_see 109 = .ok (.iaload, 1) := by decide +kernel
theorem d_M_see_110 : decode b_M_see 110 = .ok (.istore 4, 2) := by decide +kernel
theorem d_M_see_112 : decode b_M_see 112 = .ok (.aload_n 0, 1) := by decide +kernel
theorem d_M_see_113 : decode b_M_see 113 = .ok (.getfield 40, 3) := by decide +kernel
theorem d_M_see_116 : decode b_M_see 116 = .ok (.iload_n 3, 1) := by decide +kernel
theorem d_M_see_117 : decode b_M_see 117 = .ok (.iload 4, 2) := by decide +kernel
theorem d_M_see_119 : decode b_M_see 119 = .ok (.ifCond .lt 34, 3) := by decide +kernel
theorem d_M_see_122 : decode b_M_see 122 = .ok (.aload_n 0, 1) := by decide +kernel
theorem d_M_see_123 : decode b_M_see 123 = .ok (.getfield 16, 3) := by decide +kernel
theorem d_M_see_126 : decode b_M_see 126 = .ok (.iload 4, 2) := by decide +kernel
theorem d_M_see_128 : decode b_M_see 128 = .ok (.baload, 1) := by decide +kernel
theorem d_M_see_129 : decode b_M_see 129 = .ok (.ifCond .eq 24, 3) := by decide +kernel
theorem d_M_see_132 : decode b_M_see 132 = .ok (.iload_n 2, 1) := by decide +kernel
theorem d_M_see_133 : decode b_M_see 133 = .ok (.ifCond .eq 16, 3) := by decide +kernel
theorem d_M_see_136 : decode b_M_see 136 = .ok (.iload_n 1, 1) := by decide +kernel
theorem d_M_see_137 : decode b_M_see 137 = .ok (.aload_n 0, 1) := by decide +kernel
theorem d_M_see_138 : decode b_M_see 138 = .ok (.getfield 7, 3) := by decide +kernel
theorem d_M_see_141 : decode b_M_see 141 = .ok (.iload 4, 2) := by decide +kernel
theorem d_M_see_143 : decode b_M_see 143 = .ok (.iaload, 1) := by decide +kernel
theorem d_M_see_144 : decode b_M_see 144 = .ok (.isub, 1) := by decide +kernel
theorem d_M_see_145 : decode b_M_see 145 = .ok (.iload_n 2, 1) := by decide +kernel
theorem d_M_see_146 : decode b_M_see 146 = .ok (.if_icmp .ge 7, 3) := by decide +kernel
theorem d_M_see_149 : decode b_M_see 149 = .ok (.iconst 1, 1) := by decide +kernel
theorem d_M_see_150 : decode b_M_see 150 = .ok (.goto 4, 3) := by decide +kernel
theorem d_M_see_153 : decode b_M_see 153 = .ok (.iconst 0, 1) := by decide +kernel
theorem d_M_see_154 : decode b_M_see 154 = .ok (.bastore, 1) := by decide +kernel
theorem d_M_see_155 : decode b_M_see 155 = .ok (.iinc 3 1, 3) := by decide +kernel
theorem d_M_see_158 : decode b_M_see 158 = .ok (.goto (-61), 3) := by decide +kernel
theorem d_M_see_161 : decode b_M_see 161 = .ok (.return_, 1) := by decide +kernel
theorem d_M_valueOf_0 : decode b_M_valueOf 0 = .ok (.iload_n 1, 1) := by decide +kernel
theorem d_M_valueOf_1 : decode b_M_valueOf 1 = .ok (.ifCond .lt 7, 3) := by decide +kernel
theorem d_M_valueOf_4 : decode b_M_valueOf 4 = .ok (.iload_n 1, 1) := by decide +kernel
theorem d_M_valueOf_5 : decode b_M_valueOf 5 = .ok (.goto 10, 3) := by decide +kernel
theorem d_M_valueOf_8 : decode b_M_valueOf 8 = .ok (.aload_n 0, 1) := by decide +kernel
theorem d_M_valueOf_9 : decode b_M_valueOf 9 = .ok (.getfield 43, 3) := by decide +kernel
theorem d_M_valueOf_12 : decode b_M_valueOf 12 = .ok (.iload_n 1, 1) := by decide +kernel
theorem d_M_valueOf_13 : decode b_M_valueOf 13 = .ok (.ineg, 1) := by decide +kernel
theorem d_M_valueOf_14 : decode b_M_valueOf 14 = .ok (.iaload, 1) := by decide +kernel
theorem d_M_valueOf_15 : decode b_M_valueOf 15 = .ok (.ireturn, 1) := by decide +kernel
theorem d_M_isRow_0 : decode b_M_isRow 0 = .ok (.iconst 0, 1) := by decide +kernel
theorem d_M_isRow_1 : decode b_M_isRow 1 = .ok (.istore_n 2, 1) := by decide +kernel
theorem d_M_isRow_2 : decode b_M_isRow 2 = .ok (.iload_n 2, 1) := by decide +kernel
theorem d_M_isRow_3 : decode b_M_isRow 3 = .ok (.aload_n 0, 1) := by decide +kernel
theorem d_M_isRow_4 : decode b_M_isRow 4 = .ok (.getfield 23, 3) := by decide +kernel
theorem d_M_isRow_7 : decode b_M_isRow 7 = .ok (.iload_n 1, 1) := by decide +kernel
theorem d_M_isRow_8 : decode b_M_isRow 8 = .ok (.iaload, 1) := by decide +kernel
theorem d_M_isRow_9 : decode b_M_isRow 9 = .ok (.if_icmp .ge 76, 3) := by decide +kernel
theorem d_M_isRow_12 : decode b_M_isRow 12 = .ok (.bipush 9, 2) := by decide +kernel
theorem d_M_isRow_14 : decode b_M_isRow 14 = .ok (.iload_n 1, 1) := by decide +kernel
theorem d_M_isRow_15 : decode b_M_isRow 15 = .ok (.imul, 1) := by decide +kernel
theorem d_M_isRow_16 : decode b_M_isRow 16 = .ok (.iconst 3, 1) := by decide +kernel
theorem d_M_isRow_17 : decode b_M_isRow 17 = .ok (.iload_n 2, 1) := by decide +kernel
theorem d_M_isRow_18 : decode b_M_isRow 18 = .ok (.imul, 1) := by decide +kernel
theorem d_M_isRow_19 : decode b_M_isRow 19 = .ok (.iadd, 1) := by decide +kernel
theorem d_M_isRow_20 : decode b_M_isRow 20 = .ok (.istore_n 3, 1) := by decide +kernel
theorem d_M_isRow_21 : decode b_M_isRow 21 = .ok (.aload_n 0, 1) := by decide +kernel
theorem d_M_isRow_22 : decode b_M_isRow 22 = .ok (.aload_n 0, 1) := by decide +kernel
theorem d_M_isRow_23 : decode b_M_isRow 23 = .ok (.getfield 26, 3) := by decide +kernel
theorem d_M_isRow_26 : decode b_M_isRow 26 = .ok (.iload_n 3, 1) := by decide +kernel
theorem d_M_isRow_27 : decode b_M_isRow 27 = .ok (.iconst 1, 1) := by decide +kernel
theorem d_M_isRow_28 : decode b_M_isRow 28 = .ok (.iadd, 1) := by decide +kernel
theorem d_M_isRow_29 : decode b_M_isRow 29 = .ok (.iaload, 1) := by decide +kernel
theorem d_M_isRow_30 : decode b_M_isRow 30 = .ok (.invokevirtual 96, 3) := by decide +kernel
theorem d_M_isRow_33 : decode b_M_isRow 33 = .ok (.istore 4, 2) := by decide +kernel
theorem d_M_isRow_35 : decode b_M_isRow 35 = .ok (.iload 4, 2) := by decide +kernel
theorem d_M_isRow_37 : decode b_M_isRow 37 = .ok (.bipush 7, 2) := by decide +kernel
theorem d_M_isRow_39 : decode b_M_isRow 39 = .ok (.if_icmp .gt 38, 3) := by decide +kernel
theorem d_M_isRow_42 : decode b_M_isRow 42 = .ok (.aload_n 0, 1) := by decide +kernel
theorem d_M_isRow_43 : decode b_M_isRow 43 = .ok (.getfield 40, 3) := by decide +kernel
theorem d_M_isRow_46 : decode b_M_isRow 46 = .ok (.aload_n 0, 1) := by decide +kernel
theorem d_M_isRow_47 : decode b_M_isRow 47 = .ok (.aload_n 0, 1) := by decide +kernel
theorem d_M_isRow_48 : decode b_M_isRow 48 = .ok (.getfield 26, 3) := by decide +kernel
theorem d_M_isRow_51 : decode b_M_isRow 51 = .ok (.iload_n 3, 1) := by decide +kernel
theorem d_M_isRow_52 : decode b_M_isRow 52 = .ok (.iaload, 1) := by decide +kernel
theorem d_M_isRow_53 : decode b_M_isRow 53 = .ok (.invokevirtual 96, 3) := by decide +kernel
theorem d_M_isRow_56 : decode b_M_isRow 56 = .ok (.iload 4, 2) := by decide +kernel
theorem d_M_isRow_58 : decode b_M_isRow 58 = .ok (.aload_n 0, 1) := by decide +kernel
theorem d_M_isRow_59 : decode b_M_isRow 59 = .ok (.aload_n 0, 1) := by decide +kernel
theorem d_M_isRow_60 : decode b_M_isRow 60 = .ok (.getfield 26, 3) := by decide +kernel
theorem d_M_isRow_63 : decode b_M_isRow 63 = .ok (.iload_n 3, 1) := by decide +kernel
theorem d_M_isRow_64 : decode b_M_isRow 64 = .ok (.iconst 2, 1) := by decide +kernel
theorem d_M_isRow_65 : decode b_M_isRow 65 = .ok (.iadd, 1) := by decide +kernel
theorem d_M_isRow_66 : decode b_M_isRow 66 = .ok (.iaload, 1) := by decide +kernel
theorem d_M_isRow_67 : decode b_M_isRow 67 = .ok (.invokevirtual 96, 3) := by decide +kernel
theorem d_M_isRow_70 : decode b_M_isRow 70 = .ok (.invokestatic 70, 3) := by decide +kernel
theorem d_M_isRow_73 : decode b_M_isRow 73 = .ok (.baload, 1) := by decide +kernel
theorem d_M_isRow_74 : decode b_M_isRow 74 = .ok (.ifCond .ne 5, 3) := by decide +kernel
theorem d_M_isRow_77 : decode b_M_isRow 77 = .ok (.iconst 0, 1) := by decide +kernel
theorem d_M_isRow_78 : decode b_M_isRow 78 = .ok (.ireturn, 1) := by decide +kernel
theorem d_M_isRow_79 : decode b_M_isRow 79 = .ok (.iinc 2 1, 3) := by decide +kernel
theorem d_M_isRow_82 : decode b_M_isRow 82 = .ok (.goto (-80), 3) := by decide +kernel
theorem d_M_isRow_85 : decode b_M_isRow 85 = .ok (.iconst 1, 1) := by decide +kernel
theorem d_M_isRow_86 : decode b_M_isRow 86 = .ok (.ireturn, 1) := by decide +kernel
theorem d_M_stands_0 : decode b_M_stands 0 = .ok (.iconst 0, 1) := by decide +kernel
theorem d_M_stands_1 : decode b_M_stands 1 = .ok (.istore_n 3, 1) := by decide +kernel
theorem d_M_stands_2 : decode b_M_stands 2 = .ok (.iconst 0, 1) := by decide +kernel
theorem d_M_stands_3 : decode b_M_stands 3 = .ok (.istore 4, 2) := by decide +kernel
theorem d_M_stands_5 : decode b_M_stands 5 = .ok (.iload 4, 2) := by decide +kernel
theorem d_M_stands_7 : decode b_M_stands 7 = .ok (.iconst 3, 1) := by decide +kernel
theorem d_M_stands_8 : decode b_M_stands 8 = .ok (.aload_n 0, 1) := by decide +kernel
theorem d_M_stands_9 : decode b_M_stands 9 = .ok (.getfield 23, 3) := by decide +kernel
theorem d_M_stands_12 : decode b_M_stands 12 = .ok (.iload_n 1, 1) := by decide +kernel
theorem d_M_stands_13 : decode b_M_stands 13 = .ok (.iaload, 1) := by decide +kernel
theorem d_M_stands_14 : decode b_M_stands 14 = .ok (.imul, 1) := by decide +kernel
theorem d_M_stands_15 : decode b_M_stands 15 = .ok (.if_icmp .ge 36, 3) := by decide +kernel
theorem d_M_stands_18 : decode b_M_stands 18 = .ok (.iload_n 3, 1) := by decide +kernel
theorem d_M_stands_19 : decode b_M_stands 19 = .ok (.ifCond .ne 20, 3) := by decide +kernel
theorem d_M_stands_22 : decode b_M_stands 22 = .ok (.aload_n 0, 1) := by decide +kernel
theorem d_M_stands_23 : decode b_M_stands 23 = .ok (.getfield 26, 3) := by decide +kernel
theorem d_M_stands_26 : decode b_M_stands 26 = .ok (.bipush 9, 2) := by decide +kernel
theorem d_M_stands_28 : decode b_M_stands 28 = .ok (.iload_n 1, 1) := by decide +kernel
theorem d_M_stands_29 : decode b_M_stands 29 = .ok (.imul, 1) := by decide +kernel
theorem d_M_stands_30 : decode b_M_stands 30 = .ok (.iload 4, 2) := by decide +kernel
theorem d_M_stands_32 : decode b_M_stands 32 = .ok (.iadd, 1) := by decide +kernel
theorem d_M_stands_33 : decode b_M_stands 33 = .ok (.iaload, 1) := by decide +kernel
theorem d_M_stands_34 : decode b_M_stands 34 = .ok (.iload_n 2, 1) := by decide +kernel
theorem d_M_stands_35 : decode b_M_stands 35 = .ok (.ineg, 1) := by decide +kernel
theorem d_M_stands_36 : decode b_M_stands 36 = .ok (.if_icmp .ne 7, 3) := by decide +kernel
theorem d_M_stands_39 : decode b_M_stands 39 = .ok (.iconst 1, 1) := by decide +kernel
theorem d_M_stands_40 : decode b_M_stands 40 = .ok (.goto 4, 3) := by decide +kernel
theorem d_M_stands_43 : decode b_M_stands 43 = .ok (.iconst 0, 1) := by decide +kernel
theorem d_M_stands_44 : decode b_M_stands 44 = .ok (.istore_n 3, 1) := by decide +kernel
theorem d_M_stands_45 : decode b_M_stands 45 = .ok (.iinc 4 1, 3) := by decide +kernel
theorem d_M_stands_48 : decode b_M_stands 48 = .ok (.goto (-43), 3) := by decide +kernel
theorem d_M_stands_51 : decode b_M_stands 51 = .ok (.iload_n 3, 1) := by decide +kernel
theorem d_M_stands_52 : decode b_M_stands 52 = .ok (.ireturn, 1) := by decide +kernel
theorem d_M_ask_0 : decode b_M_ask 0 = .ok (.aload_n 0, 1) := by decide +kernel
theorem d_M_ask_1 : decode b_M_ask 1 = .ok (.iload_n 2, 1) := by decide +kernel
theorem d_M_ask_2 : decode b_M_ask 2 = .ok (.aload_n 0, 1) := by decide +kernel
theorem d_M_ask_3 : decode b_M_ask 3 = .ok (.getfield 20, 3) := by decide +kernel
theorem d_M_ask_6 : decode b_M_ask 6 = .ok (.iload_n 1, 1) := by decide +kernel
theorem d_M_ask_7 : decode b_M_ask 7 = .ok (.iaload, 1) := by decide +kernel
theorem d_M_ask_8 : decode b_M_ask 8 = .ok (.invokevirtual 100, 3) := by decide +kernel
theorem d_M_ask_11 : decode b_M_ask 11 = .ok (.iconst 0, 1) := by decide +kernel
theorem d_M_ask_12 : decode b_M_ask 12 = .ok (.istore_n 3, 1) := by decide +kernel
theorem d_M_ask_13 : decode b_M_ask 13 = .ok (.iload_n 3, 1) := by decide +kernel
theorem d_M_ask_14 : decode b_M_ask 14 = .ok (.sipush 1024, 3) := by decide +kernel
theorem d_M_ask_17 : decode b_M_ask 17 = .ok (.if_icmp .ge 16, 3) := by decide +kernel
theorem d_M_ask_20 : decode b_M_ask 20 = .ok (.aload_n 0, 1) := by decide +kernel
theorem d_M_ask_21 : decode b_M_ask 21 = .ok (.getfield 37, 3) := by decide +kernel
theorem d_M_ask_24 : decode b_M_ask 24 = .ok (.iload_n 3, 1) := by decide +kernel
theorem d_M_ask_25 : decode b_M_ask 25 = .ok (.lconst 0, 1) := by decide +kernel
theorem d_M_ask_26 : decode b_M_ask 26 = .ok (.lastore, 1) := by decide +kernel
theorem d_M_ask_27 : decode b_M_ask 27 = .ok (.iinc 3 1, 3) := by decide +kernel
theorem d_M_ask_30 : decode b_M_ask 30 = .ok (.goto (-17), 3) := by decide +kernel
theorem d_M_ask_33 : decode b_M_ask 33 = .ok (.aload_n 0, 1) := by decide +kernel
theorem d_M_ask_34 : decode b_M_ask 34 = .ok (.iload_n 1, 1) := by decide +kernel
theorem d_M_ask_35 : decode b_M_ask 35 = .ok (.iconst 1, 1) := by decide +kernel
theorem d_M_ask_36 : decode b_M_ask 36 = .ok (.invokevirtual 103, 3) := by decide +kernel
theorem d_M_ask_39 : decode b_M_ask 39 = .ok (.ifCond .eq 8, 3) := by decide +kernel
theorem d_M_ask_42 : decode b_M_ask 42 = .ok (.bipush 15, 2) := by decide +kernel
theorem d_M_ask_44 : decode b_M_ask 44 = .ok (.goto 4, 3) := by decide +kernel
theorem d_M_ask_47 : decode b_M_ask 47 = .ok (.iconst 0, 1) := by decide +kernel
theorem d_M_ask_48 : decode b_M_ask 48 = .ok (.istore_n 3, 1) := by decide +kernel
theorem d_M_ask_49 : decode b_M_ask 49 = .ok (.aload_n 0, 1) := by decide +kernel
theorem d_M_ask_50 : decode b_M_ask 50 = .ok (.iload_n 1, 1) := by decide +kernel
theorem d_M_ask_51 : decode b_M_ask 51 = .ok (.iconst 2, 1) := by decide +kernel
theorem d_M_ask_52 : decode b_M_ask 52 = .ok (.invokevirtual 103, 3) := by decide +kernel
theorem d_M_ask_55 : decode b_M_ask 55 = .ok (.ifCond .eq 8, 3) := by decide +kernel
theorem d_M_ask_58 : decode b_M_ask 58 = .ok (.bipush 15, 2) := by decide +kernel
theorem d_M_ask_60 : decode b_M_ask 60 = .ok (.goto 4, 3) := by decide +kernel
theorem d_M_ask_63 : decode b_M_ask 63 = .ok (.iconst 0, 1) := by decide +kernel
theorem d_M_ask_64 : decode b_M_ask 64 = .ok (.istore 4, 2) := by decide +kernel
theorem d_M_ask_66 : decode b_M_ask 66 = .ok (.aload_n 0, 1) := by decide +kernel
theorem d_M_ask_67 : decode b_M_ask 67 = .ok (.iload_n 1, 1) := by decide +kernel
theorem d_M_ask_68 : decode b_M_ask 68 = .ok (.iconst 3, 1) := by decide +kernel
theorem d_M_ask_69 : decode b_M_ask 69 = .ok (.invokevirtual 103, 3) := by decide +kernel
theorem d_M_ask_72 : decode b_M_ask 72 = .ok (.ifCond .eq 8, 3) := by decide +kernel
theorem d_M_ask_75 : decode b_M_ask 75 = .ok (.bipush 15, 2) := by decide +kernel
theorem d_M_ask_77 : decode b_M_ask 77 = .ok (.goto 4, 3) := by decide +kernel
theorem d_M_ask_80 : decode b_M_ask 80 = .ok (.iconst 0, 1) := by decide +kernel
theorem d_M_ask_81 : decode b_M_ask 81 = .ok (.istore 5, 2) := by decide +kernel
theorem d_M_ask_83 : decode b_M_ask 83 = .ok (.aload_n 0, 1) := by decide +kernel
theorem d_M_ask_84 : decode b_M_ask 84 = .ok (.iload_n 1, 1) := by decide +kernel
theorem d_M_ask_85 : decode b_M_ask 85 = .ok (.iconst 4, 1) := by decide +kernel
theorem d_M_ask_86 : decode b_M_ask 86 = .ok (.invokevirtual 103, 3) := by decide +kernel
theorem d_M_ask_89 : decode b_M_ask 89 = .ok (.ifCond .eq 8, 3) := by decide +kernel
theorem d_M_ask_92 : decode b_M_ask 92 = .ok (.bipush 15, 2) := by decide +kernel
theorem d_M_ask_94 : decode b_M_ask 94 = .ok (.goto 4, 3) := by decide +kernel
theorem d_M_ask_97 : decode b_M_ask 97 = .ok (.iconst 0, 1) := by decide +kernel
theorem d_M_ask_98 : decode b_M_ask 98 = .ok (.istore 6, 2) := by decide +kernel
theorem d_M_ask_100 : decode b_M_ask 100 = .ok (.iconst 0, 1) := by decide +kernel
theorem d_M_ask_101 : decode b_M_ask 101 = .ok (.istore 7, 2) := by decide +kernel
theorem d_M_ask_103 : decode b_M_ask 103 = .ok (.iload 7, 2) := by decide +kernel
theorem d_M_ask_105 : decode b_M_ask 105 = .ok (.iload_n 3, 1) := by decide +kernel
theorem d_M_ask_106 : decode b_M_ask 106 = .ok (.if_icmp .gt 54, 3) := by decide +kernel
theorem d_M_ask_109 : decode b_M_ask 109 = .ok (.iconst 0, 1) := by decide +kernel
theorem d_M_ask_110 : decode b_M_ask 110 = .ok (.istore 8, 2) := by decide +kernel
theorem d_M_ask_112 : decode b_M_ask 112 = .ok (.iload 8, 2) := by decide +kernel
theorem d_M_ask_114 : decode b_M_ask 114 = .ok (.iload 4, 2) := by decide +kernel
theorem d_M_ask_116 : decode b_M_ask 116 = .ok (.if_icmp .gt 38, 3) := by decide +kernel
theorem d_M_ask_119 : decode b_M_ask 119 = .ok (.iconst 0, 1) := by decide +kernel
theorem d_M_ask_120 : decode b_M_ask 120 = .ok (.istore 9, 2) := by decide +kernel
theorem d_M_ask_122 : decode b_M_ask 122 = .ok (.iload 9, 2) := by decide +kernel
theorem d_M_ask_124 : decode b_M_ask 124 = .ok (.iload 5, 2) := by decide +kernel
theorem d_M_ask_126 : decode b_M_ask 126 = .ok (.if_icmp .gt 22, 3) := by decide +kernel
theorem d_M_ask_129 : decode b_M_ask 129 = .ok (.aload_n 0, 1) := by decide +kernel
theorem d_M_ask_130 : decode b_M_ask 130 = .ok (.iload_n 1, 1) := by decide +kernel
theorem d_M_ask_131 : decode b_M_ask 131 = .ok (.iload 7, 2) := by decide +kernel
theorem d_M_ask_133 : decode b_M_ask 133 = .ok (.iload 8, 2) := by decide +kernel
theorem d_M_ask_135 : decode b_M_ask 135 = .ok (.iload 9, 2) := by decide +kernel
theorem d_M_ask_137 : decode b_M_ask 137 = .ok (.iload 6, 2) := by decide +kernel
theorem d_M_ask_139 : decode b_M_ask 139 = .ok (.invokevirtual 106, 3) := by decide +kernel
theorem d_M_ask_142 : decode b_M_ask 142 = .ok (.iinc 9 1, 3) := by decide +kernel
theorem d_M_ask_145 : decode b_M_ask 145 = .ok (.goto (-23), 3) := by decide +kernel
theorem d_M_ask_148 : decode b_M_ask 148 = .ok (.iinc 8 1, 3) := by decide +kernel
theorem d_M_ask_151 : decode b_M_ask 151 = .ok (.goto (-39), 3) := by decide +kernel
theorem d_M_ask_154 : decode b_M_ask 154 = .ok (.iinc 7 1, 3) := by decide +kernel
theorem d_M_ask_157 : decode b_M_ask 157 = .ok (.goto (-54), 3) := by decide +kernel
theorem d_M_ask_160 : decode b_M_ask 160 = .ok (.return_, 1) := by decide +kernel
theorem d_M_askLast_0 : decode b_M_askLast 0 = .ok (.aload_n 0, 1) := by decide +kernel
theorem d_M_askLast_1 : decode b_M_askLast 1 = .ok (.getfield 43, 3) := by decide +kernel
theorem d_M_askLast_4 : decode b_M_askLast 4 = .ok (.iconst 1, 1) := by decide +kernel
theorem d_M_askLast_5 : decode b_M_askLast 5 = .ok (.iload_n 2, 1) := by decide +kernel
theorem d_M_askLast_6 : decode b_M_askLast 6 = .ok (.iastore, 1) := by decide +kernel
theorem d_M_askLast_7 : decode b_M_askLast 7 = .ok (.aload_n 0, 1) := by decide +kernel
theorem d_M_askLast_8 : decode b_M_askLast 8 = .ok (.getfield 43, 3) := by decide +kernel
theorem d_M_askLast_11 : decode b_M_askLast 11 = .ok (.iconst 2, 1) := by decide +kernel
theorem d_M_askLast_12 : decode b_M_askLast 12 = .ok (.iload_n 3, 1) := by decide +kernel
theorem d_M_askLast_13 : decode b_M_askLast 13 = .ok (.iastore, 1) := by decide +kernel
theorem d_M_askLast_14 : decode b_M_askLast 14 = .ok (.aload_n 0, 1) := by decide +kernel
theorem d_M_askLast_15 : decode b_M_askLast 15 = .ok (.getfield 43, 3) := by decide +kernel
theorem d_M_askLast_18 : decode b_M_askLast 18 = .ok (.iconst 3, 1) := by decide +kernel
theorem d_M_askLast_19 : decode b_M_askLast 19 = .ok (.iload 4, 2) := by decide +kernel
theorem d_M_askLast_21 : decode b_M_askLast 21 = .ok (.iastore, 1) := by decide +kernel
theorem d_M_askLast_22 : decode b_M_askLast 22 = .ok (.iconst 0, 1) := by decide +kernel
theorem d_M_askLast_23 : decode b_M_askLast 23 = .ok (.istore 6, 2) := by decide +kernel
theorem d_M_askLast_25 : decode b_M_askLast 25 = .ok (.iload 6, 2) := by decide +kernel
theorem d_M_askLast_27 : decode b_M_askLast 27 = .ok (.iload 5, 2) := by decide +kernel
theorem d_M_askLast_29 : decode b_M_askLast 29 = .ok (.if_icmp .gt 67, 3) := by decide +kernel
theorem d_M_askLast_32 : decode b_M_askLast 32 = .ok (.aload_n 0, 1) := by decide +kernel
theorem d_M_askLast_33 : decode b_M_askLast 33 = .ok (.getfield 43, 3) := by decide +kernel
theorem d_M_askLast_36 : decode b_M_askLast 36 = .ok (.iconst 4, 1) := by decide +kernel
theorem d_M_askLast_37 : decode b_M_askLast 37 = .ok (.iload 6, 2) := by decide +kernel
theorem d_M_askLast_39 : decode b_M_askLast 39 = .ok (.iastore, 1) := by decide +kernel
theorem d_M_askLast_40 : decode b_M_askLast 40 = .ok (.sipush 4096, 3) := by decide +kernel
theorem d_M_askLast_43 : decode b_M_askLast 43 = .ok (.iload_n 2, 1) := by decide +kernel
theorem d_M_askLast_44 : decode b_M_askLast 44 = .ok (.imul, 1) := by decide +kernel
theorem d_M_askLast_45 : decode b_M_askLast 45 = .ok (.sipush 256, 3) := by decide +kernel
theorem d_M_askLast_48 : decode b_M_askLast 48 = .ok (.iload_n 3, 1) := by decide +kernel
theorem d_M_askLast_49 : decode b_M_askLast 49 = .ok (.imul, 1) := by decide +kernel
theorem d_M_askLast_50 : decode b_M_askLast 50 = .ok (.iadd, 1) := by decide +kernel
theorem d_M_askLast_51 : decode b_M_askLast 51 = .ok (.bipush 16, 2) := by decide +kernel
theorem d_M_askLast_53 : decode b_M_askLast 53 = .ok (.iload 4, 2) := by decide +kernel
theorem d_M_askLast_55 : decode b_M_askLast 55 = .ok (.imul, 1) := by decide +kernel
theorem d_M_askLast_56 : decode b_M_askLast 56 = .ok (.iadd, 1) := by decide +kernel
theorem d_M_askLast_57 : decode b_M_askLast 57 = .ok (.iload 6, 2) := by decide +kernel
theorem d_M_askLast_59 : decode b_M_askLast 59 = .ok (.iadd, 1) := by decide +kernel
theorem d_M_askLast_60 : decode b_M_askLast 60 = .ok (.istore 7, 2) := by decide +kernel
theorem d_M_askLast_62 : decode b_M_askLast 62 = .ok (.aload_n 0, 1) := by decide +kernel
theorem d_M_askLast_63 : decode b_M_askLast 63 = .ok (.iload_n 1, 1) := by decide +kernel
theorem d_M_askLast_64 : decode b_M_askLast 64 = .ok (.invokevirtual 110, 3) := by decide +kernel
theorem d_M_askLast_67 : decode b_M_askLast 67 = .ok (.ifCond .eq 23, 3) := by decide +kernel
theorem d_M_askLast_70 : decode b_M_askLast 70 = .ok (.aload_n 0, 1) := by decide +kernel
theorem d_M_askLast_71 : decode b_M_askLast 71 = .ok (.getfield 37, 3) := by decide +kernel
theorem d_M_askLast_74 : decode b_M_askLast 74 = .ok (.iload 7, 2) := by decide +kernel
theorem d_M_askLast_76 : decode b_M_askLast 76 = .ok (.bipush 64, 2) := by decide +kernel
theorem d_M_askLast_78 : decode b_M_askLast 78 = .ok (.idiv, 1) := by decide +kernel
theorem d_M_askLast_79 : decode b_M_askLast 79 = .ok (.dup2, 1) := by decide +kernel
theorem d_M_askLast_80 : decode b_M_askLast 80 = .ok (.laload, 1) := by decide +kernel
theorem d_M_askLast_81 : decode b_M_askLast 81 = .ok (.lconst 1, 1) := by decide +kernel
theorem d_M_askLast_82 : decode b_M_askLast 82 = .ok (.iload 7, 2) := by decide +kernel
theorem d_M_askLast_84 : decode b_M_askLast 84 = .ok (.bipush 64, 2) := by decide +kernel
theorem d_M_askLast_86 : decode b_M_askLast 86 = .ok (.irem, 1) := by decide +kernel
theorem d_M_askLast_87 : decode b_M_askLast 87 = .ok (.lshl, 1) := by decide +kernel
theorem d_M_askLast_88 : decode b_M_askLast 88 = .ok (.lor, 1) := by decide +kernel
theorem d_M_askLast_89 : decode b_M_askLast 89 = .ok (.lastore, 1) := by decide +kernel
theorem d_M_askLast_90 : decode b_M_askLast 90 = .ok (.iinc 6 1, 3) := by decide +kernel
theorem d_M_askLast_93 : decode b_M_askLast 93 = .ok (.goto (-68), 3) := by decide +kernel
theorem d_M_askLast_96 : decode b_M_askLast 96 = .ok (.return_, 1) := by decide +kernel
theorem d_M_at_0 : decode b_M_at 0 = .ok (.bipush 62, 2) := by decide +kernel
theorem d_M_at_2 : decode b_M_at 2 = .ok (.iload_n 1, 1) := by decide +kernel
theorem d_M_at_3 : decode b_M_at 3 = .ok (.imul, 1) := by decide +kernel
theorem d_M_at_4 : decode b_M_at 4 = .ok (.iload_n 2, 1) := by decide +kernel
theorem d_M_at_5 : decode b_M_at 5 = .ok (.iadd, 1) := by decide +kernel
theorem d_M_at_6 : decode b_M_at 6 = .ok (.ireturn, 1) := by decide +kernel
theorem d_M_rowsOf_0 : decode b_M_rowsOf 0 = .ok (.aload_n 0, 1) := by decide +kernel
theorem d_M_rowsOf_1 : decode b_M_rowsOf 1 = .ok (.iload_n 1, 1) := by decide +kernel
theorem d_M_rowsOf_2 : decode b_M_rowsOf 2 = .ok (.iload_n 2, 1) := by decide +kernel
theorem d_M_rowsOf_3 : decode b_M_rowsOf 3 = .ok (.invokevirtual 113, 3) := by decide +kernel
theorem d_M_rowsOf_6 : decode b_M_rowsOf 6 = .ok (.istore_n 3, 1) := by decide +kernel
theorem d_M_rowsOf_7 : decode b_M_rowsOf 7 = .ok (.aload_n 0, 1) := by decide +kernel
theorem d_M_rowsOf_8 : decode b_M_rowsOf 8 = .ok (.getfield 34, 3) := by decide +kernel
theorem d_M_rowsOf_11 : decode b_M_rowsOf 11 = .ok (.iload_n 3, 1) := by decide +kernel
theorem d_M_rowsOf_12 : decode b_M_rowsOf 12 = .ok (.baload, 1) := by decide +kernel
theorem d_M_rowsOf_13 : decode b_M_rowsOf 13 = .ok (.ifCond .ne 53, 3) := by decide +kernel
theorem d_M_rowsOf_16 : decode b_M_rowsOf 16 = .ok (.aload_n 0, 1) := by decide +kernel
theorem d_M_rowsOf_17 : decode b_M_rowsOf 17 = .ok (.iload_n 1, 1) := by decide +kernel
theorem d_M_rowsOf_18 : decode b_M_rowsOf 18 = .ok (.iload_n 2, 1) := by decide +kernel
theorem d_M_rowsOf_19 : decode b_M_rowsOf 19 = .ok (.invokevirtual 116, 3) := by decide +kernel
theorem d_M_rowsOf_22 : decode b_M_rowsOf 22 = .ok (.iconst 0, 1) := by decide +kernel
theorem d_M_rowsOf_23 : decode b_M_rowsOf 23 = .ok (.istore 4, 2) := by decide +kernel
theorem d_M_rowsOf_25 : decode b_M_rowsOf 25 = .ok (.iload 4, 2) := by decide +kernel
theorem d_M_rowsOf_27 : decode b_M_rowsOf 27 = .ok (.sipush 1024, 3) := by decide +kernel
theorem d_M_rowsOf_30 : decode b_M_rowsOf 30 = .ok (.if_icmp .ge 29, 3) := by decide +kernel
theorem d_M_rowsOf_33 : decode b_M_rowsOf 33 = .ok (.aload_n 0, 1) := by decide +kernel
theorem d_M_rowsOf_34 : decode b_M_rowsOf 34 = .ok (.getfield 30, 3) := by decide +kernel
theorem d_M_rowsOf_37 : decode b_M_rowsOf 37 = .ok (.sipush 1024, 3) := by decide +kernel
theorem d_M_rowsOf_40 : decode b_M_rowsOf 40 = .ok (.iload_n 3, 1) := by decide +kernel
theorem d_M_rowsOf_41 : decode b_M_rowsOf 41 = .ok (.imul, 1) := by decide +kernel
theorem d_M_rowsOf_42 : decode b_M_rowsOf 42 = .ok (.iload 4, 2) := by decide +kernel
theorem d_M_rowsOf_44 : decode b_M_rowsOf 44 = .ok (.iadd, 1) := by decide +kernel
theorem d_M_rowsOf_45 : decode b_M_rowsOf 45 = .ok (.aload_n 0, 1) := by decide +kernel
theorem d_M_rowsOf_46 : decode b_M_rowsOf 46 = .ok (.getfield 37, 3) := by decide +kernel
theorem d_M_rowsOf_49 : decode b_M_rowsOf 49 = .ok (.iload 4, 2) := by decide +kernel
theorem d_M_rowsOf_51 : decode b_M_rowsOf 51 = .ok (.laload, 1) := by decide +kernel
theorem d_M_rowsOf_52 : decode b_M_rowsOf 52 = .ok (.lastore, 1) := by decide +kernel
theorem d_M_rowsOf_53 : decode b_M_rowsOf 53 = .ok (.iinc 4 1, 3) := by decide +kernel
theorem d_M_rowsOf_56 : decode b_M_rowsOf 56 = .ok (.goto (-31), 3) := by decide +kernel
theorem d_M_rowsOf_59 : decode b_M_rowsOf 59 = .ok (.aload_n 0, 1) := by decide +kernel
theorem d_M_rowsOf_60 : decode b_M_rowsOf 60 = .ok (.getfield 34, 3) := by decide +kernel
theorem d_M_rowsOf_63 : decode b_M_rowsOf 63 = .ok (.iload_n 3, 1) := by decide +kernel
theorem d_M_rowsOf_64 : decode b_M_rowsOf 64 = .ok (.iconst 1, 1) := by decide +kernel
theorem d_M_rowsOf_65 : decode b_M_rowsOf 65 = .ok (.bastore, 1) := by decide +kernel
theorem d_M_rowsOf_66 : decode b_M_rowsOf 66 = .ok (.sipush 1024, 3) := by decide +kernel
theorem d_M_rowsOf_69 : decode b_M_rowsOf 69 = .ok (.iload_n 3, 1) := by decide +kernel
theorem d_M_rowsOf_70 : decode b_M_rowsOf 70 = .ok (.imul, 1) := by decide +kernel
theorem d_M_rowsOf_71 : decode b_M_rowsOf 71 = .ok (.ireturn, 1) := by decide +kernel
theorem d_M_bits_0 : decode b_M_bits 0 = .ok (.aload_n 0, 1) := by decide +kernel
theorem d_M_bits_1 : decode b_M_bits 1 = .ok (.getfield 30, 3) := by decide +kernel
theorem d_M_bits_4 : decode b_M_bits 4 = .ok (.aload_n 0, 1) := by decide +kernel
theorem d_M_bits_5 : decode b_M_bits 5 = .ok (.iload_n 1, 1) := by decide +kernel
theorem d_M_bits_6 : decode b_M_bits 6 = .ok (.iload_n 2, 1) := by decide +kernel
theorem d_M_bits_7 : decode b_M_bits 7 = .ok (.invokevirtual 119, 3) := by decide +kernel
theorem d_M_bits_10 : decode b_M_bits 10 = .ok (.iload 4, 2) := by decide +kernel
theorem d_M_bits_12 : decode b_M_bits 12 = .ok (.iadd, 1) := by decide +kernel
theorem d_M_bits_13 : decode b_M_bits 13 = .ok (.laload, 1) := by decide +kernel
theorem d_M_bits_14 : decode b_M_bits 14 = .ok (.lstore 5, 2) := by decide +kernel
theorem d_M_bits_16 : decode b_M_bits 16 = .ok (.iload_n 3, 1) := by decide +kernel
theorem d_M_bits_17 : decode b_M_bits 17 = .ok (.ifCond .ne 6, 3) := by decide +kernel
theorem d_M_bits_20 : decode b_M_bits 20 = .ok (.lload 5, 2) := by decide +kernel
theorem d_M_bits_22 : decode b_M_bits 22 = .ok (.lreturn, 1) := by decide +kernel
theorem d_M_bits_23 : decode b_M_bits 23 = .ok (.iload_n 2, 1) := by decide +kernel
theorem d_M_bits_24 : decode b_M_bits 24 = .ok (.ifCond .le 22, 3) := by decide +kernel
theorem d_M_bits_27 : decode b_M_bits 27 = .ok (.aload_n 0, 1) := by decide +kernel
theorem d_M_bits_28 : decode b_M_bits 28 = .ok (.getfield 30, 3) := by decide +kernel
theorem d_M_bits_31 : decode b_M_bits 31 = .ok (.aload_n 0, 1) := by decide +kernel
theorem d_M_bits_32 : decode b_M_bits 32 = .ok (.iload_n 1, 1) := by decide +kernel
theorem d_M_bits_33 : decode b_M_bits 33 = .ok (.iload_n 2, 1) := by decide +kernel
theorem d_M_bits_34 : decode b_M_bits 34 = .ok (.iconst 1, 1) := by decide +kernel
theorem d_M_bits_35 : decode b_M_bits 35 = .ok (.isub, 1) := by decide +kernel
theorem d_M_bits_36 : decode b_M_bits 36 = .ok (.invokevirtual 119, 3) := by decide +kernel
theorem d_M_bits_39 : decode b_M_bits 39 = .ok (.iload 4, 2) := by decide +kernel
theorem d_M_bits_41 : decode b_M_bits 41 = .ok (.iadd, 1) := by decide +kernel
theorem d_M_bits_42 : decode b_M_bits 42 = .ok (.laload, 1) := by decide +kernel
theorem d_M_bits_43 : decode b_M_bits 43 = .ok (.goto 4, 3) := by decide +kernel
theorem d_M_bits_46 : decode b_M_bits 46 = .ok (.lconst 0, 1) := by decide +kernel
theorem d_M_bits_47 : decode b_M_bits 47 = .ok (.lstore 7, 2) := by decide +kernel
theorem d_M_bits_49 : decode b_M_bits 49 = .ok (.iload_n 3, 1) := by decide +kernel
theorem d_M_bits_50 : decode b_M_bits 50 = .ok (.iconst 1, 1) := by decide +kernel
theorem d_M_bits_51 : decode b_M_bits 51 = .ok (.if_icmp .ne 15, 3) := by decide +kernel
theorem d_M_bits_54 : decode b_M_bits 54 = .ok (.lload 5, 2) := by decide +kernel
theorem d_M_bits_56 : decode b_M_bits 56 = .ok (.lload 7, 2) := by decide +kernel
theorem d_M_bits_58 : decode b_M_bits 58 = .ok (.ldc2_w 122, 3) := by decide +kernel
theorem d_M_bits_61 : decode b_M_bits 61 = .ok (.lxor, 1) := by decide +kernel
theorem d_M_bits_62 : decode b_M_bits 62 = .ok (.land, 1) := by decide +kernel
theorem d_M_bits_63 : decode b_M_bits 63 = .ok (.goto 12, 3) := by decide +kernel
theorem d_M_bits_66 : decode b_M_bits 66 = .ok (.lload 7, 2) := by decide +kernel
theorem d_M_bits_68 : decode b_M_bits 68 = .ok (.lload 5, 2) := by decide +kernel
theorem d_M_bits_70 : decode b_M_bits 70 = .ok (.ldc2_w 122, 3) := by decide +kernel
theorem d_M_bits_73 : decode b_M_bits 73 = .ok (.lxor, 1) := by decide +kernel
theorem d_M_bits_74 : decode b_M_bits 74 = .ok (.land, 1) := by decide +kernel
theorem d_M_bits_75 : decode b_M_bits 75 = .ok (.lreturn, 1) := by decide +kernel
theorem d_M_count_0 : decode b_M_count 0 = .ok (.iconst 0, 1) := by decide +kernel
theorem d_M_count_1 : decode b_M_count 1 = .ok (.istore 4, 2) := by decide +kernel
theorem d_M_count_3 : decode b_M_count 3 = .ok (.iconst 0, 1) := by decide +kernel
theorem d_M_count_4 : decode b_M_count 4 = .ok (.istore 5, 2) := by decide +kernel
theorem d_M_count_6 : decode b_M_count 6 = .ok (.iload 5, 2) := by decide +kernel
theorem d_M_count_8 : decode b_M_count 8 = .ok (.sipush 1024, 3) := by decide +kernel
theorem d_M_count_11 : decode b_M_count 11 = .ok (.if_icmp .ge 42, 3) := by decide +kernel
theorem d_M_count_14 : decode b_M_count 14 = .ok (.aload_n 0, 1) := by decide +kernel
theorem d_M_count_15 : decode b_M_count 15 = .ok (.iload_n 1, 1) := by decide +kernel
theorem d_M_count_16 : decode b_M_count 16 = .ok (.iload_n 2, 1) := by decide +kernel
theorem d_M_count_17 : decode b_M_count 17 = .ok (.iload_n 3, 1) := by decide +kernel
theorem d_M_count_18 : decode b_M_count 18 = .ok (.iload 5, 2) := by decide +kernel
theorem d_M_count_20 : decode b_M_count 20 = .ok (.invokevirtual 124, 3) := by decide +kernel
theorem d_M_count_23 : decode b_M_count 23 = .ok (.lstore 6, 2) := by decide +kernel
theorem d_M_count_25 : decode b_M_count 25 = .ok (.lload 6, 2) := by decide +kernel
theorem d_M_count_27 : decode b_M_count 27 = .ok (.lconst 0, 1) := by decide +kernel
theorem d_M_count_28 : decode b_M_count 28 = .ok (.lcmp, 1) := by decide +kernel
theorem d_M_count_29 : decode b_M_count 29 = .ok (.ifCond .eq 18, 3) := by decide +kernel
theorem d_M_count_32 : decode b_M_count 32 = .ok (.iinc 4 1, 3) := by decide +kernel
theorem d_M_count_35 : decode b_M_count 35 = .ok (.lload 6, 2) := by decide +kernel
theorem d_M_count_37 : decode b_M_count 37 = .ok (.lload 6, 2) := by decide +kernel
theorem d_M_count_39 : decode b_M_count 39 = .ok (.lconst 1, 1) := by decide +kernel
theorem d_M_count_40 : decode b_M_count 40 = .ok (.lsub, 1) := by decide +kernel
theorem d_M_count_41 : decode b_M_count 41 = .ok (.land, 1) := by decide +kernel
theorem d_M_count_42 : decode b_M_count 42 = .ok (.lstore 6, 2) := by decide +kernel
theorem d_M_count_44 : decode b_M_count 44 = .ok (.goto (-19), 3) := by decide +kernel
theorem d_M_count_47 : decode b_M_count 47 = .ok (.iinc 5 1, 3) := by decide +kernel
theorem d_M_count_50 : decode b_M_count 50 = .ok (.goto (-44), 3) := by decide +kernel
theorem d_M_count_53 : decode b_M_count 53 = .ok (.iload 4, 2) := by decide +kernel
theorem d_M_count_55 : decode b_M_count 55 = .ok (.ireturn, 1) := by decide +kernel
theorem d_M_rows_0 : decode b_M_rows 0 = .ok (.aload_n 0, 1) := by decide +kernel
theorem d_M_rows_1 : decode b_M_rows 1 = .ok (.iload_n 1, 1) := by decide +kernel
theorem d_M_rows_2 : decode b_M_rows 2 = .ok (.invokevirtual 90, 3) := by decide +kernel
theorem d_M_rows_5 : decode b_M_rows 5 = .ok (.ifCond .eq 21, 3) := by decide +kernel
theorem d_M_rows_8 : decode b_M_rows 8 = .ok (.aload_n 0, 1) := by decide +kernel
theorem d_M_rows_9 : decode b_M_rows 9 = .ok (.iload_n 2, 1) := by decide +kernel
theorem d_M_rows_10 : decode b_M_rows 10 = .ok (.invokevirtual 86, 3) := by decide +kernel
theorem d_M_rows_13 : decode b_M_rows 13 = .ok (.ifCond .eq 13, 3) := by decide +kernel
theorem d_M_rows_16 : decode b_M_rows 16 = .ok (.aload_n 0, 1) := by decide +kernel
theorem d_M_rows_17 : decode b_M_rows 17 = .ok (.iload_n 1, 1) := by decide +kernel
theorem d_M_rows_18 : decode b_M_rows 18 = .ok (.iload_n 2, 1) := by decide +kernel
theorem d_M_rows_19 : decode b_M_rows 19 = .ok (.iconst 0, 1) := by decide +kernel
theorem d_M_rows_20 : decode b_M_rows 20 = .ok (.invokevirtual 128, 3) := by decide +kernel
theorem d_M_rows_23 : decode b_M_rows 23 = .ok (.goto 4, 3) := by decide +kernel
theorem d_M_rows_26 : decode b_M_rows 26 = .ok (.iconst (-1), 1) := by decide +kernel
theorem d_M_rows_27 : decode b_M_rows 27 = .ok (.ireturn, 1) := by decide +kernel
theorem d_M_changed_0 : decode b_M_changed 0 = .ok (.aload_n 0, 1) := by decide +kernel
theorem d_M_changed_1 : decode b_M_changed 1 = .ok (.iload_n 1, 1) := by decide +kernel
theorem d_M_changed_2 : decode b_M_changed 2 = .ok (.invokevirtual 90, 3) := by decide +kernel
theorem d_M_changed_5 : decode b_M_changed 5 = .ok (.ifCond .eq 29, 3) := by decide +kernel
theorem d_M_changed_8 : decode b_M_changed 8 = .ok (.aload_n 0, 1) := by decide +kernel
theorem d_M_changed_9 : decode b_M_changed 9 = .ok (.iload_n 2, 1) := by decide +kernel
theorem d_M_changed_10 : decode b_M_changed 10 = .ok (.invokevirtual 86, 3) := by decide +kernel
theorem d_M_changed_13 : decode b_M_changed 13 = .ok (.ifCond .eq 21, 3) := by decide +kernel
theorem d_M_changed_16 : decode b_M_changed 16 = .ok (.aload_n 0, 1) := by decide +kernel
theorem d_M_changed_17 : decode b_M_changed 17 = .ok (.iload_n 1, 1) := by decide +kernel
theorem d_M_changed_18 : decode b_M_changed 18 = .ok (.iload_n 2, 1) := by decide +kernel
theorem d_M_changed_19 : decode b_M_changed 19 = .ok (.iload_n 3, 1) := by decide +kernel
theorem d_M_changed_20 : decode b_M_changed 20 = .ok (.ifCond .eq 7, 3) := by decide +kernel
theorem d_M_changed_23 : decode b_M_changed 23 = .ok (.iconst 1, 1) := by decide +kernel
theorem d_M_changed_24 : decode b_M_changed 24 = .ok (.goto 4, 3) := by decide +kernel
theorem d_M_changed_27 : decode b_M_changed 27 = .ok (.iconst 2, 1) := by decide +kernel
theorem d_M_changed_28 : decode b_M_changed 28 = .ok (.invokevirtual 128, 3) := by decide +kernel
theorem d_M_changed_31 : decode b_M_changed 31 = .ok (.goto 4, 3) := by decide +kernel
theorem d_M_changed_34 : decode b_M_changed 34 = .ok (.iconst (-1), 1) := by decide +kernel
theorem d_M_changed_35 : decode b_M_changed 35 = .ok (.ireturn, 1) := by decide +kernel
theorem d_M_row_0 : decode b_M_row 0 = .ok (.aload_n 0, 1) := by decide +kernel
theorem d_M_row_1 : decode b_M_row 1 = .ok (.iload_n 1, 1) := by decide +kernel
theorem d_M_row_2 : decode b_M_row 2 = .ok (.invokevirtual 90, 3) := by decide +kernel
theorem d_M_row_5 : decode b_M_row 5 = .ok (.ifCond .eq 20, 3) := by decide +kernel
theorem d_M_row_8 : decode b_M_row 8 = .ok (.aload_n 0, 1) := by decide +kernel
theorem d_M_row_9 : decode b_M_row 9 = .ok (.iload_n 2, 1) := by decide +kernel
theorem d_M_row_10 : decode b_M_row 10 = .ok (.invokevirtual 86, 3) := by decide +kernel
theorem d_M_row_13 : decode b_M_row 13 = .ok (.ifCond .eq 12, 3) := by decide +kernel
theorem d_M_row_16 : decode b_M_row 16 = .ok (.iload_n 3, 1) := by decide +kernel
theorem d_M_row_17 : decode b_M_row 17 = .ok (.ifCond .lt 8, 3) := by decide +kernel
theorem d_M_row_20 : decode b_M_row 20 = .ok (.iload_n 3, 1) := by decide +kernel
theorem d_M_row_21 : decode b_M_row 21 = .ok (.iconst 2, 1) := by decide +kernel
theorem d_M_row_22 : decode b_M_row 22 = .ok (.if_icmp .le 5, 3) := by decide +kernel
theorem d_M_row_25 : decode b_M_row 25 = .ok (.iconst (-1), 1) := by decide +kernel
theorem d_M_row_26 : decode b_M_row 26 = .ok (.ireturn, 1) := by decide +kernel
theorem d_M_row_27 : decode b_M_row 27 = .ok (.iload 4, 2) := by decide +kernel
theorem d_M_row_29 : decode b_M_row 29 = .ok (.istore 5, 2) := by decide +kernel
theorem d_M_row_31 : decode b_M_row 31 = .ok (.iconst 0, 1) := by decide +kernel
theorem d_M_row_32 : decode b_M_row 32 = .ok (.istore 6, 2) := by decide +kernel
theorem d_M_row_34 : decode b_M_row 34 = .ok (.iload 6, 2) := by decide +kernel
theorem d_M_row_36 : decode b_M_row 36 = .ok (.sipush 1024, 3) := by decide +kernel
theorem d_M_row_39 : decode b_M_row 39 = .ok (.if_icmp .ge 80, 3) := by decide +kernel
theorem d_M_row_42 : decode b_M_row 42 = .ok (.iload 4, 2) := by decide +kernel
theorem d_M_row_44 : decode b_M_row 44 = .ok (.ifCond .lt 75, 3) := by decide +kernel
theorem d_M_row_47 : decode b_M_row 47 = .ok (.aload_n 0, 1) := by decide +kernel
theorem d_M_row_48 : decode b_M_row 48 = .ok (.iload_n 1, 1) := by decide +kernel
theorem d_M_row_49 : decode b_M_row 49 = .ok (.iload_n 2, 1) := by decide +kernel
theorem d_M_row_50 : decode b_M_row 50 = .ok (.iload_n 3, 1) := by decide +kernel
theorem d_M_row_51 : decode b_M_row 51 = .ok (.iload 6, 2) := by decide +kernel
theorem d_M_row_53 : decode b_M_row 53 = .ok (.invokevirtual 124, 3) := by decide +kernel
theorem d_M_row_56 : decode b_M_row 56 = .ok (.lstore 7, 2) := by decide +kernel
theorem d_M_row_58 : decode b_M_row 58 = .ok (.iconst 0, 1) := by decide +kernel
theorem d_M_row_59 : decode b_M_row 59 = .ok (.istore 9, 2) := by decide +kernel
theorem d_M_row_61 : decode b_M_row 61 = .ok (.iload 9, 2) := by decide +kernel
theorem d_M_row_63 : decode b_M_row 63 = .ok (.bipush 64, 2) := by decide +kernel
theorem d_M_row_65 : decode b_M_row 65 = .ok (.if_icmp .ge 48, 3) := by decide +kernel
theorem d_M_row_68 : decode b_M_row 68 = .ok (.lload 7, 2) := by decide +kernel
theorem d_M_row_70 : decode b_M_row 70 = .ok (.lconst 0, 1) := by decide +kernel
theorem d_M_row_71 : decode b_M_row 71 = .ok (.lcmp, 1) := by decide +kernel
theorem d_M_row_72 : decode b_M_row 72 = .ok (.ifCond .eq 41, 3) := by decide +kernel
theorem d_M_row_75 : decode b_M_row 75 = .ok (.lload 7, 2) := by decide +kernel
theorem d_M_row_77 : decode b_M_row 77 = .ok (.iload 9, 2) := by decide +kernel
theorem d_M_row_79 : decode b_M_row 79 = .ok (.lshr, 1) := by decide +kernel
theorem d_M_row_80 : decode b_M_row 80 = .ok (.lconst 1, 1) := by decide +kernel
theorem d_M_row_81 : decode b_M_row 81 = .ok (.land, 1) := by decide +kernel
theorem d_M_row_82 : decode b_M_row 82 = .ok (.lconst 0, 1) := by decide +kernel
theorem d_M_row_83 : decode b_M_row 83 = .ok (.lcmp, 1) := by decide +kernel
theorem d_M_row_84 : decode b_M_row 84 = .ok (.ifCond .ne 6, 3) := by decide +kernel
theorem d_M_row_87 : decode b_M_row 87 = .ok (.goto 20, 3) := by decide +kernel
theorem d_M_row_90 : decode b_M_row 90 = .ok (.iload 5, 2) := by decide +kernel
theorem d_M_row_92 : decode b_M_row 92 = .ok (.ifCond .ne 12, 3) := by decide +kernel
theorem d_M_row_95 : decode b_M_row 95 = .ok (.bipush 64, 2) := by decide +kernel
theorem d_M_row_97 : decode b_M_row 97 = .ok (.iload 6, 2) := by decide +kernel
theorem d_M_row_99 : decode b_M_row 99 = .ok (.imul, 1) := by decide +kernel
theorem d_M_row_100 : decode b_M_row 100 = .ok (.iload 9, 2) := by decide +kernel
theorem d_M_row_102 : decode b_M_row 102 = .ok (.iadd, 1) := by decide +kernel
theorem d_M_row_103 : decode b_M_row 103 = .ok (.ireturn, 1) := by decide +kernel
theorem d_M_row_104 : decode b_M_row 104 = .ok (.iinc 5 (-1), 3) := by decide +kernel
theorem d_M_row_107 : decode b_M_row 107 = .ok (.iinc 9 1, 3) := by decide +kernel
theorem d_M_row_110 : decode b_M_row 110 = .ok (.goto (-49), 3) := by decide +kernel
theorem d_M_row_113 : decode b_M_row 113 = .ok (.iinc 6 1, 3) := by decide +kernel
theorem d_M_row_116 : decode b_M_row 116 = .ok (.goto (-82), 3) := by decide +kernel
theorem d_M_row_119 : decode b_M_row 119 = .ok (.bipush (-2), 2) := by decide +kernel
theorem d_M_row_121 : decode b_M_row 121 = .ok (.ireturn, 1) := by decide +kernel
theorem d_M_aggregate_0 : decode b_M_aggregate 0 = .ok (.aload_n 0, 1) := by decide +kernel
theorem d_M_aggregate_1 : decode b_M_aggregate 1 = .ok (.iload_n 1, 1) := by decide +kernel
theorem d_M_aggregate_2 : decode b_M_aggregate 2 = .ok (.invokevirtual 90, 3) := by decide +kernel
theorem d_M_aggregate_5 : decode b_M_aggregate 5 = .ok (.ifCond .eq 32, 3) := by decide +kernel
theorem d_M_aggregate_8 : decode b_M_aggregate 8 = .ok (.aload_n 0, 1) := by decide +kernel
theorem d_M_aggregate_9 : decode b_M_aggregate 9 = .ok (.iload_n 2, 1) := by decide +kernel
theorem d_M_aggregate_10 : decode b_M_aggregate 10 = .ok (.invokevirtual 86, 3) := by decide +kernel
theorem d_M_aggregate_13 : decode b_M_aggregate 13 = .ok (.ifCond .eq 24, 3) := by decide +kernel
theorem d_M_aggregate_16 : decode b_M_aggregate 16 = .ok (.iload_n 3, 1) := by decide +kernel
theorem d_M_aggregate_17 : decode b_M_aggregate 17 = .ok (.ifCond .lt 20, 3) := by decide +kernel
theorem d_M_aggregate_20 : decode b_M_aggregate 20 = .ok (.iload_n 3, 1) := by decide +kernel
theorem d_M_aggregate_21 : decode b_M_aggregate 21 = .ok (.iconst 2, 1) := by decide +kernel
theorem d_M_aggregate_22 : decode b_M_aggregate 22 = .ok (.if_icmp .gt 15, 3) := by decide +kernel
theorem d_M_aggregate_25 : decode b_M_aggregate 25 = .ok (.iload 4, 2) := by decide +kernel
theorem d_M_aggregate_27 : decode b_M_aggregate 27 = .ok (.iconst 1, 1) := by decide +kernel
theorem d_M_aggregate_28 : decode b_M_aggregate 28 = .ok (.if_icmp .lt 9, 3) := by decide +kernel
theorem d_M_aggregate_31 : decode b_M_aggregate 31 = .ok (.iload 4, 2) := by decide +kernel
theorem d_M_aggregate_33 : decode b_M_aggregate 33 = .ok (.iconst 4, 1) := by decide +kernel
theorem d_M_aggregate_34 : decode b_M_aggregate 34 = .ok (.if_icmp .le 5, 3) := by decide +kernel
theorem d_M_aggregate_37 : decode b_M_aggregate 37 = .ok (.iconst (-1), 1) := by decide +kernel
theorem d_M_aggregate_38 : decode b_M_aggregate 38 = .ok (.ireturn, 1) := by decide +kernel
theorem d_M_aggregate_39 : decode b_M_aggregate 39 = .ok (.iconst 0, 1) := by decide +kernel
theorem d_M_aggregate_40 : decode b_M_aggregate 40 = .ok (.istore 5, 2) := by decide +kernel
theorem d_M_aggregate_42 : decode b_M_aggregate 42 = .ok (.bipush 16, 2) := by decide +kernel
theorem d_M_aggregate_44 : decode b_M_aggregate 44 = .ok (.istore 6, 2) := by decide +kernel
theorem d_M_aggregate_46 : decode b_M_aggregate 46 = .ok (.iconst (-1), 1) := by decide +kernel
theorem d_M_aggregate_47 : decode b_M_aggregate 47 = .ok (.istore 7, 2) := by decide +kernel
theorem d_M_aggregate_49 : decode b_M_aggregate 49 = .ok (.iconst 0, 1) := by decide +kernel
theorem d_M_aggregate_50 : decode b_M_aggregate 50 = .ok (.istore 8, 2) := by decide +kernel
theorem d_M_aggregate_52 : decode b_M_aggregate 52 = .ok (.iload 8, 2) := by decide +kernel
theorem d_M_aggregate_54 : decode b_M_aggregate 54 = .ok (.sipush 1024, 3) := by decide +kernel
theorem d_M_aggregate_57 : decode b_M_aggregate 57 = .ok (.if_icmp .ge 118, 3) := by decide +kernel
theorem d_M_aggregate_60 : decode b_M_aggregate 60 = .ok (.aload_n 0, 1) := by decide +kernel
theorem d_M_aggregate_61 : decode b_M_aggregate 61 = .ok (.iload_n 1, 1) := by decide +kernel
theorem d_M_aggregate_62 : decode b_M_aggregate 62 = .ok (.iload_n 2, 1) := by decide +kernel
theorem d_M_aggregate_63 : decode b_M_aggregate 63 = .ok (.iconst 0, 1) := by decide +kernel
theorem d_M_aggregate_64 : decode b_M_aggregate 64 = .ok (.iload 8, 2) := by decide +kernel
theorem d_M_aggregate_66 : decode b_M_aggregate 66 = .ok (.invokevirtual 124, 3) := by decide +kernel
theorem d_M_aggregate_69 : decode b_M_aggregate 69 = .ok (.lstore 9, 2) := by decide +kernel
theorem d_M_aggregate_71 : decode b_M_aggregate 71 = .ok (.iconst 0, 1) := by decide +kernel
theorem d_M_aggregate_72 : decode b_M_aggregate 72 = .ok (.istore 11, 2) := by decide +kernel
theorem d_M_aggregate_74 : decode b_M_aggregate 74 = .ok (.iload 11, 2) := by decide +kernel
theorem d_M_aggregate_76 : decode b_M_aggregate 76 = .ok (.bipush 64, 2) := by decide +kernel
theorem d_M_aggregate_78 : decode b_M_aggregate 78 = .ok (.if_icmp .ge 91, 3) := by decide +kernel
theorem d_M_aggregate_81 : decode b_M_aggregate 81 = .ok (.lload 9, 2) := by decide +kernel
theorem d_M_aggregate_83 : decode b_M_aggregate 83 = .ok (.lconst 0, 1) := by decide +kernel
theorem d_M_aggregate_84 : decode b_M_aggregate 84 = .ok (.lcmp, 1) := by decide +kernel
theorem d_M_aggregate_85 : decode b_M_aggregate 85 = .ok (.ifCond .eq 84, 3) := by decide +kernel
theorem d_M_aggregate_88 : decode b_M_aggregate 88 = .ok (.lload 9, 2) := by decide +kernel
theorem d_M_aggregate_90 : decode b_M_aggregate 90 = .ok (.iload 11, 2) := by decide +kernel
theorem d_M_aggregate_92 : decode b_M_aggregate 92 = .ok (.lshr, 1) := by decide +kernel
theorem d_M_aggregate_93 : decode b_M_aggregate 93 = .ok (.lconst 1, 1) := by decide +kernel
theorem d_M_aggregate_94 : decode b_M_aggregate 94 = .ok (.land, 1) := by decide +kernel
theorem d_M_aggregate_95 : decode b_M_aggregate 95 = .ok (.lconst 0, 1) := by decide +kernel
theorem d_M_aggregate_96 : decode b_M_aggregate 96 = .ok (.lcmp, 1) := by decide +kernel
theorem d_M_aggregate_97 : decode b_M_aggregate 97 = .ok (.ifCond .ne 6, 3) := by decide +kernel
theorem d_M_aggregate_100 : decode b_M_aggregate 100 = .ok (.goto 63, 3) := by decide +kernel
theorem d_M_aggregate_103 : decode b_M_aggregate 103 = .ok (.bipush 64, 2) := by decide +kernel
theorem d_M_aggregate_105 : decode b_M_aggregate 105 = .ok (.iload 8, 2) := by decide +kernel
theorem d_M_aggregate_107 : decode b_M_aggregate 107 = .ok (.imul, 1) := by decide +kernel
theorem d_M_aggregate_108 : decode b_M_aggregate 108 = .ok (.iload 11, 2) := by decide +kernel
theorem d_M_aggregate_110 : decode b_M_aggregate 110 = .ok (.iadd, 1) := by decide +kernel
theorem d_M_aggregate_111 : decode b_M_aggregate 111 = .ok (.bipush 16, 2) := by decide +kernel
theorem d_M_aggregate_113 : decode b_M_aggregate 113 = .ok (.iconst 4, 1) := by decide +kernel
theorem d_M_aggregate_114 : decode b_M_aggregate 114 = .ok (.iload 4, 2) := by decide +kernel
theorem d_M_aggregate_116 : decode b_M_aggregate 116 = .ok (.imul, 1) := by decide +kernel
theorem d_M_aggregate_117 : decode b_M_aggregate 117 = .ok (.isub, 1) := by decide +kernel
theorem d_M_aggregate_118 : decode b_M_aggregate 118 = .ok (.ishr, 1) := by decide +kernel
theorem d_M_aggregate_119 : decode b_M_aggregate 119 = .ok (.bipush 15, 2) := by decide +kernel
theorem d_M_aggregate_121 : decode b_M_aggregate 121 = .ok (.iand, 1) := by decide +kernel
theorem d_M_aggregate_122 : decode b_M_aggregate 122 = .ok (.istore 12, 2) := by decide +kernel
theorem d_M_aggregate_124 : decode b_M_aggregate 124 = .ok (.iload 5, 2) := by decide +kernel
theorem d_M_aggregate_126 : decode b_M_aggregate 126 = .ok (.iload 12, 2) := by decide +kernel
theorem d_M_aggregate_128 : decode b_M_aggregate 128 = .ok (.iadd, 1) := by decide +kernel
theorem d_M_aggregate_129 : decode b_M_aggregate 129 = .ok (.istore 5, 2) := by decide +kernel
theorem d_M_aggregate_131 : decode b_M_aggregate 131 = .ok (.iload 12, 2) := by decide +kernel
theorem d_M_aggregate_133 : decode b_M_aggregate 133 = .ok (.iload 6, 2) := by decide +kernel
theorem d_M_aggregate_135 : decode b_M_aggregate 135 = .ok (.if_icmp .ge 8, 3) := by decide +kernel
theorem d_M_aggregate_138 : decode b_M_aggregate 138 = .ok (.iload 12, 2) := by decide +kernel
theorem d_M_aggregate_140 : decode b_M_aggregate 140 = .ok (.goto 5, 3) := by decide +kernel
theorem d_M_aggregate_143 : decode b_M_aggregate 143 = .ok (.iload 6, 2) := by decide +kernel
theorem d_M_aggregate_145 : decode b_M_aggregate 145 = .ok (.istore 6, 2) := by decide +kernel
theorem d_M_aggregate_147 : decode b_M_aggregate 147 = .ok (.iload 12, 2) := by decide +kernel
theorem d_M_aggregate_149 : decode b_M_aggregate 149 = .ok (.iload 7, 2) := by decide +kernel
theorem d_M_aggregate_151 : decode b_M_aggregate 151 = .ok (.if_icmp .le 8, 3) := by decide +kernel
theorem d_M_aggregate_154 : decode b_M_aggregate 154 = .ok (.iload 12, 2) := by decide +kernel
theorem d_M_aggregate_156 : decode b_M_aggregate 156 = .ok (.goto 5, 3) := by decide +kernel
theorem d_M_aggregate_159 : decode b_M_aggregate 159 = .ok (.iload 7, 2) := by decide +kernel
theorem d_M_aggregate_161 : decode b_M_aggregate 161 = .ok (.istore 7, 2) := by decide +kernel
theorem d_M_aggregate_163 : decode b_M_aggregate 163 = .ok (.iinc 11 1, 3) := by decide +kernel
theorem d_M_aggregate_166 : decode b_M_aggregate 166 = .ok (.goto (-92), 3) := by decide +kernel
theorem d_M_aggregate_169 : decode b_M_aggregate 169 = .ok (.iinc 8 1, 3) := by decide +kernel
theorem d_M_aggregate_172 : decode b_M_aggregate 172 = .ok (.goto (-120), 3) := by decide +kernel
theorem d_M_aggregate_175 : decode b_M_aggregate 175 = .ok (.iload_n 3, 1) := by decide +kernel
theorem d_M_aggregate_176 : decode b_M_aggregate 176 = .ok (.ifCond .ne 8, 3) := by decide +kernel
theorem d_M_aggregate_179 : decode b_M_aggregate 179 = .ok (.iload 5, 2) := by decide +kernel
theorem d_M_aggregate_181 : decode b_M_aggregate 181 = .ok (.goto 25, 3) := by decide +kernel
theorem d_M_aggregate_184 : decode b_M_aggregate 184 = .ok (.iload 7, 2) := by decide +kernel
theorem d_M_aggregate_186 : decode b_M_aggregate 186 = .ok (.ifCond .ge 8, 3) := by decide +kernel
theorem d_M_aggregate_189 : decode b_M_aggregate 189 = .ok (.bipush (-2), 2) := by decide +kernel
theorem d_M_aggregate_191 : decode b_M_aggregate 191 = .ok (.goto 15, 3) := by decide +kernel
theorem d_M_aggregate_194 : decode b_M_aggregate 194 = .ok (.iload_n 3, 1) := by decide +kernel
theorem d_M_aggregate_195 : decode b_M_aggregate 195 = .ok (.iconst 1, 1) := by decide +kernel
theorem d_M_aggregate_196 : decode b_M_aggregate 196 = .ok (.if_icmp .ne 8, 3) := by decide +kernel
theorem d_M_aggregate_199 : decode b_M_aggregate 199 = .ok (.iload 6, 2) := by decide +kernel
theorem d_M_aggregate_201 : decode b_M_aggregate 201 = .ok (.goto 5, 3) := by decide +kernel
theorem d_M_aggregate_204 : decode b_M_aggregate 204 = .ok (.iload 7, 2) := by decide +kernel
theorem d_M_aggregate_206 : decode b_M_aggregate 206 = .ok (.ireturn, 1) := by decide +kernel
theorem d_M_late_0 : decode b_M_late 0 = .ok (.iload_n 2, 1) := by decide +kernel
theorem d_M_late_1 : decode b_M_late 1 = .ok (.iload_n 3, 1) := by decide +kernel
theorem d_M_late_2 : decode b_M_late 2 = .ok (.iload 4, 2) := by decide +kernel
theorem d_M_late_4 : decode b_M_late 4 = .ok (.invokestatic 66, 3) := by decide +kernel
theorem d_M_late_7 : decode b_M_late 7 = .ok (.ifCond .eq 15, 3) := by decide +kernel
theorem d_M_late_10 : decode b_M_late 10 = .ok (.iload_n 1, 1) := by decide +kernel
theorem d_M_late_11 : decode b_M_late 11 = .ok (.ifCond .lt 11, 3) := by decide +kernel
theorem d_M_late_14 : decode b_M_late 14 = .ok (.iload_n 1, 1) := by decide +kernel
theorem d_M_late_15 : decode b_M_late 15 = .ok (.aload_n 0, 1) := by decide +kernel
theorem d_M_late_16 : decode b_M_late 16 = .ok (.getfield 53, 3) := by decide +kernel
theorem d_M_late_19 : decode b_M_late 19 = .ok (.if_icmp .lt 5, 3) := by decide +kernel
theorem d_M_late_22 : decode b_M_late 22 = .ok (.iconst (-1), 1) := by decide +kernel
theorem d_M_late_23 : decode b_M_late 23 = .ok (.ireturn, 1) := by decide +kernel
theorem d_M_late_24 : decode b_M_late 24 = .ok (.aload_n 0, 1) := by decide +kernel
theorem d_M_late_25 : decode b_M_late 25 = .ok (.getfield 59, 3) := by decide +kernel
theorem d_M_late_28 : decode b_M_late 28 = .ok (.sipush 400, 3) := by decide +kernel
theorem d_M_late_31 : decode b_M_late 31 = .ok (.if_icmp .ne 6, 3) := by decide +kernel
theorem d_M_late_34 : decode b_M_late 34 = .ok (.bipush (-3), 2) := by decide +kernel
theorem d_M_late_36 : decode b_M_late 36 = .ok (.ireturn, 1) := by decide +kernel
theorem d_M_late_37 : decode b_M_late 37 = .ok (.iconst 0, 1) := by decide +kernel
theorem d_M_late_38 : decode b_M_late 38 = .ok (.istore 6, 2) := by decide +kernel
theorem d_M_late_40 : decode b_M_late 40 = .ok (.iload 6, 2) := by decide +kernel
theorem d_M_late_42 : decode b_M_late 42 = .ok (.aload_n 0, 1) := by decide +kernel
theorem d_M_late_43 : decode b_M_late 43 = .ok (.getfield 56, 3) := by decide +kernel
theorem d_M_late_46 : decode b_M_late 46 = .ok (.if_icmp .ge 36, 3) := by decide +kernel
theorem d_M_late_49 : decode b_M_late 49 = .ok (.iload_n 1, 1) := by decide +kernel
theorem d_M_late_50 : decode b_M_late 50 = .ok (.istore 7, 2) := by decide +kernel
theorem d_M_late_52 : decode b_M_late 52 = .ok (.iload 7, 2) := by decide +kernel
theorem d_M_late_54 : decode b_M_late 54 = .ok (.aload_n 0, 1) := by decide +kernel
theorem d_M_late_55 : decode b_M_late 55 = .ok (.getfield 53, 3) := by decide +kernel
theorem d_M_late_58 : decode b_M_late 58 = .ok (.if_icmp .gt 18, 3) := by decide +kernel
theorem d_M_late_61 : decode b_M_late 61 = .ok (.aload_n 0, 1) := by decide +kernel
theorem d_M_late_62 : decode b_M_late 62 = .ok (.iload 6, 2) := by decide +kernel
theorem d_M_late_64 : decode b_M_late 64 = .ok (.iload 7, 2) := by decide +kernel
theorem d_M_late_66 : decode b_M_late 66 = .ok (.invokevirtual 119, 3) := by decide +kernel
theorem d_M_late_69 : decode b_M_late 69 = .ok (.pop, 1) := by decide +kernel
theorem d_M_late_70 : decode b_M_late 70 = .ok (.iinc 7 1, 3) := by decide +kernel
theorem d_M_late_73 : decode b_M_late 73 = .ok (.goto (-21), 3) := by decide +kernel
theorem d_M_late_76 : decode b_M_late 76 = .ok (.iinc 6 1, 3) := by decide +kernel
theorem d_M_late_79 : decode b_M_late 79 = .ok (.goto (-39), 3) := by decide +kernel
theorem d_M_late_82 : decode b_M_late 82 = .ok (.aload_n 0, 1) := by decide +kernel
theorem d_M_late_83 : decode b_M_late 83 = .ok (.iload_n 1, 1) := by decide +kernel
theorem d_M_late_84 : decode b_M_late 84 = .ok (.iload_n 2, 1) := by decide +kernel
theorem d_M_late_85 : decode b_M_late 85 = .ok (.iload_n 3, 1) := by decide +kernel
theorem d_M_late_86 : decode b_M_late 86 = .ok (.iload 4, 2) := by decide +kernel
theorem d_M_late_88 : decode b_M_late 88 = .ok (.invokestatic 70, 3) := by decide +kernel
theorem d_M_late_91 : decode b_M_late 91 = .ok (.iload 5, 2) := by decide +kernel
theorem d_M_late_93 : decode b_M_late 93 = .ok (.invokevirtual 78, 3) := by decide +kernel
theorem d_M_late_96 : decode b_M_late 96 = .ok (.iconst 0, 1) := by decide +kernel
theorem d_M_late_97 : decode b_M_late 97 = .ok (.istore 6, 2) := by decide +kernel
theorem d_M_late_99 : decode b_M_late 99 = .ok (.iload_n 1, 1) := by decide +kernel
theorem d_M_late_100 : decode b_M_late 100 = .ok (.istore 7, 2) := by decide +kernel
theorem d_M_late_102 : decode b_M_late 102 = .ok (.iload 7, 2) := by decide +kernel
theorem d_M_late_104 : decode b_M_late 104 = .ok (.aload_n 0, 1) := by decide +kernel
theorem d_M_late_105 : decode b_M_late 105 = .ok (.getfield 53, 3) := by decide +kernel
theorem d_M_late_108 : decode b_M_late 108 = .ok (.if_icmp .gt 68, 3) := by decide +kernel
theorem d_M_late_111 : decode b_M_late 111 = .ok (.iconst 0, 1) := by decide +kernel
theorem d_M_late_112 : decode b_M_late 112 = .ok (.istore 8, 2) := by decide +kernel
theorem d_M_late_114 : decode b_M_late 114 = .ok (.iconst 0, 1) := by decide +kernel
theorem d_M_late_115 : decode b_M_late 115 = .ok (.istore 9, 2) := by decide +kernel
theorem d_M_late_117 : decode b_M_late 117 = .ok (.iload 9, 2) := by decide +kernel
theorem d_M_late_119 : decode b_M_late 119 = .ok (.aload_n 0, 1) := by decide +kernel
theorem d_M_late_120 : decode b_M_late 120 = .ok (.getfield 56, 3) := by decide +kernel
theorem d_M_late_123 : decode b_M_late 123 = .ok (.if_icmp .ge 32, 3) := by decide +kernel
theorem d_M_late_126 : decode b_M_late 126 = .ok (.aload_n 0, 1) := by decide +kernel
theorem d_M_late_127 : decode b_M_late 127 = .ok (.iload 9, 2) := by decide +kernel
theorem d_M_late_129 : decode b_M_late 129 = .ok (.iload 7, 2) := by decide +kernel
theorem d_M_late_131 : decode b_M_late 131 = .ok (.invokevirtual 131, 3) := by decide +kernel
theorem d_M_late_134 : decode b_M_late 134 = .ok (.ifCond .ne 8, 3) := by decide +kernel
theorem d_M_late_137 : decode b_M_late 137 = .ok (.iload 8, 2) := by decide +kernel
theorem d_M_late_139 : decode b_M_late 139 = .ok (.ifCond .eq 7, 3) := by decide +kernel
theorem d_M_late_142 : decode b_M_late 142 = .ok (.iconst 1, 1) := by decide +kernel
theorem d_M_late_143 : decode b_M_late 143 = .ok (.goto 4, 3) := by decide +kernel
theorem d_M_late_146 : decode b_M_late 146 = .ok (.iconst 0, 1) := by decide +kernel
theorem d_M_late_147 : decode b_M_late 147 = .ok (.istore 8, 2) := by decide +kernel
theorem d_M_late_149 : decode b_M_late 149 = .ok (.iinc 9 1, 3) := by decide +kernel
theorem d_M_late_152 : decode b_M_late 152 = .ok (.goto (-35), 3) := by decide +kernel
theorem d_M_late_155 : decode b_M_late 155 = .ok (.iload 6, 2) := by decide +kernel
theorem d_M_late_157 : decode b_M_late 157 = .ok (.iload 8, 2) := by decide +kernel
theorem d_M_late_159 : decode b_M_late 159 = .ok (.ifCond .eq 7, 3) := by decide +kernel
theorem d_M_late_162 : decode b_M_late 162 = .ok (.iconst 1, 1) := by decide +kernel
theorem d_M_late_163 : decode b_M_late 163 = .ok (.goto 4, 3) := by decide +kernel
theorem d_M_late_166 : decode b_M_late 166 = .ok (.iconst 0, 1) := by decide +kernel
theorem d_M_late_167 : decode b_M_late 167 = .ok (.iadd, 1) := by decide +kernel
theorem d_M_late_168 : decode b_M_late 168 = .ok (.istore 6, 2) := by decide +kernel
theorem d_M_late_170 : decode b_M_late 170 = .ok (.iinc 7 1, 3) := by decide +kernel
theorem d_M_late_173 : decode b_M_late 173 = .ok (.goto (-71), 3) := by decide +kernel
theorem d_M_late_176 : decode b_M_late 176 = .ok (.iload 6, 2) := by decide +kernel
theorem d_M_late_178 : decode b_M_late 178 = .ok (.ireturn, 1) := by decide +kernel
theorem d_M_again_0 : decode b_M_again 0 = .ok (.sipush 1024, 3) := by decide +kernel
theorem d_M_again_3 : decode b_M_again 3 = .ok (.aload_n 0, 1) := by decide +kernel
theorem d_M_again_4 : decode b_M_again 4 = .ok (.iload_n 1, 1) := by decide +kernel
theorem d_M_again_5 : decode b_M_again 5 = .ok (.iload_n 2, 1) := by decide +kernel
theorem d_M_again_6 : decode b_M_again 6 = .ok (.invokevirtual 113, 3) := by decide +kernel
theorem d_M_again_9 : decode b_M_again 9 = .ok (.imul, 1) := by decide +kernel
theorem d_M_again_10 : decode b_M_again 10 = .ok (.istore_n 3, 1) := by decide +kernel
theorem d_M_again_11 : decode b_M_again 11 = .ok (.aload_n 0, 1) := by decide +kernel
theorem d_M_again_12 : decode b_M_again 12 = .ok (.iload_n 1, 1) := by decide +kernel
theorem d_M_again_13 : decode b_M_again 13 = .ok (.iload_n 2, 1) := by decide +kernel
theorem d_M_again_14 : decode b_M_again 14 = .ok (.invokevirtual 116, 3) := by decide +kernel
theorem d_M_again_17 : decode b_M_again 17 = .ok (.iconst 0, 1) := by decide +kernel
theorem d_M_again_18 : decode b_M_again 18 = .ok (.istore 4, 2) := by decide +kernel
theorem d_M_again_20 : decode b_M_again 20 = .ok (.iconst 0, 1) := by decide +kernel
theorem d_M_again_21 : decode b_M_again 21 = .ok (.istore 5, 2) := by decide +kernel
theorem d_M_again_23 : decode b_M_again 23 = .ok (.iload 5, 2) := by decide +kernel
theorem d_M_again_25 : decode b_M_again 25 = .ok (.sipush 1024, 3) := by decide +kernel
theorem d_M_again_28 : decode b_M_again 28 = .ok (.if_icmp .ge 57, 3) := by decide +kernel
theorem d_M_again_31 : decode b_M_again 31 = .ok (.iload 4, 2) := by decide +kernel
theorem d_M_again_33 : decode b_M_again 33 = .ok (.ifCond .ne 23, 3) := by decide +kernel
theorem d_M_again_36 : decode b_M_again 36 = .ok (.aload_n 0, 1) := by decide +kernel
theorem d_M_again_37 : decode b_M_again 37 = .ok (.getfield 30, 3) := by decide +kernel
theorem d_M_again_40 : decode b_M_again 40 = .ok (.iload_n 3, 1) := by decide +kernel
theorem d_M_again_41 : decode b_M_again 41 = .ok (.iload 5, 2) := by decide +kernel
theorem d_M_again_43 : decode b_M_again 43 = .ok (.iadd, 1) := by decide +kernel
theorem d_M_again_44 : decode b_M_again 44 = .ok (.laload, 1) := by decide +kernel
theorem d_M_again_45 : decode b_M_again 45 = .ok (.aload_n 0, 1) := by decide +kernel
theorem d_M_again_46 : decode b_M_again 46 = .ok (.getfield 37, 3) := by decide +kernel
theorem d_M_again_49 : decode b_M_again 49 = .ok (.iload 5, 2) := by decide +kernel
theorem d_M_again_51 : decode b_M_again 51 = .ok (.laload, 1) := by decide +kernel
theorem d_M_again_52 : decode b_M_again 52 = .ok (.lcmp, 1) := by decide +kernel
theorem d_M_again_53 : decode b_M_again 53 = .ok (.ifCond .eq 7, 3) := by decide +kernel
theorem d_M_again_56 : decode b_M_again 56 = .ok (.iconst 1, 1) := by decide +kernel
theorem d_M_again_57 : decode b_M_again 57 = .ok (.goto 4, 3) := by decide +kernel
theorem d_M_again_60 : decode b_M_again 60 = .ok (.iconst 0, 1) := by decide +kernel
theorem d_M_again_61 : decode b_M_again 61 = .ok (.istore 4, 2) := by decide +kernel
theorem d_M_again_63 : decode b_M_again 63 = .ok (.aload_n 0, 1) := by decide +kernel
theorem d_M_again_64 : decode b_M_again 64 = .ok (.getfield 30, 3) := by decide +kernel
theorem d_M_again_67 : decode b_M_again 67 = .ok (.iload_n 3, 1) := by decide +kernel
theorem d_M_again_68 : decode b_M_again 68 = .ok (.iload 5, 2) := by decide +kernel
theorem d_M_again_70 : decode b_M_again 70 = .ok (.iadd, 1) := by decide +kernel
theorem d_M_again_71 : decode b_M_again 71 = .ok (.aload_n 0, 1) := by decide +kernel
theorem d_M_again_72 : decode b_M_again 72 = .ok (.getfield 37, 3) := by decide +kernel
theorem d_M_again_75 : decode b_M_again 75 = .ok (.iload 5, 2) := by decide +kernel
theorem d_M_again_77 : decode b_M_again 77 = .ok (.laload, 1) := by decide +kernel
theorem d_M_again_78 : decode b_M_again 78 = .ok (.lastore, 1) := by decide +kernel
theorem d_M_again_79 : decode b_M_again 79 = .ok (.iinc 5 1, 3) := by decide +kernel
theorem d_M_again_82 : decode b_M_again 82 = .ok (.goto (-59), 3) := by decide +kernel
theorem d_M_again_85 : decode b_M_again 85 = .ok (.iload 4, 2) := by decide +kernel
theorem d_M_again_87 : decode b_M_again 87 = .ok (.ireturn, 1) := by decide +kernel
theorem d_M_still_0 : decode b_M_still 0 = .ok (.aload_n 0, 1) := by decide +kernel
theorem d_M_still_1 : decode b_M_still 1 = .ok (.iload_n 1, 1) := by decide +kernel
theorem d_M_still_2 : decode b_M_still 2 = .ok (.invokevirtual 90, 3) := by decide +kernel
theorem d_M_still_5 : decode b_M_still 5 = .ok (.ifCond .ne 5, 3) := by decide +kernel
theorem d_M_still_8 : decode b_M_still 8 = .ok (.iconst (-1), 1) := by decide +kernel
theorem d_M_still_9 : decode b_M_still 9 = .ok (.ireturn, 1) := by decide +kernel
theorem d_M_still_10 : decode b_M_still 10 = .ok (.aload_n 0, 1) := by decide +kernel
theorem d_M_still_11 : decode b_M_still 11 = .ok (.getfield 53, 3) := by decide +kernel
theorem d_M_still_14 : decode b_M_still 14 = .ok (.istore_n 2, 1) := by decide +kernel
theorem d_M_still_15 : decode b_M_still 15 = .ok (.iconst 1, 1) := by decide +kernel
theorem d_M_still_16 : decode b_M_still 16 = .ok (.istore_n 3, 1) := by decide +kernel
theorem d_M_still_17 : decode b_M_still 17 = .ok (.iload_n 2, 1) := by decide +kernel
theorem d_M_still_18 : decode b_M_still 18 = .ok (.ifCond .le 91, 3) := by decide +kernel
theorem d_M_still_21 : decode b_M_still 21 = .ok (.iload_n 3, 1) := by decide +kernel
theorem d_M_still_22 : decode b_M_still 22 = .ok (.ifCond .eq 87, 3) := by decide +kernel
theorem d_M_still_25 : decode b_M_still 25 = .ok (.aload_n 0, 1) := by decide +kernel
theorem d_M_still_26 : decode b_M_still 26 = .ok (.iload_n 1, 1) := by decide +kernel
theorem d_M_still_27 : decode b_M_still 27 = .ok (.iload_n 2, 1) := by decide +kernel
theorem d_M_still_28 : decode b_M_still 28 = .ok (.invokevirtual 119, 3) := by decide +kernel
theorem d_M_still_31 : decode b_M_still 31 = .ok (.istore 4, 2) := by decide +kernel
theorem d_M_still_33 : decode b_M_still 33 = .ok (.aload_n 0, 1) := by decide +kernel
theorem d_M_still_34 : decode b_M_still 34 = .ok (.iload_n 1, 1) := by decide +kernel
theorem d_M_still_35 : decode b_M_still 35 = .ok (.iload_n 2, 1) := by decide +kernel
theorem d_M_still_36 : decode b_M_still 36 = .ok (.iconst 1, 1) := by decide +kernel
theorem d_M_still_37 : decode b_M_still 37 = .ok (.isub, 1) := by decide +kernel
theorem d_M_still_38 : decode b_M_still 38 = .ok (.invokevirtual 119, 3) := by decide +kernel
theorem d_M_still_41 : decode b_M_still 41 = .ok (.istore 5, 2) := by decide +kernel
theorem d_M_still_43 : decode b_M_still 43 = .ok (.iconst 0, 1) := by decide +kernel
theorem d_M_still_44 : decode b_M_still 44 = .ok (.istore 6, 2) := by decide +kernel
theorem d_M_still_46 : decode b_M_still 46 = .ok (.iload 6, 2) := by decide +kernel
theorem d_M_still_48 : decode b_M_still 48 = .ok (.sipush 1024, 3) := by decide +kernel
theorem d_M_still_51 : decode b_M_still 51 = .ok (.if_icmp .ge 43, 3) := by decide +kernel
theorem d_M_still_54 : decode b_M_still 54 = .ok (.iload_n 3, 1) := by decide +kernel
theorem d_M_still_55 : decode b_M_still 55 = .ok (.ifCond .eq 39, 3) := by decide +kernel
theorem d_M_still_58 : decode b_M_still 58 = .ok (.aload_n 0, 1) := by decide +kernel
theorem d_M_still_59 : decode b_M_still 59 = .ok (.getfield 30, 3) := by decide +kernel
theorem d_M_still_62 : decode b_M_still 62 = .ok (.iload 4, 2) := by decide +kernel
theorem d_M_still_64 : decode b_M_still 64 = .ok (.iload 6, 2) := by decide +kernel
theorem d_M_still_66 : decode b_M_still 66 = .ok (.iadd, 1) := by decide +kernel
theorem d_M_still_67 : decode b_M_still 67 = .ok (.laload, 1) := by decide +kernel
theorem d_M_still_68 : decode b_M_still 68 = .ok (.aload_n 0, 1) := by decide +kernel
theorem d_M_still_69 : decode b_M_still 69 = .ok (.getfield 30, 3) := by decide +kernel
theorem d_M_still_72 : decode b_M_still 72 = .ok (.iload 5, 2) := by decide +kernel
theorem d_M_still_74 : decode b_M_still 74 = .ok (.iload 6, 2) := by decide +kernel
theorem d_M_still_76 : decode b_M_still 76 = .ok (.iadd, 1) := by decide +kernel
theorem d_M_still_77 : decode b_M_still 77 = .ok (.laload, 1) := by decide +kernel
theorem d_M_still_78 : decode b_M_still 78 = .ok (.lcmp, 1) := by decide +kernel
theorem d_M_still_79 : decode b_M_still 79 = .ok (.ifCond .ne 7, 3) := by decide +kernel
theorem d_M_still_82 : decode b_M_still 82 = .ok (.iconst 1, 1) := by decide +kernel
theorem d_M_still_83 : decode b_M_still 83 = .ok (.goto 4, 3) := by decide +kernel
theorem d_M_still_86 : decode b_M_still 86 = .ok (.iconst 0, 1) := by decide +kernel
theorem d_M_still_87 : decode b_M_still 87 = .ok (.istore_n 3, 1) := by decide +kernel
theorem d_M_still_88 : decode b_M_still 88 = .ok (.iinc 6 1, 3) := by decide +kernel
theorem d_M_still_91 : decode b_M_still 91 = .ok (.goto (-45), 3) := by decide +kernel
theorem d_M_still_94 : decode b_M_still 94 = .ok (.iload_n 2, 1) := by decide +kernel
theorem d_M_still_95 : decode b_M_still 95 = .ok (.iload_n 3, 1) := by decide +kernel
theorem d_M_still_96 : decode b_M_still 96 = .ok (.ifCond .eq 7, 3) := by decide +kernel
theorem d_M_still_99 : decode b_M_still 99 = .ok (.iconst 1, 1) := by decide +kernel
theorem d_M_still_100 : decode b_M_still 100 = .ok (.goto 4, 3) := by decide +kernel
theorem d_M_still_103 : decode b_M_still 103 = .ok (.iconst 0, 1) := by decide +kernel
theorem d_M_still_104 : decode b_M_still 104 = .ok (.isub, 1) := by decide +kernel
theorem d_M_still_105 : decode b_M_still 105 = .ok (.istore_n 2, 1) := by decide +kernel
theorem d_M_still_106 : decode b_M_still 106 = .ok (.goto (-89), 3) := by decide +kernel
theorem d_M_still_109 : decode b_M_still 109 = .ok (.iload_n 2, 1) := by decide +kernel
theorem d_M_still_110 : decode b_M_still 110 = .ok (.ireturn, 1) := by decide +kernel

theorem d_Lg_init_0 : decode b_Lg_init 0 = .ok (.aload_n 0, 1) := by decide +kernel
theorem d_Lg_init_1 : decode b_Lg_init 1 = .ok (.invokespecial 3, 3) := by decide +kernel
theorem d_Lg_init_4 : decode b_Lg_init 4 = .ok (.aload_n 0, 1) := by decide +kernel
theorem d_Lg_init_5 : decode b_Lg_init 5 = .ok (.sipush 400, 3) := by decide +kernel
theorem d_Lg_init_8 : decode b_Lg_init 8 = .ok (.newarray .int, 2) := by decide +kernel
theorem d_Lg_init_10 : decode b_Lg_init 10 = .ok (.putfield 9, 3) := by decide +kernel
theorem d_Lg_init_13 : decode b_Lg_init 13 = .ok (.aload_n 0, 1) := by decide +kernel
theorem d_Lg_init_14 : decode b_Lg_init 14 = .ok (.sipush 400, 3) := by decide +kernel
theorem d_Lg_init_17 : decode b_Lg_init 17 = .ok (.newarray .int, 2) := by decide +kernel
theorem d_Lg_init_19 : decode b_Lg_init 19 = .ok (.putfield 15, 3) := by decide +kernel
theorem d_Lg_init_22 : decode b_Lg_init 22 = .ok (.aload_n 0, 1) := by decide +kernel
theorem d_Lg_init_23 : decode b_Lg_init 23 = .ok (.sipush 400, 3) := by decide +kernel
theorem d_Lg_init_26 : decode b_Lg_init 26 = .ok (.newarray .boolean, 2) := by decide +kernel
theorem d_Lg_init_28 : decode b_Lg_init 28 = .ok (.putfield 18, 3) := by decide +kernel
theorem d_Lg_init_31 : decode b_Lg_init 31 = .ok (.return_, 1) := by decide +kernel
theorem d_Lg_isFull_0 : decode b_Lg_isFull 0 = .ok (.aload_n 0, 1) := by decide +kernel
theorem d_Lg_isFull_1 : decode b_Lg_isFull 1 = .ok (.getfield 22, 3) := by decide +kernel
theorem d_Lg_isFull_4 : decode b_Lg_isFull 4 = .ok (.sipush 400, 3) := by decide +kernel
theorem d_Lg_isFull_7 : decode b_Lg_isFull 7 = .ok (.if_icmp .lt 7, 3) := by decide +kernel
theorem d_Lg_isFull_10 : decode b_Lg_isFull 10 = .ok (.iconst 1, 1) := by decide +kernel
theorem d_Lg_isFull_11 : decode b_Lg_isFull 11 = .ok (.goto 4, 3) := by decide +kernel
theorem d_Lg_isFull_14 : decode b_Lg_isFull 14 = .ok (.iconst 0, 1) := by decide +kernel
theorem d_Lg_isFull_15 : decode b_Lg_isFull 15 = .ok (.ireturn, 1) := by decide +kernel
theorem d_Lg_say_0 : decode b_Lg_say 0 = .ok (.aload_n 0, 1) := by decide +kernel
theorem d_Lg_say_1 : decode b_Lg_say 1 = .ok (.invokevirtual 26, 3) := by decide +kernel
theorem d_Lg_say_4 : decode b_Lg_say 4 = .ok (.ifCond .eq 5, 3) := by decide +kernel
theorem d_Lg_say_7 : decode b_Lg_say 7 = .ok (.iconst (-1), 1) := by decide +kernel
theorem d_Lg_say_8 : decode b_Lg_say 8 = .ok (.ireturn, 1) := by decide +kernel
theorem d_Lg_say_9 : decode b_Lg_say 9 = .ok (.aload_n 0, 1) := by decide +kernel
theorem d_Lg_say_10 : decode b_Lg_say 10 = .ok (.getfield 22, 3) := by decide +kernel
theorem d_Lg_say_13 : decode b_Lg_say 13 = .ok (.istore 4, 2) := by decide +kernel
theorem d_Lg_say_15 : decode b_Lg_say 15 = .ok (.iload 4, 2) := by decide +kernel
theorem d_Lg_say_17 : decode b_Lg_say 17 = .ok (.ifCond .le 70, 3) := by decide +kernel
theorem d_Lg_say_20 : decode b_Lg_say 20 = .ok (.aload_n 0, 1) := by decide +kernel
theorem d_Lg_say_21 : decode b_Lg_say 21 = .ok (.getfield 9, 3) := by decide +kernel
theorem d_Lg_say_24 : decode b_Lg_say 24 = .ok (.iload 4, 2) := by decide +kernel
theorem d_Lg_say_26 : decode b_Lg_say 26 = .ok (.iconst 1, 1) := by decide +kernel
theorem d_Lg_say_27 : decode b_Lg_say 27 = .ok (.isub, 1) := by decide +kernel
theorem d_Lg_say_28 : decode b_Lg_say 28 = .ok (.iaload, 1) := by decide +kernel
theorem d_Lg_say_29 : decode b_Lg_say 29 = .ok (.iload_n 1, 1) := by decide +kernel
theorem d_Lg_say_30 : decode b_Lg_say 30 = .ok (.if_icmp .le 57, 3) := by decide +kernel
theorem d_Lg_say_33 : decode b_Lg_say 33 = .ok (.aload_n 0, 1) := by decide +kernel
theorem d_Lg_say_34 : decode b_Lg_say 34 = .ok (.getfield 9, 3) := by decide +kernel
theorem d_Lg_say_37 : decode b_Lg_say 37 = .ok (.iload 4, 2) := by decide +kernel
theorem d_Lg_say_39 : decode b_Lg_say 39 = .ok (.aload_n 0, 1) := by decide +kernel
theorem d_Lg_say_40 : decode b_Lg_say 40 = .ok (.getfield 9, 3) := by decide +kernel
theorem d_Lg_say_43 : decode b_Lg_say 43 = .ok (.iload 4, 2) := by decide +kernel
theorem d_Lg_say_45 : decode b_Lg_say 45 = .ok (.iconst 1, 1) := by decide +kernel
theorem d_Lg_say_46 : decode b_Lg_say 46 = .ok (.isub, 1) := by decide +kernel
theorem d_Lg_say_47 : decode b_Lg_say 47 = .ok (.iaload, 1) := by decide +kernel
theorem d_Lg_say_48 : decode b_Lg_say 48 = .ok (.iastore, 1) := by decide +kernel
theorem d_Lg_say_49 : decode b_Lg_say 49 = .ok (.aload_n 0, 1) := by decide +kernel
theorem d_Lg_say_50 : decode b_Lg_say 50 = .ok (.getfield 15, 3) := by decide +kernel
theorem d_Lg_say_53 : decode b_Lg_say 53 = .ok (.iload 4, 2) := by decide +kernel
theorem d_Lg_say_55 : decode b_Lg_say 55 = .ok (.aload_n 0, 1) := by decide +kernel
theorem d_Lg_say_56 : decode b_Lg_say 56 = .ok (.getfield 15, 3) := by decide +kernel
theorem d_Lg_say_59 : decode b_Lg_say 59 = .ok (.iload 4, 2) := by decide +kernel
theorem d_Lg_say_61 : decode b_Lg_say 61 = .ok (.iconst 1, 1) := by decide +kernel
theorem d_Lg_say_62 : decode b_Lg_say 62 = .ok (.isub, 1) := by decide +kernel
theorem d_Lg_say_63 : decode b_Lg_say 63 = .ok (.iaload, 1) := by decide +kernel
theorem d_Lg_say_64 : decode b_Lg_say 64 = .ok (.iastore, 1) := by decide +kernel
theorem d_Lg_say_65 : decode b_Lg_say 65 = .ok (.aload_n 0, 1) := by decide +kernel
theorem d_Lg_say_66 : decode b_Lg_say 66 = .ok (.getfield 18, 3) := by decide +kernel
theorem d_Lg_say_69 : decode b_Lg_say 69 = .ok (.iload 4, 2) := by decide +kernel
theorem d_Lg_say_71 : decode b_Lg_say 71 = .ok (.aload_n 0, 1) := by decide +kernel
theorem d_Lg_say_72 : decode b_Lg_say 72 = .ok (.getfield 18, 3) := by decide +kernel
theorem d_Lg_say_75 : decode b_Lg_say 75 = .ok (.iload 4, 2) := by decide +kernel
theorem d_Lg_say_77 : decode b_Lg_say 77 = .ok (.iconst 1, 1) := by decide +kernel
theorem d_Lg_say_78 : decode b_Lg_say 78 = .ok (.isub, 1) := by decide +kernel
theorem d_Lg_say_79 : decode b_Lg_say 79 = .ok (.baload, 1) := by decide +kernel
theorem d_Lg_say_80 : decode b_Lg_say 80 = .ok (.bastore, 1) := by decide +kernel
theorem d_Lg_say_81 : decode b_Lg_say 81 = .ok (.iinc 4 (-1), 3) := by decide +kernel
theorem d_Lg_say_84 : decode b_Lg_say 84 = .ok (.goto (-69), 3) := by decide +kernel
theorem d_Lg_say_87 : decode b_Lg_say 87 = .ok (.aload_n 0, 1) := by decide +kernel
theorem d_Lg_say_88 : decode b_Lg_say 88 = .ok (.getfield 9, 3) := by decide +kernel
theorem d_Lg_say_91 : decode b_Lg_say 91 = .ok (.iload 4, 2) := by decide +kernel
theorem d_Lg_say_93 : decode b_Lg_say 93 = .ok (.iload_n 1, 1) := by decide +kernel
theorem d_Lg_say_94 : decode b_Lg_say 94 = .ok (.iastore, 1) := by decide +kernel
theorem d_Lg_say_95 : decode b_Lg_say 95 = .ok (.aload_n 0, 1) := by decide +kernel
theorem d_Lg_say_96 : decode b_Lg_say 96 = .ok (.getfield 15, 3) := by decide +kernel
theorem d_Lg_say_99 : decode b_Lg_say 99 = .ok (.iload 4, 2) := by decide +kernel
theorem d_Lg_say_101 : decode b_Lg_say 101 = .ok (.iload_n 2, 1) := by decide +kernel
theorem d_Lg_say_102 : decode b_Lg_say 102 = .ok (.iastore, 1) := by decide +kernel
theorem d_Lg_say_103 : decode b_Lg_say 103 = .ok (.aload_n 0, 1) := by decide +kernel
theorem d_Lg_say_104 : decode b_Lg_say 104 = .ok (.getfield 18, 3) := by decide +kernel
theorem d_Lg_say_107 : decode b_Lg_say 107 = .ok (.iload 4, 2) := by decide +kernel
theorem d_Lg_say_109 : decode b_Lg_say 109 = .ok (.iload_n 3, 1) := by decide +kernel
theorem d_Lg_say_110 : decode b_Lg_say 110 = .ok (.bastore, 1) := by decide +kernel
theorem d_Lg_say_111 : decode b_Lg_say 111 = .ok (.aload_n 0, 1) := by decide +kernel
theorem d_Lg_say_112 : decode b_Lg_say 112 = .ok (.dup, 1) := by decide +kernel
theorem d_Lg_say_113 : decode b_Lg_say 113 = .ok (.getfield 22, 3) := by decide +kernel
theorem d_Lg_say_116 : decode b_Lg_say 116 = .ok (.iconst 1, 1) := by decide +kernel
theorem d_Lg_say_117 : decode b_Lg_say 117 = .ok (.iadd, 1) := by decide +kernel
theorem d_Lg_say_118 : decode b_Lg_say 118 = .ok (.putfield 22, 3) := by decide +kernel
theorem d_Lg_say_121 : decode b_Lg_say 121 = .ok (.iload 4, 2) := by decide +kernel
theorem d_Lg_say_123 : decode b_Lg_say 123 = .ok (.ireturn, 1) := by decide +kernel
theorem d_Lg_lastOf_0 : decode b_Lg_lastOf 0 = .ok (.aload_n 0, 1) := by decide +kernel
theorem d_Lg_lastOf_1 : decode b_Lg_lastOf 1 = .ok (.getfield 22, 3) := by decide +kernel
theorem d_Lg_lastOf_4 : decode b_Lg_lastOf 4 = .ok (.iconst 1, 1) := by decide +kernel
theorem d_Lg_lastOf_5 : decode b_Lg_lastOf 5 = .ok (.isub, 1) := by decide +kernel
theorem d_Lg_lastOf_6 : decode b_Lg_lastOf 6 = .ok (.istore_n 3, 1) := by decide +kernel
theorem d_Lg_lastOf_7 : decode b_Lg_lastOf 7 = .ok (.iload_n 3, 1) := by decide +kernel
theorem d_Lg_lastOf_8 : decode b_Lg_lastOf 8 = .ok (.ifCond .lt 31, 3) := by decide +kernel
theorem d_Lg_lastOf_11 : decode b_Lg_lastOf 11 = .ok (.aload_n 0, 1) := by decide +kernel
theorem d_Lg_lastOf_12 : decode b_Lg_lastOf 12 = .ok (.getfield 9, 3) := by decide +kernel
theorem d_Lg_lastOf_15 : decode b_Lg_lastOf 15 = .ok (.iload_n 3, 1) := by decide +kernel
theorem d_Lg_lastOf_16 : decode b_Lg_lastOf 16 = .ok (.iaload, 1) := by decide +kernel
theorem d_Lg_lastOf_17 : decode b_Lg_lastOf 17 = .ok (.iload_n 2, 1) := by decide +kernel
theorem d_Lg_lastOf_18 : decode b_Lg_lastOf 18 = .ok (.if_icmp .gt 15, 3) := by decide +kernel
theorem d_Lg_lastOf_21 : decode b_Lg_lastOf 21 = .ok (.aload_n 0, 1) := by decide +kernel
theorem d_Lg_lastOf_22 : decode b_Lg_lastOf 22 = .ok (.getfield 15, 3) := by decide +kernel
theorem d_Lg_lastOf_25 : decode b_Lg_lastOf 25 = .ok (.iload_n 3, 1) := by decide +kernel
theorem d_Lg_lastOf_26 : decode b_Lg_lastOf 26 = .ok (.iaload, 1) := by decide +kernel
theorem d_Lg_lastOf_27 : decode b_Lg_lastOf 27 = .ok (.iload_n 1, 1) := by decide +kernel
theorem d_Lg_lastOf_28 : decode b_Lg_lastOf 28 = .ok (.if_icmp .ne 5, 3) := by decide +kernel
theorem d_Lg_lastOf_31 : decode b_Lg_lastOf 31 = .ok (.iload_n 3, 1) := by decide +kernel
theorem d_Lg_lastOf_32 : decode b_Lg_lastOf 32 = .ok (.ireturn, 1) := by decide +kernel
theorem d_Lg_lastOf_33 : decode b_Lg_lastOf 33 = .ok (.iinc 3 (-1), 3) := by decide +kernel
theorem d_Lg_lastOf_36 : decode b_Lg_lastOf 36 = .ok (.goto (-29), 3) := by decide +kernel
theorem d_Lg_lastOf_39 : decode b_Lg_lastOf 39 = .ok (.iconst (-1), 1) := by decide +kernel
theorem d_Lg_lastOf_40 : decode b_Lg_lastOf 40 = .ok (.ireturn, 1) := by decide +kernel
theorem d_Lg_heldUntil_0 : decode b_Lg_heldUntil 0 = .ok (.aload_n 0, 1) := by decide +kernel
theorem d_Lg_heldUntil_1 : decode b_Lg_heldUntil 1 = .ok (.iload_n 1, 1) := by decide +kernel
theorem d_Lg_heldUntil_2 : decode b_Lg_heldUntil 2 = .ok (.invokevirtual 30, 3) := by decide +kernel
theorem d_Lg_heldUntil_5 : decode b_Lg_heldUntil 5 = .ok (.ifCond .ne 5, 3) := by decide +kernel
theorem d_Lg_heldUntil_8 : decode b_Lg_heldUntil 8 = .ok (.iconst 0, 1) := by decide +kernel
theorem d_Lg_heldUntil_9 : decode b_Lg_heldUntil 9 = .ok (.ireturn, 1) := by decide +kernel
theorem d_Lg_heldUntil_10 : decode b_Lg_heldUntil 10 = .ok (.iload_n 1, 1) := by decide +kernel
theorem d_Lg_heldUntil_11 : decode b_Lg_heldUntil 11 = .ok (.iconst 1, 1) := by decide +kernel
theorem d_Lg_heldUntil_12 : decode b_Lg_heldUntil 12 = .ok (.iadd, 1) := by decide +kernel
theorem d_Lg_heldUntil_13 : decode b_Lg_heldUntil 13 = .ok (.istore_n 2, 1) := by decide +kernel
theorem d_Lg_heldUntil_14 : decode b_Lg_heldUntil 14 = .ok (.iload_n 2, 1) := by decide +kernel
theorem d_Lg_heldUntil_15 : decode b_Lg_heldUntil 15 = .ok (.aload_n 0, 1) := by decide +kernel
theorem d_Lg_heldUntil_16 : decode b_Lg_heldUntil 16 = .ok (.getfield 22, 3) := by decide +kernel
theorem d_Lg_heldUntil_19 : decode b_Lg_heldUntil 19 = .ok (.if_icmp .ge 31, 3) := by decide +kernel
theorem d_Lg_heldUntil_22 : decode b_Lg_heldUntil 22 = .ok (.aload_n 0, 1) := by decide +kernel
theorem d_Lg_heldUntil_23 : decode b_Lg_heldUntil 23 = .ok (.getfield 15, 3) := by decide +kernel
theorem d_Lg_heldUntil_26 : decode b_Lg_heldUntil 26 = .ok (.iload_n 2, 1) := by decide +kernel
theorem d_Lg_heldUntil_27 : decode b_Lg_heldUntil 27 = .ok (.iaload, 1) := by decide +kernel
theorem d_Lg_heldUntil_28 : decode b_Lg_heldUntil 28 = .ok (.aload_n 0, 1) := by decide +kernel
theorem d_Lg_heldUntil_29 : decode b_Lg_heldUntil 29 = .ok (.getfield 15, 3) := by decide +kernel
theorem d_Lg_heldUntil_32 : decode b_Lg_heldUntil 32 = .ok (.iload_n 1, 1) := by decide +kernel
theorem d_Lg_heldUntil_33 : decode b_Lg_heldUntil 33 = .ok (.iaload, 1) := by decide +kernel
theorem d_Lg_heldUntil_34 : decode b_Lg_heldUntil 34 = .ok (.if_icmp .ne 10, 3) := by decide +kernel
theorem d_Lg_heldUntil_37 : decode b_Lg_heldUntil 37 = .ok (.aload_n 0, 1) := by decide +kernel
theorem d_Lg_heldUntil_38 : decode b_Lg_heldUntil 38 = .ok (.getfield 9, 3) := by decide +kernel
theorem d_Lg_heldUntil_41 : decode b_Lg_heldUntil 41 = .ok (.iload_n 2, 1) := by decide +kernel
theorem d_Lg_heldUntil_42 : decode b_Lg_heldUntil 42 = .ok (.iaload, 1) := by decide +kernel
theorem d_Lg_heldUntil_43 : decode b_Lg_heldUntil 43 = .ok (.ireturn, 1) := by decide +kernel
theorem d_Lg_heldUntil_44 : decode b_Lg_heldUntil 44 = .ok (.iinc 2 1, 3) := by decide +kernel
theorem d_Lg_heldUntil_47 : decode b_Lg_heldUntil 47 = .ok (.goto (-33), 3) := by decide +kernel
theorem d_Lg_heldUntil_50 : decode b_Lg_heldUntil 50 = .ok (.bipush 62, 2) := by decide +kernel
theorem d_Lg_heldUntil_52 : decode b_Lg_heldUntil 52 = .ok (.ireturn, 1) := by decide +kernel
theorem d_Lg_comesAt_0 : decode b_Lg_comesAt 0 = .ok (.aload_n 0, 1) := by decide +kernel
theorem d_Lg_comesAt_1 : decode b_Lg_comesAt 1 = .ok (.iload_n 1, 1) := by decide +kernel
theorem d_Lg_comesAt_2 : decode b_Lg_comesAt 2 = .ok (.invokevirtual 30, 3) := by decide +kernel
theorem d_Lg_comesAt_5 : decode b_Lg_comesAt 5 = .ok (.ifCond .eq 16, 3) := by decide +kernel
theorem d_Lg_comesAt_8 : decode b_Lg_comesAt 8 = .ok (.aload_n 0, 1) := by decide +kernel
theorem d_Lg_comesAt_9 : decode b_Lg_comesAt 9 = .ok (.getfield 18, 3) := by decide +kernel
theorem d_Lg_comesAt_12 : decode b_Lg_comesAt 12 = .ok (.iload_n 1, 1) := by decide +kernel
theorem d_Lg_comesAt_13 : decode b_Lg_comesAt 13 = .ok (.baload, 1) := by decide +kernel
theorem d_Lg_comesAt_14 : decode b_Lg_comesAt 14 = .ok (.ifCond .eq 7, 3) := by decide +kernel
theorem d_Lg_comesAt_17 : decode b_Lg_comesAt 17 = .ok (.iconst 1, 1) := by decide +kernel
theorem d_Lg_comesAt_18 : decode b_Lg_comesAt 18 = .ok (.goto 4, 3) := by decide +kernel
theorem d_Lg_comesAt_21 : decode b_Lg_comesAt 21 = .ok (.iconst 0, 1) := by decide +kernel
theorem d_Lg_comesAt_22 : decode b_Lg_comesAt 22 = .ok (.ireturn, 1) := by decide +kernel
theorem d_Lg_numberAt_0 : decode b_Lg_numberAt 0 = .ok (.aload_n 0, 1) := by decide +kernel
theorem d_Lg_numberAt_1 : decode b_Lg_numberAt 1 = .ok (.iload_n 1, 1) := by decide +kernel
theorem d_Lg_numberAt_2 : decode b_Lg_numberAt 2 = .ok (.invokevirtual 30, 3) := by decide +kernel
theorem d_Lg_numberAt_5 : decode b_Lg_numberAt 5 = .ok (.ifCond .eq 12, 3) := by decide +kernel
theorem d_Lg_numberAt_8 : decode b_Lg_numberAt 8 = .ok (.aload_n 0, 1) := by decide +kernel
theorem d_Lg_numberAt_9 : decode b_Lg_numberAt 9 = .ok (.getfield 9, 3) := by decide +kernel
theorem d_Lg_numberAt_12 : decode b_Lg_numberAt 12 = .ok (.iload_n 1, 1) := by decide +kernel
theorem d_Lg_numberAt_13 : decode b_Lg_numberAt 13 = .ok (.iaload, 1) := by decide +kernel
theorem d_Lg_numberAt_14 : decode b_Lg_numberAt 14 = .ok (.goto 4, 3) := by decide +kernel
theorem d_Lg_numberAt_17 : decode b_Lg_numberAt 17 = .ok (.iconst 0, 1) := by decide +kernel
theorem d_Lg_numberAt_18 : decode b_Lg_numberAt 18 = .ok (.ireturn, 1) := by decide +kernel
theorem d_Lg_shows_0 : decode b_Lg_shows 0 = .ok (.aload_n 0, 1) := by decide +kernel
theorem d_Lg_shows_1 : decode b_Lg_shows 1 = .ok (.iload_n 1, 1) := by decide +kernel
theorem d_Lg_shows_2 : decode b_Lg_shows 2 = .ok (.invokevirtual 30, 3) := by decide +kernel
theorem d_Lg_shows_5 : decode b_Lg_shows 5 = .ok (.ifCond .eq 32, 3) := by decide +kernel
theorem d_Lg_shows_8 : decode b_Lg_shows 8 = .ok (.aload_n 0, 1) := by decide +kernel
theorem d_Lg_shows_9 : decode b_Lg_shows 9 = .ok (.getfield 18, 3) := by decide +kernel
theorem d_Lg_shows_12 : decode b_Lg_shows 12 = .ok (.iload_n 1, 1) := by decide +kernel
theorem d_Lg_shows_13 : decode b_Lg_shows 13 = .ok (.baload, 1) := by decide +kernel
theorem d_Lg_shows_14 : decode b_Lg_shows 14 = .ok (.ifCond .eq 23, 3) := by decide +kernel
theorem d_Lg_shows_17 : decode b_Lg_shows 17 = .ok (.iload_n 3, 1) := by decide +kernel
theorem d_Lg_shows_18 : decode b_Lg_shows 18 = .ok (.ifCond .eq 15, 3) := by decide +kernel
theorem d_Lg_shows_21 : decode b_Lg_shows 21 = .ok (.iload_n 2, 1) := by decide +kernel
theorem d_Lg_shows_22 : decode b_Lg_shows 22 = .ok (.aload_n 0, 1) := by decide +kernel
theorem d_Lg_shows_23 : decode b_Lg_shows 23 = .ok (.getfield 9, 3) := by decide +kernel
theorem d_Lg_shows_26 : decode b_Lg_shows 26 = .ok (.iload_n 1, 1) := by decide +kernel
theorem d_Lg_shows_27 : decode b_Lg_shows 27 = .ok (.iaload, 1) := by decide +kernel
theorem d_Lg_shows_28 : decode b_Lg_shows 28 = .ok (.isub, 1) := by decide +kernel
theorem d_Lg_shows_29 : decode b_Lg_shows 29 = .ok (.iload_n 3, 1) := by decide +kernel
theorem d_Lg_shows_30 : decode b_Lg_shows 30 = .ok (.if_icmp .ge 7, 3) := by decide +kernel
theorem d_Lg_shows_33 : decode b_Lg_shows 33 = .ok (.iconst 1, 1) := by decide +kernel
theorem d_Lg_shows_34 : decode b_Lg_shows 34 = .ok (.goto 4, 3) := by decide +kernel
theorem d_Lg_shows_37 : decode b_Lg_shows 37 = .ok (.iconst 0, 1) := by decide +kernel
theorem d_Lg_shows_38 : decode b_Lg_shows 38 = .ok (.ireturn, 1) := by decide +kernel
theorem d_Lg_isPlace_0 : decode b_Lg_isPlace 0 = .ok (.iload_n 1, 1) := by decide +kernel
theorem d_Lg_isPlace_1 : decode b_Lg_isPlace 1 = .ok (.ifCond .lt 15, 3) := by decide +kernel
theorem d_Lg_isPlace_4 : decode b_Lg_isPlace 4 = .ok (.iload_n 1, 1) := by decide +kernel
theorem d_Lg_isPlace_5 : decode b_Lg_isPlace 5 = .ok (.aload_n 0, 1) := by decide +kernel
theorem d_Lg_isPlace_6 : decode b_Lg_isPlace 6 = .ok (.getfield 22, 3) := by decide +kernel
theorem d_Lg_isPlace_9 : decode b_Lg_isPlace 9 = .ok (.if_icmp .ge 7, 3) := by decide +kernel
theorem d_Lg_isPlace_12 : decode b_Lg_isPlace 12 = .ok (.iconst 1, 1) := by decide +kernel
theorem d_Lg_isPlace_13 : decode b_Lg_isPlace 13 = .ok (.goto 4, 3) := by decide +kernel
theorem d_Lg_isPlace_16 : decode b_Lg_isPlace 16 = .ok (.iconst 0, 1) := by decide +kernel
theorem d_Lg_isPlace_17 : decode b_Lg_isPlace 17 = .ok (.ireturn, 1) := by decide +kernel
theorem d_Jm_max_0 : decode b_Jm_max 0 = .ok (.iload_n 0, 1) := by decide +kernel
theorem d_Jm_max_1 : decode b_Jm_max 1 = .ok (.iload_n 1, 1) := by decide +kernel
theorem d_Jm_max_2 : decode b_Jm_max 2 = .ok (.if_icmp .lt 7, 3) := by decide +kernel
theorem d_Jm_max_5 : decode b_Jm_max 5 = .ok (.iload_n 0, 1) := by decide +kernel
theorem d_Jm_max_6 : decode b_Jm_max 6 = .ok (.goto 4, 3) := by decide +kernel
theorem d_Jm_max_9 : decode b_Jm_max 9 = .ok (.iload_n 1, 1) := by decide +kernel
theorem d_Jm_max_10 : decode b_Jm_max 10 = .ok (.ireturn, 1) := by decide +kernel
theorem d_Jm_floorMod_0 : decode b_Jm_floorMod 0 = .ok (.iload_n 0, 1) := by decide +kernel
theorem d_Jm_floorMod_1 : decode b_Jm_floorMod 1 = .ok (.iload_n 1, 1) := by decide +kernel
theorem d_Jm_floorMod_2 : decode b_Jm_floorMod 2 = .ok (.irem, 1) := by decide +kernel
theorem d_Jm_floorMod_3 : decode b_Jm_floorMod 3 = .ok (.istore_n 2, 1) := by decide +kernel
theorem d_Jm_floorMod_4 : decode b_Jm_floorMod 4 = .ok (.iload_n 0, 1) := by decide +kernel
theorem d_Jm_floorMod_5 : decode b_Jm_floorMod 5 = .ok (.iload_n 1, 1) := by decide +kernel
theorem d_Jm_floorMod_6 : decode b_Jm_floorMod 6 = .ok (.ixor, 1) := by decide +kernel
theorem d_Jm_floorMod_7 : decode b_Jm_floorMod 7 = .ok (.ifCond .ge 11, 3) := by decide +kernel
theorem d_Jm_floorMod_10 : decode b_Jm_floorMod 10 = .ok (.iload_n 2, 1) := by decide +kernel
theorem d_Jm_floorMod_11 : decode b_Jm_floorMod 11 = .ok (.ifCond .eq 7, 3) := by decide +kernel
theorem d_Jm_floorMod_14 : decode b_Jm_floorMod 14 = .ok (.iload_n 2, 1) := by decide +kernel
theorem d_Jm_floorMod_15 : decode b_Jm_floorMod 15 = .ok (.iload_n 1, 1) := by decide +kernel
theorem d_Jm_floorMod_16 : decode b_Jm_floorMod 16 = .ok (.iadd, 1) := by decide +kernel
theorem d_Jm_floorMod_17 : decode b_Jm_floorMod 17 = .ok (.ireturn, 1) := by decide +kernel
theorem d_Jm_floorMod_18 : decode b_Jm_floorMod 18 = .ok (.iload_n 2, 1) := by decide +kernel
theorem d_Jm_floorMod_19 : decode b_Jm_floorMod 19 = .ok (.ireturn, 1) := by decide +kernel
theorem d_Jm_min_0 : decode b_Jm_min 0 = .ok (.iload_n 0, 1) := by decide +kernel
theorem d_Jm_min_1 : decode b_Jm_min 1 = .ok (.iload_n 1, 1) := by decide +kernel
theorem d_Jm_min_2 : decode b_Jm_min 2 = .ok (.if_icmp .gt 7, 3) := by decide +kernel
theorem d_Jm_min_5 : decode b_Jm_min 5 = .ok (.iload_n 0, 1) := by decide +kernel
theorem d_Jm_min_6 : decode b_Jm_min 6 = .ok (.goto 4, 3) := by decide +kernel
theorem d_Jm_min_9 : decode b_Jm_min 9 = .ok (.iload_n 1, 1) := by decide +kernel
theorem d_Jm_min_10 : decode b_Jm_min 10 = .ok (.ireturn, 1) := by decide +kernel
theorem d_Ja_fill_0 : decode b_Ja_fill 0 = .ok (.iconst 0, 1) := by decide +kernel
theorem d_Ja_fill_1 : decode b_Ja_fill 1 = .ok (.istore_n 2, 1) := by decide +kernel
theorem d_Ja_fill_2 : decode b_Ja_fill 2 = .ok (.aload_n 0, 1) := by decide +kernel
theorem d_Ja_fill_3 : decode b_Ja_fill 3 = .ok (.arraylength, 1) := by decide +kernel
theorem d_Ja_fill_4 : decode b_Ja_fill 4 = .ok (.istore_n 3, 1) := by decide +kernel
theorem d_Ja_fill_5 : decode b_Ja_fill 5 = .ok (.iload_n 2, 1) := by decide +kernel
theorem d_Ja_fill_6 : decode b_Ja_fill 6 = .ok (.iload_n 3, 1) := by decide +kernel
theorem d_Ja_fill_7 : decode b_Ja_fill 7 = .ok (.if_icmp .ge 13, 3) := by decide +kernel
theorem d_Ja_fill_10 : decode b_Ja_fill 10 = .ok (.aload_n 0, 1) := by decide +kernel
theorem d_Ja_fill_11 : decode b_Ja_fill 11 = .ok (.iload_n 2, 1) := by decide +kernel
theorem d_Ja_fill_12 : decode b_Ja_fill 12 = .ok (.iload_n 1, 1) := by decide +kernel
theorem d_Ja_fill_13 : decode b_Ja_fill 13 = .ok (.iastore, 1) := by decide +kernel
theorem d_Ja_fill_14 : decode b_Ja_fill 14 = .ok (.iinc 2 1, 3) := by decide +kernel
theorem d_Ja_fill_17 : decode b_Ja_fill 17 = .ok (.goto (-12), 3) := by decide +kernel
theorem d_Ja_fill_20 : decode b_Ja_fill 20 = .ok (.return_, 1) := by decide +kernel
theorem d_Ji_bitCount_0 : decode b_Ji_bitCount 0 = .ok (.iload_n 0, 1) := by decide +kernel
theorem d_Ji_bitCount_1 : decode b_Ji_bitCount 1 = .ok (.iload_n 0, 1) := by decide +kernel
theorem d_Ji_bitCount_2 : decode b_Ji_bitCount 2 = .ok (.iconst 1, 1) := by decide +kernel
theorem d_Ji_bitCount_3 : decode b_Ji_bitCount 3 = .ok (.iushr, 1) := by decide +kernel
theorem d_Ji_bitCount_4 : decode b_Ji_bitCount 4 = .ok (.ldc_w 265, 3) := by decide +kernel
theorem d_Ji_bitCount_7 : decode b_Ji_bitCount 7 = .ok (.iand, 1) := by decide +kernel
theorem d_Ji_bitCount_8 : decode b_Ji_bitCount 8 = .ok (.isub, 1) := by decide +kernel
theorem d_Ji_bitCount_9 : decode b_Ji_bitCount 9 = .ok (.istore_n 0, 1) := by decide +kernel
theorem d_Ji_bitCount_10 : decode b_Ji_bitCount 10 = .ok (.iload_n 0, 1) := by decide +kernel
theorem d_Ji_bitCount_11 : decode b_Ji_bitCount 11 = .ok (.ldc_w 266, 3) := by decide +kernel
theorem d_Ji_bitCount_14 : decode b_Ji_bitCount 14 = .ok (.iand, 1) := by decide +kernel
theorem d_Ji_bitCount_15 : decode b_Ji_bitCount 15 = .ok (.iload_n 0, 1) := by decide +kernel
theorem d_Ji_bitCount_16 : decode b_Ji_bitCount 16 = .ok (.iconst 2, 1) := by decide +kernel
theorem d_Ji_bitCount_17 : decode b_Ji_bitCount 17 = .ok (.iushr, 1) := by decide +kernel
theorem d_Ji_bitCount_18 : decode b_Ji_bitCount 18 = .ok (.ldc_w 266, 3) := by decide +kernel
theorem d_Ji_bitCount_21 : decode b_Ji_bitCount 21 = .ok (.iand, 1) := by decide +kernel
theorem d_Ji_bitCount_22 : decode b_Ji_bitCount 22 = .ok (.iadd, 1) := by decide +kernel
theorem d_Ji_bitCount_23 : decode b_Ji_bitCount 23 = .ok (.istore_n 0, 1) := by decide +kernel
theorem d_Ji_bitCount_24 : decode b_Ji_bitCount 24 = .ok (.iload_n 0, 1) := by decide +kernel
theorem d_Ji_bitCount_25 : decode b_Ji_bitCount 25 = .ok (.iload_n 0, 1) := by decide +kernel
theorem d_Ji_bitCount_26 : decode b_Ji_bitCount 26 = .ok (.iconst 4, 1) := by decide +kernel
theorem d_Ji_bitCount_27 : decode b_Ji_bitCount 27 = .ok (.iushr, 1) := by decide +kernel
theorem d_Ji_bitCount_28 : decode b_Ji_bitCount 28 = .ok (.iadd, 1) := by decide +kernel
theorem d_Ji_bitCount_29 : decode b_Ji_bitCount 29 = .ok (.ldc_w 267, 3) := by decide +kernel
theorem d_Ji_bitCount_32 : decode b_Ji_bitCount 32 = .ok (.iand, 1) := by decide +kernel
theorem d_Ji_bitCount_33 : decode b_Ji_bitCount 33 = .ok (.istore_n 0, 1) := by decide +kernel
theorem d_Ji_bitCount_34 : decode b_Ji_bitCount 34 = .ok (.iload_n 0, 1) := by decide +kernel
theorem d_Ji_bitCount_35 : decode b_Ji_bitCount 35 = .ok (.iload_n 0, 1) := by decide +kernel
theorem d_Ji_bitCount_36 : decode b_Ji_bitCount 36 = .ok (.bipush 8, 2) := by decide +kernel
theorem d_Ji_bitCount_38 : decode b_Ji_bitCount 38 = .ok (.iushr, 1) := by decide +kernel
theorem d_Ji_bitCount_39 : decode b_Ji_bitCount 39 = .ok (.iadd, 1) := by decide +kernel
theorem d_Ji_bitCount_40 : decode b_Ji_bitCount 40 = .ok (.istore_n 0, 1) := by decide +kernel
theorem d_Ji_bitCount_41 : decode b_Ji_bitCount 41 = .ok (.iload_n 0, 1) := by decide +kernel
theorem d_Ji_bitCount_42 : decode b_Ji_bitCount 42 = .ok (.iload_n 0, 1) := by decide +kernel
theorem d_Ji_bitCount_43 : decode b_Ji_bitCount 43 = .ok (.bipush 16, 2) := by decide +kernel
theorem d_Ji_bitCount_45 : decode b_Ji_bitCount 45 = .ok (.iushr, 1) := by decide +kernel
theorem d_Ji_bitCount_46 : decode b_Ji_bitCount 46 = .ok (.iadd, 1) := by decide +kernel
theorem d_Ji_bitCount_47 : decode b_Ji_bitCount 47 = .ok (.istore_n 0, 1) := by decide +kernel
theorem d_Ji_bitCount_48 : decode b_Ji_bitCount 48 = .ok (.iload_n 0, 1) := by decide +kernel
theorem d_Ji_bitCount_49 : decode b_Ji_bitCount 49 = .ok (.bipush 63, 2) := by decide +kernel
theorem d_Ji_bitCount_51 : decode b_Ji_bitCount 51 = .ok (.iand, 1) := by decide +kernel
theorem d_Ji_bitCount_52 : decode b_Ji_bitCount 52 = .ok (.ireturn, 1) := by decide +kernel

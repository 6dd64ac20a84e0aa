theorem d_Qu_init_0 : decode b_Qu_init 0 = .ok (.aload_n 0, 1) := by decide +kernel
theorem d_Qu_init_1 : decode b_Qu_init 1 = .ok (.invokespecial 3, 3) := by decide +kernel
theorem d_Qu_init_4 : decode b_Qu_init 4 = .ok (.aload_n 0, 1) := by decide +kernel
theorem d_Qu_init_5 : decode b_Qu_init 5 = .ok (.bipush 9, 2) := by decide +kernel
theorem d_Qu_init_7 : decode b_Qu_init 7 = .ok (.newarray .int, 2) := by decide +kernel
theorem d_Qu_init_9 : decode b_Qu_init 9 = .ok (.putfield 9, 3) := by decide +kernel
theorem d_Qu_init_12 : decode b_Qu_init 12 = .ok (.aload_n 0, 1) := by decide +kernel
theorem d_Qu_init_13 : decode b_Qu_init 13 = .ok (.iconst 3, 1) := by decide +kernel
theorem d_Qu_init_14 : decode b_Qu_init 14 = .ok (.newarray .int, 2) := by decide +kernel
theorem d_Qu_init_16 : decode b_Qu_init 16 = .ok (.putfield 15, 3) := by decide +kernel
theorem d_Qu_init_19 : decode b_Qu_init 19 = .ok (.aload_n 0, 1) := by decide +kernel
theorem d_Qu_init_20 : decode b_Qu_init 20 = .ok (.iload_n 1, 1) := by decide +kernel
theorem d_Qu_init_21 : decode b_Qu_init 21 = .ok (.putfield 18, 3) := by decide +kernel
theorem d_Qu_init_24 : decode b_Qu_init 24 = .ok (.return_, 1) := by decide +kernel
theorem d_Qu_add_0 : decode b_Qu_add 0 = .ok (.aload_n 0, 1) := by decide +kernel
theorem d_Qu_add_1 : decode b_Qu_add 1 = .ok (.getfield 22, 3) := by decide +kernel
theorem d_Qu_add_4 : decode b_Qu_add 4 = .ok (.iconst 3, 1) := by decide +kernel
theorem d_Qu_add_5 : decode b_Qu_add 5 = .ok (.if_icmp .lt 5, 3) := by decide +kernel
theorem d_Qu_add_8 : decode b_Qu_add 8 = .ok (.iconst 0, 1) := by decide +kernel
theorem d_Qu_add_9 : decode b_Qu_add 9 = .ok (.ireturn, 1) := by decide +kernel
theorem d_Qu_add_10 : decode b_Qu_add 10 = .ok (.aload_n 0, 1) := by decide +kernel
theorem d_Qu_add_11 : decode b_Qu_add 11 = .ok (.getfield 9, 3) := by decide +kernel
theorem d_Qu_add_14 : decode b_Qu_add 14 = .ok (.aload_n 0, 1) := by decide +kernel
theorem d_Qu_add_15 : decode b_Qu_add 15 = .ok (.getfield 22, 3) := by decide +kernel
theorem d_Qu_add_18 : decode b_Qu_add 18 = .ok (.iconst 3, 1) := by decide +kernel
theorem d_Qu_add_19 : decode b_Qu_add 19 = .ok (.imul, 1) := by decide +kernel
theorem d_Qu_add_20 : decode b_Qu_add 20 = .ok (.iload_n 1, 1) := by decide +kernel
theorem d_Qu_add_21 : decode b_Qu_add 21 = .ok (.iastore, 1) := by decide +kernel
theorem d_Qu_add_22 : decode b_Qu_add 22 = .ok (.aload_n 0, 1) := by decide +kernel
theorem d_Qu_add_23 : decode b_Qu_add 23 = .ok (.getfield 9, 3) := by decide +kernel
theorem d_Qu_add_26 : decode b_Qu_add 26 = .ok (.aload_n 0, 1) := by decide +kernel
theorem d_Qu_add_27 : decode b_Qu_add 27 = .ok (.getfield 22, 3) := by decide +kernel
theorem d_Qu_add_30 : decode b_Qu_add 30 = .ok (.iconst 3, 1) := by decide +kernel
theorem d_Qu_add_31 : decode b_Qu_add 31 = .ok (.imul, 1) := by decide +kernel
theorem d_Qu_add_32 : decode b_Qu_add 32 = .ok (.iconst 1, 1) := by decide +kernel
theorem d_Qu_add_33 : decode b_Qu_add 33 = .ok (.iadd, 1) := by decide +kernel
theorem d_Qu_add_34 : decode b_Qu_add 34 = .ok (.iload_n 2, 1) := by decide +kernel
theorem d_Qu_add_35 : decode b_Qu_add 35 = .ok (.iastore, 1) := by decide +kernel
theorem d_Qu_add_36 : decode b_Qu_add 36 = .ok (.aload_n 0, 1) := by decide +kernel
theorem d_Qu_add_37 : decode b_Qu_add 37 = .ok (.getfield 9, 3) := by decide +kernel
theorem d_Qu_add_40 : decode b_Qu_add 40 = .ok (.aload_n 0, 1) := by decide +kernel
theorem d_Qu_add_41 : decode b_Qu_add 41 = .ok (.getfield 22, 3) := by decide +kernel
theorem d_Qu_add_44 : decode b_Qu_add 44 = .ok (.iconst 3, 1) := by decide +kernel
theorem d_Qu_add_45 : decode b_Qu_add 45 = .ok (.imul, 1) := by decide +kernel
theorem d_Qu_add_46 : decode b_Qu_add 46 = .ok (.iconst 2, 1) := by decide +kernel
theorem d_Qu_add_47 : decode b_Qu_add 47 = .ok (.iadd, 1) := by decide +kernel
theorem d_Qu_add_48 : decode b_Qu_add 48 = .ok (.iload_n 3, 1) := by decide +kernel
theorem d_Qu_add_49 : decode b_Qu_add 49 = .ok (.iastore, 1) := by decide +kernel
theorem d_Qu_add_50 : decode b_Qu_add 50 = .ok (.aload_n 0, 1) := by decide +kernel
theorem d_Qu_add_51 : decode b_Qu_add 51 = .ok (.getfield 15, 3) := by decide +kernel
theorem d_Qu_add_54 : decode b_Qu_add 54 = .ok (.aload_n 0, 1) := by decide +kernel
theorem d_Qu_add_55 : decode b_Qu_add 55 = .ok (.getfield 22, 3) := by decide +kernel
theorem d_Qu_add_58 : decode b_Qu_add 58 = .ok (.iconst (-1), 1) := by decide +kernel
theorem d_Qu_add_59 : decode b_Qu_add 59 = .ok (.iload_n 1, 1) := by decide +kernel
theorem d_Qu_add_60 : decode b_Qu_add 60 = .ok (.iload_n 2, 1) := by decide +kernel
theorem d_Qu_add_61 : decode b_Qu_add 61 = .ok (.iload_n 3, 1) := by decide +kernel
theorem d_Qu_add_62 : decode b_Qu_add 62 = .ok (.invokestatic 25, 3) := by decide +kernel
theorem d_Qu_add_65 : decode b_Qu_add 65 = .ok (.invokestatic 25, 3) := by decide +kernel
theorem d_Qu_add_68 : decode b_Qu_add 68 = .ok (.isub, 1) := by decide +kernel
theorem d_Qu_add_69 : decode b_Qu_add 69 = .ok (.iastore, 1) := by decide +kernel
theorem d_Qu_add_70 : decode b_Qu_add 70 = .ok (.aload_n 0, 1) := by decide +kernel
theorem d_Qu_add_71 : decode b_Qu_add 71 = .ok (.dup, 1) := by decide +kernel
theorem d_Qu_add_72 : decode b_Qu_add 72 = .ok (.getfield 22, 3) := by decide +kernel
theorem d_Qu_add_75 : decode b_Qu_add 75 = .ok (.iconst 1, 1) := by decide +kernel
theorem d_Qu_add_76 : decode b_Qu_add 76 = .ok (.iadd, 1) := by decide +kernel
theorem d_Qu_add_77 : decode b_Qu_add 77 = .ok (.putfield 22, 3) := by decide +kernel
theorem d_Qu_add_80 : decode b_Qu_add 80 = .ok (.aload_n 0, 1) := by decide +kernel
theorem d_Qu_add_81 : decode b_Qu_add 81 = .ok (.iload_n 1, 1) := by decide +kernel
theorem d_Qu_add_82 : decode b_Qu_add 82 = .ok (.invokevirtual 31, 3) := by decide +kernel
theorem d_Qu_add_85 : decode b_Qu_add 85 = .ok (.aload_n 0, 1) := by decide +kernel
theorem d_Qu_add_86 : decode b_Qu_add 86 = .ok (.iload_n 2, 1) := by decide +kernel
theorem d_Qu_add_87 : decode b_Qu_add 87 = .ok (.invokevirtual 31, 3) := by decide +kernel
theorem d_Qu_add_90 : decode b_Qu_add 90 = .ok (.aload_n 0, 1) := by decide +kernel
theorem d_Qu_add_91 : decode b_Qu_add 91 = .ok (.iload_n 3, 1) := by decide +kernel
theorem d_Qu_add_92 : decode b_Qu_add 92 = .ok (.invokevirtual 31, 3) := by decide +kernel
theorem d_Qu_add_95 : decode b_Qu_add 95 = .ok (.iconst 1, 1) := by decide +kernel
theorem d_Qu_add_96 : decode b_Qu_add 96 = .ok (.ireturn, 1) := by decide +kernel
theorem d_Qu_itemAt_0 : decode b_Qu_itemAt 0 = .ok (.iload_n 1, 1) := by decide +kernel
theorem d_Qu_itemAt_1 : decode b_Qu_itemAt 1 = .ok (.iconst 3, 1) := by decide +kernel
theorem d_Qu_itemAt_2 : decode b_Qu_itemAt 2 = .ok (.imul, 1) := by decide +kernel
theorem d_Qu_itemAt_3 : decode b_Qu_itemAt 3 = .ok (.iload_n 2, 1) := by decide +kernel
theorem d_Qu_itemAt_4 : decode b_Qu_itemAt 4 = .ok (.iadd, 1) := by decide +kernel
theorem d_Qu_itemAt_5 : decode b_Qu_itemAt 5 = .ok (.istore_n 3, 1) := by decide +kernel
theorem d_Qu_itemAt_6 : decode b_Qu_itemAt 6 = .ok (.iload_n 3, 1) := by decide +kernel
theorem d_Qu_itemAt_7 : decode b_Qu_itemAt 7 = .ok (.ifCond .lt 21, 3) := by decide +kernel
theorem d_Qu_itemAt_10 : decode b_Qu_itemAt 10 = .ok (.iload_n 3, 1) := by decide +kernel
theorem d_Qu_itemAt_11 : decode b_Qu_itemAt 11 = .ok (.aload_n 0, 1) := by decide +kernel
theorem d_Qu_itemAt_12 : decode b_Qu_itemAt 12 = .ok (.getfield 9, 3) := by decide +kernel
theorem d_Qu_itemAt_15 : decode b_Qu_itemAt 15 = .ok (.arraylength, 1) := by decide +kernel
theorem d_Qu_itemAt_16 : decode b_Qu_itemAt 16 = .ok (.if_icmp .ge 12, 3) := by decide +kernel
theorem d_Qu_itemAt_19 : decode b_Qu_itemAt 19 = .ok (.aload_n 0, 1) := by decide +kernel
theorem d_Qu_itemAt_20 : decode b_Qu_itemAt 20 = .ok (.getfield 9, 3) := by decide +kernel
theorem d_Qu_itemAt_23 : decode b_Qu_itemAt 23 = .ok (.iload_n 3, 1) := by decide +kernel
theorem d_Qu_itemAt_24 : decode b_Qu_itemAt 24 = .ok (.iaload, 1) := by decide +kernel
theorem d_Qu_itemAt_25 : decode b_Qu_itemAt 25 = .ok (.goto 4, 3) := by decide +kernel
theorem d_Qu_itemAt_28 : decode b_Qu_itemAt 28 = .ok (.iconst 0, 1) := by decide +kernel
theorem d_Qu_itemAt_29 : decode b_Qu_itemAt 29 = .ok (.ireturn, 1) := by decide +kernel
theorem d_Qu_uses_0 : decode b_Qu_uses 0 = .ok (.aload_n 0, 1) := by decide +kernel
theorem d_Qu_uses_1 : decode b_Qu_uses 1 = .ok (.getfield 35, 3) := by decide +kernel
theorem d_Qu_uses_4 : decode b_Qu_uses 4 = .ok (.iload_n 1, 1) := by decide +kernel
theorem d_Qu_uses_5 : decode b_Qu_uses 5 = .ok (.ishr, 1) := by decide +kernel
theorem d_Qu_uses_6 : decode b_Qu_uses 6 = .ok (.iconst 1, 1) := by decide +kernel
theorem d_Qu_uses_7 : decode b_Qu_uses 7 = .ok (.iand, 1) := by decide +kernel
theorem d_Qu_uses_8 : decode b_Qu_uses 8 = .ok (.ifCond .eq 7, 3) := by decide +kernel
theorem d_Qu_uses_11 : decode b_Qu_uses 11 = .ok (.iconst 1, 1) := by decide +kernel
theorem d_Qu_uses_12 : decode b_Qu_uses 12 = .ok (.goto 4, 3) := by decide +kernel
theorem d_Qu_uses_15 : decode b_Qu_uses 15 = .ok (.iconst 0, 1) := by decide +kernel
theorem d_Qu_uses_16 : decode b_Qu_uses 16 = .ok (.ireturn, 1) := by decide +kernel
theorem d_Qu_use_0 : decode b_Qu_use 0 = .ok (.iload_n 1, 1) := by decide +kernel
theorem d_Qu_use_1 : decode b_Qu_use 1 = .ok (.ifCond .ge 17, 3) := by decide +kernel
theorem d_Qu_use_4 : decode b_Qu_use 4 = .ok (.aload_n 0, 1) := by decide +kernel
theorem d_Qu_use_5 : decode b_Qu_use 5 = .ok (.dup, 1) := by decide +kernel
theorem d_Qu_use_6 : decode b_Qu_use 6 = .ok (.getfield 35, 3) := by decide +kernel
theorem d_Qu_use_9 : decode b_Qu_use 9 = .ok (.iconst 1, 1) := by decide +kernel
theorem d_Qu_use_10 : decode b_Qu_use 10 = .ok (.iconst (-1), 1) := by decide +kernel
theorem d_Qu_use_11 : decode b_Qu_use 11 = .ok (.iload_n 1, 1) := by decide +kernel
theorem d_Qu_use_12 : decode b_Qu_use 12 = .ok (.isub, 1) := by decide +kernel
theorem d_Qu_use_13 : decode b_Qu_use 13 = .ok (.ishl, 1) := by decide +kernel
theorem d_Qu_use_14 : decode b_Qu_use 14 = .ok (.ior, 1) := by decide +kernel
theorem d_Qu_use_15 : decode b_Qu_use 15 = .ok (.putfield 35, 3) := by decide +kernel
theorem d_Qu_use_18 : decode b_Qu_use 18 = .ok (.return_, 1) := by decide +kernel
theorem d_Rs_init_0 : decode b_Rs_init 0 = .ok (.aload_n 0, 1) := by decide +kernel
theorem d_Rs_init_1 : decode b_Rs_init 1 = .ok (.invokespecial 3, 3) := by decide +kernel
theorem d_Rs_init_4 : decode b_Rs_init 4 = .ok (.aload_n 0, 1) := by decide +kernel
theorem d_Rs_init_5 : decode b_Rs_init 5 = .ok (.iload_n 1, 1) := by decide +kernel
theorem d_Rs_init_6 : decode b_Rs_init 6 = .ok (.iconst 0, 1) := by decide +kernel
theorem d_Rs_init_7 : decode b_Rs_init 7 = .ok (.invokestatic 9, 3) := by decide +kernel
theorem d_Rs_init_10 : decode b_Rs_init 10 = .ok (.newarray .int, 2) := by decide +kernel
theorem d_Rs_init_12 : decode b_Rs_init 12 = .ok (.putfield 15, 3) := by decide +kernel
theorem d_Rs_init_15 : decode b_Rs_init 15 = .ok (.return_, 1) := by decide +kernel
theorem d_Rs_clear_0 : decode b_Rs_clear 0 = .ok (.aload_n 0, 1) := by decide +kernel
theorem d_Rs_clear_1 : decode b_Rs_clear 1 = .ok (.iconst 0, 1) := by decide +kernel
theorem d_Rs_clear_2 : decode b_Rs_clear 2 = .ok (.putfield 21, 3) := by decide +kernel
theorem d_Rs_clear_5 : decode b_Rs_clear 5 = .ok (.return_, 1) := by decide +kernel
theorem d_Rs_isFull_0 : decode b_Rs_isFull 0 = .ok (.aload_n 0, 1) := by decide +kernel
theorem d_Rs_isFull_1 : decode b_Rs_isFull 1 = .ok (.getfield 21, 3) := by decide +kernel
theorem d_Rs_isFull_4 : decode b_Rs_isFull 4 = .ok (.aload_n 0, 1) := by decide +kernel
theorem d_Rs_isFull_5 : decode b_Rs_isFull 5 = .ok (.getfield 15, 3) := by decide +kernel
theorem d_Rs_isFull_8 : decode b_Rs_isFull 8 = .ok (.arraylength, 1) := by decide +kernel
theorem d_Rs_isFull_9 : decode b_Rs_isFull 9 = .ok (.if_icmp .lt 7, 3) := by decide +kernel
theorem d_Rs_isFull_12 : decode b_Rs_isFull 12 = .ok (.iconst 1, 1) := by decide +kernel
theorem d_Rs_isFull_13 : decode b_Rs_isFull 13 = .ok (.goto 4, 3) := by decide +kernel
theorem d_Rs_isFull_16 : decode b_Rs_isFull 16 = .ok (.iconst 0, 1) := by decide +kernel
theorem d_Rs_isFull_17 : decode b_Rs_isFull 17 = .ok (.ireturn, 1) := by decide +kernel
theorem d_Rs_add_0 : decode b_Rs_add 0 = .ok (.iload_n 2, 1) := by decide +kernel
theorem d_Rs_add_1 : decode b_Rs_add 1 = .ok (.ifCond .eq 35, 3) := by decide +kernel
theorem d_Rs_add_4 : decode b_Rs_add 4 = .ok (.aload_n 0, 1) := by decide +kernel
theorem d_Rs_add_5 : decode b_Rs_add 5 = .ok (.invokevirtual 25, 3) := by decide +kernel
theorem d_Rs_add_8 : decode b_Rs_add 8 = .ok (.ifCond .ne 28, 3) := by decide +kernel
theorem d_Rs_add_11 : decode b_Rs_add 11 = .ok (.aload_n 0, 1) := by decide +kernel
theorem d_Rs_add_12 : decode b_Rs_add 12 = .ok (.getfield 15, 3) := by decide +kernel
theorem d_Rs_add_15 : decode b_Rs_add 15 = .ok (.aload_n 0, 1) := by decide +kernel
theorem d_Rs_add_16 : decode b_Rs_add 16 = .ok (.getfield 21, 3) := by decide +kernel
theorem d_Rs_add_19 : decode b_Rs_add 19 = .ok (.iload_n 1, 1) := by decide +kernel
theorem d_Rs_add_20 : decode b_Rs_add 20 = .ok (.bipush 16, 2) := by decide +kernel
theorem d_Rs_add_22 : decode b_Rs_add 22 = .ok (.ishl, 1) := by decide +kernel
theorem d_Rs_add_23 : decode b_Rs_add 23 = .ok (.iload_n 2, 1) := by decide +kernel
theorem d_Rs_add_24 : decode b_Rs_add 24 = .ok (.ior, 1) := by decide +kernel
theorem d_Rs_add_25 : decode b_Rs_add 25 = .ok (.iastore, 1) := by decide +kernel
theorem d_Rs_add_26 : decode b_Rs_add 26 = .ok (.aload_n 0, 1) := by decide +kernel
theorem d_Rs_add_27 : decode b_Rs_add 27 = .ok (.dup, 1) := by decide +kernel
theorem d_Rs_add_28 : decode b_Rs_add 28 = .ok (.getfield 21, 3) := by decide +kernel
theorem d_Rs_add_31 : decode b_Rs_add 31 = .ok (.iconst 1, 1) := by decide +kernel
theorem d_Rs_add_32 : decode b_Rs_add 32 = .ok (.iadd, 1) := by decide +kernel
theorem d_Rs_add_33 : decode b_Rs_add 33 = .ok (.putfield 21, 3) := by decide +kernel
theorem d_Rs_add_36 : decode b_Rs_add 36 = .ok (.return_, 1) := by decide +kernel
theorem d_Rs_removeAll_0 : decode b_Rs_removeAll 0 = .ok (.iconst 0, 1) := by decide +kernel
theorem d_Rs_removeAll_1 : decode b_Rs_removeAll 1 = .ok (.istore_n 2, 1) := by decide +kernel
theorem d_Rs_removeAll_2 : decode b_Rs_removeAll 2 = .ok (.iconst 0, 1) := by decide +kernel
theorem d_Rs_removeAll_3 : decode b_Rs_removeAll 3 = .ok (.istore_n 3, 1) := by decide +kernel
theorem d_Rs_removeAll_4 : decode b_Rs_removeAll 4 = .ok (.iconst 0, 1) := by decide +kernel
theorem d_Rs_removeAll_5 : decode b_Rs_removeAll 5 = .ok (.istore 4, 2) := by decide +kernel
theorem d_Rs_removeAll_7 : decode b_Rs_removeAll 7 = .ok (.iload 4, 2) := by decide +kernel
theorem d_Rs_removeAll_9 : decode b_Rs_removeAll 9 = .ok (.aload_n 0, 1) := by decide +kernel
theorem d_Rs_removeAll_10 : decode b_Rs_removeAll 10 = .ok (.getfield 21, 3) := by decide +kernel
theorem d_Rs_removeAll_13 : decode b_Rs_removeAll 13 = .ok (.if_icmp .ge 109, 3) := by decide +kernel
theorem d_Rs_removeAll_16 : decode b_Rs_removeAll 16 = .ok (.aload_n 0, 1) := by decide +kernel
theorem d_Rs_removeAll_17 : decode b_Rs_removeAll 17 = .ok (.getfield 15, 3) := by decide +kernel
theorem d_Rs_removeAll_20 : decode b_Rs_removeAll 20 = .ok (.iload 4, 2) := by decide +kernel
theorem d_Rs_removeAll_22 : decode b_Rs_removeAll 22 = .ok (.iaload, 1) := by decide +kernel
theorem d_Rs_removeAll_23 : decode b_Rs_removeAll 23 = .ok (.istore 5, 2) := by decide +kernel
theorem d_Rs_removeAll_25 : decode b_Rs_removeAll 25 = .ok (.iload_n 3, 1) := by decide +kernel
theorem d_Rs_removeAll_26 : decode b_Rs_removeAll 26 = .ok (.aload_n 1, 1) := by decide +kernel
theorem d_Rs_removeAll_27 : decode b_Rs_removeAll 27 = .ok (.getfield 21, 3) := by decide +kernel
theorem d_Rs_removeAll_30 : decode b_Rs_removeAll 30 = .ok (.if_icmp .ge 26, 3) := by decide +kernel
theorem d_Rs_removeAll_33 : decode b_Rs_removeAll 33 = .ok (.aload_n 1, 1) := by decide +kernel
theorem d_Rs_removeAll_34 : decode b_Rs_removeAll 34 = .ok (.getfield 15, 3) := by decide +kernel
theorem d_Rs_removeAll_37 : decode b_Rs_removeAll 37 = .ok (.iload_n 3, 1) := by decide +kernel
theorem d_Rs_removeAll_38 : decode b_Rs_removeAll 38 = .ok (.iaload, 1) := by decide +kernel
theorem d_Rs_removeAll_39 : decode b_Rs_removeAll 39 = .ok (.bipush 16, 2) := by decide +kernel
theorem d_Rs_removeAll_41 : decode b_Rs_removeAll 41 = .ok (.ishr, 1) := by decide +kernel
theorem d_Rs_removeAll_42 : decode b_Rs_removeAll 42 = .ok (.iload 5, 2) := by decide +kernel
theorem d_Rs_removeAll_44 : decode b_Rs_removeAll 44 = .ok (.bipush 16, 2) := by decide +kernel
theorem d_Rs_removeAll_46 : decode b_Rs_removeAll 46 = .ok (.ishr, 1) := by decide +kernel
theorem d_Rs_removeAll_47 : decode b_Rs_removeAll 47 = .ok (.if_icmp .ge 9, 3) := by decide +kernel
theorem d_Rs_removeAll_50 : decode b_Rs_removeAll 50 = .ok (.iinc 3 1, 3) := by decide +kernel
theorem d_Rs_removeAll_53 : decode b_Rs_removeAll 53 = .ok (.goto (-28), 3) := by decide +kernel
theorem d_Rs_removeAll_56 : decode b_Rs_removeAll 56 = .ok (.iload_n 3, 1) := by decide +kernel
theorem d_Rs_removeAll_57 : decode b_Rs_removeAll 57 = .ok (.aload_n 1, 1) := by decide +kernel
theorem d_Rs_removeAll_58 : decode b_Rs_removeAll 58 = .ok (.getfield 21, 3) := by decide +kernel
theorem d_Rs_removeAll_61 : decode b_Rs_removeAll 61 = .ok (.if_icmp .ge 36, 3) := by decide +kernel
theorem d_Rs_removeAll_64 : decode b_Rs_removeAll 64 = .ok (.aload_n 1, 1) := by decide +kernel
theorem d_Rs_removeAll_65 : decode b_Rs_removeAll 65 = .ok (.getfield 15, 3) := by decide +kernel
theorem d_Rs_removeAll_68 : decode b_Rs_removeAll 68 = .ok (.iload_n 3, 1) := by decide +kernel
theorem d_Rs_removeAll_69 : decode b_Rs_removeAll 69 = .ok (.iaload, 1) := by decide +kernel
theorem d_Rs_removeAll_70 : decode b_Rs_removeAll 70 = .ok (.bipush 16, 2) := by decide +kernel
theorem d_Rs_removeAll_72 : decode b_Rs_removeAll 72 = .ok (.ishr, 1) := by decide +kernel
theorem d_Rs_removeAll_73 : decode b_Rs_removeAll 73 = .ok (.iload 5, 2) := by decide +kernel
theorem d_Rs_removeAll_75 : decode b_Rs_removeAll 75 = .ok (.bipush 16, 2) := by decide +kernel
theorem d_Rs_removeAll_77 : decode b_Rs_removeAll 77 = .ok (.ishr, 1) := by decide +kernel
theorem d_Rs_removeAll_78 : decode b_Rs_removeAll 78 = .ok (.if_icmp .ne 19, 3) := by decide +kernel
theorem d_Rs_removeAll_81 : decode b_Rs_removeAll 81 = .ok (.iload 5, 2) := by decide +kernel
theorem d_Rs_removeAll_83 : decode b_Rs_removeAll 83 = .ok (.aload_n 1, 1) := by decide +kernel
theorem d_Rs_removeAll_84 : decode b_Rs_removeAll 84 = .ok (.getfield 15, 3) := by decide +kernel
theorem d_Rs_removeAll_87 : decode b_Rs_removeAll 87 = .ok (.iload_n 3, 1) := by decide +kernel
theorem d_Rs_removeAll_88 : decode b_Rs_removeAll 88 = .ok (.iaload, 1) := by decide +kernel
theorem d_Rs_removeAll_89 : decode b_Rs_removeAll 89 = .ok (.ldc 29, 2) := by decide +kernel
theorem d_Rs_removeAll_91 : decode b_Rs_removeAll 91 = .ok (.iand, 1) := by decide +kernel
theorem d_Rs_removeAll_92 : decode b_Rs_removeAll 92 = .ok (.iconst (-1), 1) := by decide +kernel
theorem d_Rs_removeAll_93 : decode b_Rs_removeAll 93 = .ok (.ixor, 1) := by decide +kernel
theorem d_Rs_removeAll_94 : decode b_Rs_removeAll 94 = .ok (.iand, 1) := by decide +kernel
theorem d_Rs_removeAll_95 : decode b_Rs_removeAll 95 = .ok (.istore 5, 2) := by decide +kernel
theorem d_Rs_removeAll_97 : decode b_Rs_removeAll 97 = .ok (.iload 5, 2) := by decide +kernel
theorem d_Rs_removeAll_99 : decode b_Rs_removeAll 99 = .ok (.ldc 29, 2) := by decide +kernel
theorem d_Rs_removeAll_101 : decode b_Rs_removeAll 101 = .ok (.iand, 1) := by decide +kernel
theorem d_Rs_removeAll_102 : decode b_Rs_removeAll 102 = .ok (.ifCond .eq 14, 3) := by decide +kernel
theorem d_Rs_removeAll_105 : decode b_Rs_removeAll 105 = .ok (.aload_n 0, 1) := by decide +kernel
theorem d_Rs_removeAll_106 : decode b_Rs_removeAll 106 = .ok (.getfield 15, 3) := by decide +kernel
theorem d_Rs_removeAll_109 : decode b_Rs_removeAll 109 = .ok (.iload_n 2, 1) := by decide +kernel
theorem d_Rs_removeAll_110 : decode b_Rs_removeAll 110 = .ok (.iload 5, 2) := by decide +kernel
theorem d_Rs_removeAll_112 : decode b_Rs_removeAll 112 = .ok (.iastore, 1) := by decide +kernel
theorem d_Rs_removeAll_113 : decode b_Rs_removeAll 113 = .ok (.iinc 2 1, 3) := by decide +kernel
theorem d_Rs_removeAll_116 : decode b_Rs_removeAll 116 = .ok (.iinc 4 1, 3) := by decide +kernel
theorem d_Rs_removeAll_119 : decode b_Rs_removeAll 119 = .ok (.goto (-112), 3) := by decide +kernel
theorem d_Rs_removeAll_122 : decode b_Rs_removeAll 122 = .ok (.aload_n 0, 1) := by decide +kernel
theorem d_Rs_removeAll_123 : decode b_Rs_removeAll 123 = .ok (.iload_n 2, 1) := by decide +kernel
theorem d_Rs_removeAll_124 : decode b_Rs_removeAll 124 = .ok (.putfield 21, 3) := by decide +kernel
theorem d_Rs_removeAll_127 : decode b_Rs_removeAll 127 = .ok (.return_, 1) := by decide +kernel
theorem d_Rs_isSameAs_0 : decode b_Rs_isSameAs 0 = .ok (.aload_n 0, 1) := by decide +kernel
theorem d_Rs_isSameAs_1 : decode b_Rs_isSameAs 1 = .ok (.getfield 21, 3) := by decide +kernel
theorem d_Rs_isSameAs_4 : decode b_Rs_isSameAs 4 = .ok (.aload_n 1, 1) := by decide +kernel
theorem d_Rs_isSameAs_5 : decode b_Rs_isSameAs 5 = .ok (.getfield 21, 3) := by decide +kernel
theorem d_Rs_isSameAs_8 : decode b_Rs_isSameAs 8 = .ok (.if_icmp .eq 5, 3) := by decide +kernel
theorem d_Rs_isSameAs_11 : decode b_Rs_isSameAs 11 = .ok (.iconst 0, 1) := by decide +kernel
theorem d_Rs_isSameAs_12 : decode b_Rs_isSameAs 12 = .ok (.ireturn, 1) := by decide +kernel
theorem d_Rs_isSameAs_13 : decode b_Rs_isSameAs 13 = .ok (.iconst 0, 1) := by decide +kernel
theorem d_Rs_isSameAs_14 : decode b_Rs_isSameAs 14 = .ok (.istore_n 2, 1) := by decide +kernel
theorem d_Rs_isSameAs_15 : decode b_Rs_isSameAs 15 = .ok (.iload_n 2, 1) := by decide +kernel
theorem d_Rs_isSameAs_16 : decode b_Rs_isSameAs 16 = .ok (.aload_n 0, 1) := by decide +kernel
theorem d_Rs_isSameAs_17 : decode b_Rs_isSameAs 17 = .ok (.getfield 21, 3) := by decide +kernel
theorem d_Rs_isSameAs_20 : decode b_Rs_isSameAs 20 = .ok (.if_icmp .ge 26, 3) := by decide +kernel
theorem d_Rs_isSameAs_23 : decode b_Rs_isSameAs 23 = .ok (.aload_n 0, 1) := by decide +kernel
theorem d_Rs_isSameAs_24 : decode b_Rs_isSameAs 24 = .ok (.getfield 15, 3) := by decide +kernel
theorem d_Rs_isSameAs_27 : decode b_Rs_isSameAs 27 = .ok (.iload_n 2, 1) := by decide +kernel
theorem d_Rs_isSameAs_28 : decode b_Rs_isSameAs 28 = .ok (.iaload, 1) := by decide +kernel
theorem d_Rs_isSameAs_29 : decode b_Rs_isSameAs 29 = .ok (.aload_n 1, 1) := by decide +kernel
theorem d_Rs_isSameAs_30 : decode b_Rs_isSameAs 30 = .ok (.getfield 15, 3) := by decide +kernel
theorem d_Rs_isSameAs_33 : decode b_Rs_isSameAs 33 = .ok (.iload_n 2, 1) := by decide +kernel
theorem d_Rs_isSameAs_34 : decode b_Rs_isSameAs 34 = .ok (.iaload, 1) := by decide +kernel
theorem d_Rs_isSameAs_35 : decode b_Rs_isSameAs 35 = .ok (.if_icmp .eq 5, 3) := by decide +kernel
theorem d_Rs_isSameAs_38 : decode b_Rs_isSameAs 38 = .ok (.iconst 0, 1) := by decide +kernel
theorem d_Rs_isSameAs_39 : decode b_Rs_isSameAs 39 = .ok (.ireturn, 1) := by decide +kernel
theorem d_Rs_isSameAs_40 : decode b_Rs_isSameAs 40 = .ok (.iinc 2 1, 3) := by decide +kernel
theorem d_Rs_isSameAs_43 : decode b_Rs_isSameAs 43 = .ok (.goto (-28), 3) := by decide +kernel
theorem d_Rs_isSameAs_46 : decode b_Rs_isSameAs 46 = .ok (.iconst 1, 1) := by decide +kernel
theorem d_Rs_isSameAs_47 : decode b_Rs_isSameAs 47 = .ok (.ireturn, 1) := by decide +kernel
theorem d_Rs_count_0 : decode b_Rs_count 0 = .ok (.iconst 0, 1) := by decide +kernel
theorem d_Rs_count_1 : decode b_Rs_count 1 = .ok (.istore_n 1, 1) := by decide +kernel
theorem d_Rs_count_2 : decode b_Rs_count 2 = .ok (.iconst 0, 1) := by decide +kernel
theorem d_Rs_count_3 : decode b_Rs_count 3 = .ok (.istore_n 2, 1) := by decide +kernel
theorem d_Rs_count_4 : decode b_Rs_count 4 = .ok (.iload_n 2, 1) := by decide +kernel
theorem d_Rs_count_5 : decode b_Rs_count 5 = .ok (.aload_n 0, 1) := by decide +kernel
theorem d_Rs_count_6 : decode b_Rs_count 6 = .ok (.getfield 21, 3) := by decide +kernel
theorem d_Rs_count_9 : decode b_Rs_count 9 = .ok (.if_icmp .ge 24, 3) := by decide +kernel
theorem d_Rs_count_12 : decode b_Rs_count 12 = .ok (.iload_n 1, 1) := by decide +kernel
theorem d_Rs_count_13 : decode b_Rs_count 13 = .ok (.aload_n 0, 1) := by decide +kernel
theorem d_Rs_count_14 : decode b_Rs_count 14 = .ok (.getfield 15, 3) := by decide +kernel
theorem d_Rs_count_17 : decode b_Rs_count 17 = .ok (.iload_n 2, 1) := by decide +kernel
theorem d_Rs_count_18 : decode b_Rs_count 18 = .ok (.iaload, 1) := by decide +kernel
theorem d_Rs_count_19 : decode b_Rs_count 19 = .ok (.ldc 29, 2) := by decide +kernel
theorem d_Rs_count_21 : decode b_Rs_count 21 = .ok (.iand, 1) := by decide +kernel
theorem d_Rs_count_22 : decode b_Rs_count 22 = .ok (.invokestatic 30, 3) := by decide +kernel
theorem d_Rs_count_25 : decode b_Rs_count 25 = .ok (.iadd, 1) := by decide +kernel
theorem d_Rs_count_26 : decode b_Rs_count 26 = .ok (.istore_n 1, 1) := by decide +kernel
theorem d_Rs_count_27 : decode b_Rs_count 27 = .ok (.iinc 2 1, 3) := by decide +kernel
theorem d_Rs_count_30 : decode b_Rs_count 30 = .ok (.goto (-26), 3) := by decide +kernel
theorem d_Rs_count_33 : decode b_Rs_count 33 = .ok (.iload_n 1, 1) := by decide +kernel
theorem d_Rs_count_34 : decode b_Rs_count 34 = .ok (.ireturn, 1) := by decide +kernel
theorem d_Rs_keyAt_0 : decode b_Rs_keyAt 0 = .ok (.iload_n 1, 1) := by decide +kernel
theorem d_Rs_keyAt_1 : decode b_Rs_keyAt 1 = .ok (.istore_n 2, 1) := by decide +kernel
theorem d_Rs_keyAt_2 : decode b_Rs_keyAt 2 = .ok (.iconst 0, 1) := by decide +kernel
theorem d_Rs_keyAt_3 : decode b_Rs_keyAt 3 = .ok (.istore_n 3, 1) := by decide +kernel
theorem d_Rs_keyAt_4 : decode b_Rs_keyAt 4 = .ok (.iload_n 3, 1) := by decide +kernel
theorem d_Rs_keyAt_5 : decode b_Rs_keyAt 5 = .ok (.aload_n 0, 1) := by decide +kernel
theorem d_Rs_keyAt_6 : decode b_Rs_keyAt 6 = .ok (.getfield 21, 3) := by decide +kernel
theorem d_Rs_keyAt_9 : decode b_Rs_keyAt 9 = .ok (.if_icmp .ge 62, 3) := by decide +kernel
theorem d_Rs_keyAt_12 : decode b_Rs_keyAt 12 = .ok (.iload_n 2, 1) := by decide +kernel
theorem d_Rs_keyAt_13 : decode b_Rs_keyAt 13 = .ok (.ifCond .lt 58, 3) := by decide +kernel
theorem d_Rs_keyAt_16 : decode b_Rs_keyAt 16 = .ok (.aload_n 0, 1) := by decide +kernel
theorem d_Rs_keyAt_17 : decode b_Rs_keyAt 17 = .ok (.getfield 15, 3) := by decide +kernel
theorem d_Rs_keyAt_20 : decode b_Rs_keyAt 20 = .ok (.iload_n 3, 1) := by decide +kernel
theorem d_Rs_keyAt_21 : decode b_Rs_keyAt 21 = .ok (.iaload, 1) := by decide +kernel
theorem d_Rs_keyAt_22 : decode b_Rs_keyAt 22 = .ok (.ldc 29, 2) := by decide +kernel
theorem d_Rs_keyAt_24 : decode b_Rs_keyAt 24 = .ok (.iand, 1) := by decide +kernel
theorem d_Rs_keyAt_25 : decode b_Rs_keyAt 25 = .ok (.invokestatic 30, 3) := by decide +kernel
theorem d_Rs_keyAt_28 : decode b_Rs_keyAt 28 = .ok (.istore 4, 2) := by decide +kernel
theorem d_Rs_keyAt_30 : decode b_Rs_keyAt 30 = .ok (.iload_n 2, 1) := by decide +kernel
theorem d_Rs_keyAt_31 : decode b_Rs_keyAt 31 = .ok (.iload 4, 2) := by decide +kernel
theorem d_Rs_keyAt_33 : decode b_Rs_keyAt 33 = .ok (.if_icmp .ge 27, 3) := by decide +kernel
theorem d_Rs_keyAt_36 : decode b_Rs_keyAt 36 = .ok (.aload_n 0, 1) := by decide +kernel
theorem d_Rs_keyAt_37 : decode b_Rs_keyAt 37 = .ok (.getfield 15, 3) := by decide +kernel
theorem d_Rs_keyAt_40 : decode b_Rs_keyAt 40 = .ok (.iload_n 3, 1) := by decide +kernel
theorem d_Rs_keyAt_41 : decode b_Rs_keyAt 41 = .ok (.iaload, 1) := by decide +kernel
theorem d_Rs_keyAt_42 : decode b_Rs_keyAt 42 = .ok (.bipush 16, 2) := by decide +kernel
theorem d_Rs_keyAt_44 : decode b_Rs_keyAt 44 = .ok (.ishr, 1) := by decide +kernel
theorem d_Rs_keyAt_45 : decode b_Rs_keyAt 45 = .ok (.bipush 16, 2) := by decide +kernel
theorem d_Rs_keyAt_47 : decode b_Rs_keyAt 47 = .ok (.imul, 1) := by decide +kernel
theorem d_Rs_keyAt_48 : decode b_Rs_keyAt 48 = .ok (.aload_n 0, 1) := by decide +kernel
theorem d_Rs_keyAt_49 : decode b_Rs_keyAt 49 = .ok (.getfield 15, 3) := by decide +kernel
theorem d_Rs_keyAt_52 : decode b_Rs_keyAt 52 = .ok (.iload_n 3, 1) := by decide +kernel
theorem d_Rs_keyAt_53 : decode b_Rs_keyAt 53 = .ok (.iaload, 1) := by decide +kernel
theorem d_Rs_keyAt_54 : decode b_Rs_keyAt 54 = .ok (.iload_n 2, 1) := by decide +kernel
theorem d_Rs_keyAt_55 : decode b_Rs_keyAt 55 = .ok (.invokestatic 36, 3) := by decide +kernel
theorem d_Rs_keyAt_58 : decode b_Rs_keyAt 58 = .ok (.iadd, 1) := by decide +kernel
theorem d_Rs_keyAt_59 : decode b_Rs_keyAt 59 = .ok (.ireturn, 1) := by decide +kernel
theorem d_Rs_keyAt_60 : decode b_Rs_keyAt 60 = .ok (.iload_n 2, 1) := by decide +kernel
theorem d_Rs_keyAt_61 : decode b_Rs_keyAt 61 = .ok (.iload 4, 2) := by decide +kernel
theorem d_Rs_keyAt_63 : decode b_Rs_keyAt 63 = .ok (.isub, 1) := by decide +kernel
theorem d_Rs_keyAt_64 : decode b_Rs_keyAt 64 = .ok (.istore_n 2, 1) := by decide +kernel
theorem d_Rs_keyAt_65 : decode b_Rs_keyAt 65 = .ok (.iinc 3 1, 3) := by decide +kernel
theorem d_Rs_keyAt_68 : decode b_Rs_keyAt 68 = .ok (.goto (-64), 3) := by decide +kernel
theorem d_Rs_keyAt_71 : decode b_Rs_keyAt 71 = .ok (.bipush (-2), 2) := by decide +kernel
theorem d_Rs_keyAt_73 : decode b_Rs_keyAt 73 = .ok (.ireturn, 1) := by decide +kernel
theorem d_Rs_sumOf_0 : decode b_Rs_sumOf 0 = .ok (.iconst 0, 1) := by decide +kernel
theorem d_Rs_sumOf_1 : decode b_Rs_sumOf 1 = .ok (.istore_n 2, 1) := by decide +kernel
theorem d_Rs_sumOf_2 : decode b_Rs_sumOf 2 = .ok (.iconst 0, 1) := by decide +kernel
theorem d_Rs_sumOf_3 : decode b_Rs_sumOf 3 = .ok (.istore_n 3, 1) := by decide +kernel
theorem d_Rs_sumOf_4 : decode b_Rs_sumOf 4 = .ok (.iload_n 3, 1) := by decide +kernel
theorem d_Rs_sumOf_5 : decode b_Rs_sumOf 5 = .ok (.aload_n 0, 1) := by decide +kernel
theorem d_Rs_sumOf_6 : decode b_Rs_sumOf 6 = .ok (.getfield 21, 3) := by decide +kernel
theorem d_Rs_sumOf_9 : decode b_Rs_sumOf 9 = .ok (.if_icmp .ge 84, 3) := by decide +kernel
theorem d_Rs_sumOf_12 : decode b_Rs_sumOf 12 = .ok (.aload_n 0, 1) := by decide +kernel
theorem d_Rs_sumOf_13 : decode b_Rs_sumOf 13 = .ok (.getfield 15, 3) := by decide +kernel
theorem d_Rs_sumOf_16 : decode b_Rs_sumOf 16 = .ok (.iload_n 3, 1) := by decide +kernel
theorem d_Rs_sumOf_17 : decode b_Rs_sumOf 17 = .ok (.iaload, 1) := by decide +kernel
theorem d_Rs_sumOf_18 : decode b_Rs_sumOf 18 = .ok (.iload_n 1, 1) := by decide +kernel
theorem d_Rs_sumOf_19 : decode b_Rs_sumOf 19 = .ok (.invokestatic 39, 3) := by decide +kernel
theorem d_Rs_sumOf_22 : decode b_Rs_sumOf 22 = .ok (.istore 4, 2) := by decide +kernel
theorem d_Rs_sumOf_24 : decode b_Rs_sumOf 24 = .ok (.iload_n 1, 1) := by decide +kernel
theorem d_Rs_sumOf_25 : decode b_Rs_sumOf 25 = .ok (.iconst 4, 1) := by decide +kernel
theorem d_Rs_sumOf_26 : decode b_Rs_sumOf 26 = .ok (.if_icmp .ge 18, 3) := by decide +kernel
theorem d_Rs_sumOf_29 : decode b_Rs_sumOf 29 = .ok (.aload_n 0, 1) := by decide +kernel
theorem d_Rs_sumOf_30 : decode b_Rs_sumOf 30 = .ok (.getfield 15, 3) := by decide +kernel
theorem d_Rs_sumOf_33 : decode b_Rs_sumOf 33 = .ok (.iload_n 3, 1) := by decide +kernel
theorem d_Rs_sumOf_34 : decode b_Rs_sumOf 34 = .ok (.iaload, 1) := by decide +kernel
theorem d_Rs_sumOf_35 : decode b_Rs_sumOf 35 = .ok (.ldc 29, 2) := by decide +kernel
theorem d_Rs_sumOf_37 : decode b_Rs_sumOf 37 = .ok (.iand, 1) := by decide +kernel
theorem d_Rs_sumOf_38 : decode b_Rs_sumOf 38 = .ok (.invokestatic 30, 3) := by decide +kernel
theorem d_Rs_sumOf_41 : decode b_Rs_sumOf 41 = .ok (.goto 4, 3) := by decide +kernel
theorem d_Rs_sumOf_44 : decode b_Rs_sumOf 44 = .ok (.iconst 1, 1) := by decide +kernel
theorem d_Rs_sumOf_45 : decode b_Rs_sumOf 45 = .ok (.istore 5, 2) := by decide +kernel
theorem d_Rs_sumOf_47 : decode b_Rs_sumOf 47 = .ok (.iconst 0, 1) := by decide +kernel
theorem d_Rs_sumOf_48 : decode b_Rs_sumOf 48 = .ok (.istore 6, 2) := by decide +kernel
theorem d_Rs_sumOf_50 : decode b_Rs_sumOf 50 = .ok (.iload 6, 2) := by decide +kernel
theorem d_Rs_sumOf_52 : decode b_Rs_sumOf 52 = .ok (.bipush 16, 2) := by decide +kernel
theorem d_Rs_sumOf_54 : decode b_Rs_sumOf 54 = .ok (.if_icmp .ge 33, 3) := by decide +kernel
theorem d_Rs_sumOf_57 : decode b_Rs_sumOf 57 = .ok (.iload 4, 2) := by decide +kernel
theorem d_Rs_sumOf_59 : decode b_Rs_sumOf 59 = .ok (.iload 6, 2) := by decide +kernel
theorem d_Rs_sumOf_61 : decode b_Rs_sumOf 61 = .ok (.ishr, 1) := by decide +kernel
theorem d_Rs_sumOf_62 : decode b_Rs_sumOf 62 = .ok (.ifCond .eq 25, 3) := by decide +kernel
theorem d_Rs_sumOf_65 : decode b_Rs_sumOf 65 = .ok (.iload_n 2, 1) := by decide +kernel
theorem d_Rs_sumOf_66 : decode b_Rs_sumOf 66 = .ok (.iload 4, 2) := by decide +kernel
theorem d_Rs_sumOf_68 : decode b_Rs_sumOf 68 = .ok (.iload 6, 2) := by decide +kernel
theorem d_Rs_sumOf_70 : decode b_Rs_sumOf 70 = .ok (.ishr, 1) := by decide +kernel
theorem d_Rs_sumOf_71 : decode b_Rs_sumOf 71 = .ok (.iconst 1, 1) := by decide +kernel
theorem d_Rs_sumOf_72 : decode b_Rs_sumOf 72 = .ok (.iand, 1) := by decide +kernel
theorem d_Rs_sumOf_73 : decode b_Rs_sumOf 73 = .ok (.iload 6, 2) := by decide +kernel
theorem d_Rs_sumOf_75 : decode b_Rs_sumOf 75 = .ok (.imul, 1) := by decide +kernel
theorem d_Rs_sumOf_76 : decode b_Rs_sumOf 76 = .ok (.iload 5, 2) := by decide +kernel
theorem d_Rs_sumOf_78 : decode b_Rs_sumOf 78 = .ok (.imul, 1) := by decide +kernel
theorem d_Rs_sumOf_79 : decode b_Rs_sumOf 79 = .ok (.iadd, 1) := by decide +kernel
theorem d_Rs_sumOf_80 : decode b_Rs_sumOf 80 = .ok (.istore_n 2, 1) := by decide +kernel
theorem d_Rs_sumOf_81 : decode b_Rs_sumOf 81 = .ok (.iinc 6 1, 3) := by decide +kernel
theorem d_Rs_sumOf_84 : decode b_Rs_sumOf 84 = .ok (.goto (-34), 3) := by decide +kernel
theorem d_Rs_sumOf_87 : decode b_Rs_sumOf 87 = .ok (.iinc 3 1, 3) := by decide +kernel
theorem d_Rs_sumOf_90 : decode b_Rs_sumOf 90 = .ok (.goto (-86), 3) := by decide +kernel
theorem d_Rs_sumOf_93 : decode b_Rs_sumOf 93 = .ok (.iload_n 2, 1) := by decide +kernel
theorem d_Rs_sumOf_94 : decode b_Rs_sumOf 94 = .ok (.ireturn, 1) := by decide +kernel
theorem d_Rs_leastOf_0 : decode b_Rs_leastOf 0 = .ok (.aload_n 0, 1) := by decide +kernel
theorem d_Rs_leastOf_1 : decode b_Rs_leastOf 1 = .ok (.iload_n 1, 1) := by decide +kernel
theorem d_Rs_leastOf_2 : decode b_Rs_leastOf 2 = .ok (.invokevirtual 42, 3) := by decide +kernel
theorem d_Rs_leastOf_5 : decode b_Rs_leastOf 5 = .ok (.istore_n 2, 1) := by decide +kernel
theorem d_Rs_leastOf_6 : decode b_Rs_leastOf 6 = .ok (.iload_n 2, 1) := by decide +kernel
theorem d_Rs_leastOf_7 : decode b_Rs_leastOf 7 = .ok (.ifCond .ne 8, 3) := by decide +kernel
theorem d_Rs_leastOf_10 : decode b_Rs_leastOf 10 = .ok (.bipush (-2), 2) := by decide +kernel
theorem d_Rs_leastOf_12 : decode b_Rs_leastOf 12 = .ok (.goto 8, 3) := by decide +kernel
theorem d_Rs_leastOf_15 : decode b_Rs_leastOf 15 = .ok (.iload_n 2, 1) := by decide +kernel
theorem d_Rs_leastOf_16 : decode b_Rs_leastOf 16 = .ok (.iconst 0, 1) := by decide +kernel
theorem d_Rs_leastOf_17 : decode b_Rs_leastOf 17 = .ok (.invokestatic 36, 3) := by decide +kernel
theorem d_Rs_leastOf_20 : decode b_Rs_leastOf 20 = .ok (.ireturn, 1) := by decide +kernel
theorem d_Rs_greatestOf_0 : decode b_Rs_greatestOf 0 = .ok (.aload_n 0, 1) := by decide +kernel
theorem d_Rs_greatestOf_1 : decode b_Rs_greatestOf 1 = .ok (.iload_n 1, 1) := by decide +kernel
theorem d_Rs_greatestOf_2 : decode b_Rs_greatestOf 2 = .ok (.invokevirtual 42, 3) := by decide +kernel
theorem d_Rs_greatestOf_5 : decode b_Rs_greatestOf 5 = .ok (.istore_n 2, 1) := by decide +kernel
theorem d_Rs_greatestOf_6 : decode b_Rs_greatestOf 6 = .ok (.iload_n 2, 1) := by decide +kernel
theorem d_Rs_greatestOf_7 : decode b_Rs_greatestOf 7 = .ok (.ifCond .ne 8, 3) := by decide +kernel
theorem d_Rs_greatestOf_10 : decode b_Rs_greatestOf 10 = .ok (.bipush (-2), 2) := by decide +kernel
theorem d_Rs_greatestOf_12 : decode b_Rs_greatestOf 12 = .ok (.goto 13, 3) := by decide +kernel
theorem d_Rs_greatestOf_15 : decode b_Rs_greatestOf 15 = .ok (.iload_n 2, 1) := by decide +kernel
theorem d_Rs_greatestOf_16 : decode b_Rs_greatestOf 16 = .ok (.iload_n 2, 1) := by decide +kernel
theorem d_Rs_greatestOf_17 : decode b_Rs_greatestOf 17 = .ok (.invokestatic 30, 3) := by decide +kernel
theorem d_Rs_greatestOf_20 : decode b_Rs_greatestOf 20 = .ok (.iconst 1, 1) := by decide +kernel
theorem d_Rs_greatestOf_21 : decode b_Rs_greatestOf 21 = .ok (.isub, 1) := by decide +kernel
theorem d_Rs_greatestOf_22 : decode b_Rs_greatestOf 22 = .ok (.invokestatic 36, 3) := by decide +kernel
theorem d_Rs_greatestOf_25 : decode b_Rs_greatestOf 25 = .ok (.ireturn, 1) := by decide +kernel
theorem d_Rs_allValuesOf_0 : decode b_Rs_allValuesOf 0 = .ok (.iconst 0, 1) := by decide +kernel
theorem d_Rs_allValuesOf_1 : decode b_Rs_allValuesOf 1 = .ok (.istore_n 2, 1) := by decide +kernel
theorem d_Rs_allValuesOf_2 : decode b_Rs_allValuesOf 2 = .ok (.iconst 0, 1) := by decide +kernel
theorem d_Rs_allValuesOf_3 : decode b_Rs_allValuesOf 3 = .ok (.istore_n 3, 1) := by decide +kernel
theorem d_Rs_allValuesOf_4 : decode b_Rs_allValuesOf 4 = .ok (.iload_n 3, 1) := by decide +kernel
theorem d_Rs_allValuesOf_5 : decode b_Rs_allValuesOf 5 = .ok (.aload_n 0, 1) := by decide +kernel
theorem d_Rs_allValuesOf_6 : decode b_Rs_allValuesOf 6 = .ok (.getfield 21, 3) := by decide +kernel
theorem d_Rs_allValuesOf_9 : decode b_Rs_allValuesOf 9 = .ok (.if_icmp .ge 22, 3) := by decide +kernel
theorem d_Rs_allValuesOf_12 : decode b_Rs_allValuesOf 12 = .ok (.iload_n 2, 1) := by decide +kernel
theorem d_Rs_allValuesOf_13 : decode b_Rs_allValuesOf 13 = .ok (.aload_n 0, 1) := by decide +kernel
theorem d_Rs_allValuesOf_14 : decode b_Rs_allValuesOf 14 = .ok (.getfield 15, 3) := by decide +kernel
theorem d_Rs_allValuesOf_17 : decode b_Rs_allValuesOf 17 = .ok (.iload_n 3, 1) := by decide +kernel
theorem d_Rs_allValuesOf_18 : decode b_Rs_allValuesOf 18 = .ok (.iaload, 1) := by decide +kernel
theorem d_Rs_allValuesOf_19 : decode b_Rs_allValuesOf 19 = .ok (.iload_n 1, 1) := by decide +kernel
theorem d_Rs_allValuesOf_20 : decode b_Rs_allValuesOf 20 = .ok (.invokestatic 39, 3) := by decide +kernel
theorem d_Rs_allValuesOf_23 : decode b_Rs_allValuesOf 23 = .ok (.ior, 1) := by decide +kernel
theorem d_Rs_allValuesOf_24 : decode b_Rs_allValuesOf 24 = .ok (.istore_n 2, 1) := by decide +kernel
theorem d_Rs_allValuesOf_25 : decode b_Rs_allValuesOf 25 = .ok (.iinc 3 1, 3) := by decide +kernel
theorem d_Rs_allValuesOf_28 : decode b_Rs_allValuesOf 28 = .ok (.goto (-24), 3) := by decide +kernel
theorem d_Rs_allValuesOf_31 : decode b_Rs_allValuesOf 31 = .ok (.iload_n 2, 1) := by decide +kernel
theorem d_Rs_allValuesOf_32 : decode b_Rs_allValuesOf 32 = .ok (.ireturn, 1) := by decide +kernel
theorem d_Rs_valuesOf_0 : decode b_Rs_valuesOf 0 = .ok (.iload_n 1, 1) := by decide +kernel
theorem d_Rs_valuesOf_1 : decode b_Rs_valuesOf 1 = .ok (.iconst 4, 1) := by decide +kernel
theorem d_Rs_valuesOf_2 : decode b_Rs_valuesOf 2 = .ok (.if_icmp .lt 8, 3) := by decide +kernel
theorem d_Rs_valuesOf_5 : decode b_Rs_valuesOf 5 = .ok (.iload_n 0, 1) := by decide +kernel
theorem d_Rs_valuesOf_6 : decode b_Rs_valuesOf 6 = .ok (.ldc 29, 2) := by decide +kernel
theorem d_Rs_valuesOf_8 : decode b_Rs_valuesOf 8 = .ok (.iand, 1) := by decide +kernel
theorem d_Rs_valuesOf_9 : decode b_Rs_valuesOf 9 = .ok (.ireturn, 1) := by decide +kernel
theorem d_Rs_valuesOf_10 : decode b_Rs_valuesOf 10 = .ok (.iload_n 0, 1) := by decide +kernel
theorem d_Rs_valuesOf_11 : decode b_Rs_valuesOf 11 = .ok (.bipush 16, 2) := by decide +kernel
theorem d_Rs_valuesOf_13 : decode b_Rs_valuesOf 13 = .ok (.ishr, 1) := by decide +kernel
theorem d_Rs_valuesOf_14 : decode b_Rs_valuesOf 14 = .ok (.istore_n 2, 1) := by decide +kernel
theorem d_Rs_valuesOf_15 : decode b_Rs_valuesOf 15 = .ok (.iconst 1, 1) := by decide +kernel
theorem d_Rs_valuesOf_16 : decode b_Rs_valuesOf 16 = .ok (.iload_n 2, 1) := by decide +kernel
theorem d_Rs_valuesOf_17 : decode b_Rs_valuesOf 17 = .ok (.iconst 4, 1) := by decide +kernel
theorem d_Rs_valuesOf_18 : decode b_Rs_valuesOf 18 = .ok (.iconst 3, 1) := by decide +kernel
theorem d_Rs_valuesOf_19 : decode b_Rs_valuesOf 19 = .ok (.iload_n 1, 1) := by decide +kernel
theorem d_Rs_valuesOf_20 : decode b_Rs_valuesOf 20 = .ok (.isub, 1) := by decide +kernel
theorem d_Rs_valuesOf_21 : decode b_Rs_valuesOf 21 = .ok (.imul, 1) := by decide +kernel
theorem d_Rs_valuesOf_22 : decode b_Rs_valuesOf 22 = .ok (.ishr, 1) := by decide +kernel
theorem d_Rs_valuesOf_23 : decode b_Rs_valuesOf 23 = .ok (.bipush 15, 2) := by decide +kernel
theorem d_Rs_valuesOf_25 : decode b_Rs_valuesOf 25 = .ok (.iand, 1) := by decide +kernel
theorem d_Rs_valuesOf_26 : decode b_Rs_valuesOf 26 = .ok (.ishl, 1) := by decide +kernel
theorem d_Rs_valuesOf_27 : decode b_Rs_valuesOf 27 = .ok (.ireturn, 1) := by decide +kernel
theorem d_Rs_bitAt_0 : decode b_Rs_bitAt 0 = .ok (.iload_n 1, 1) := by decide +kernel
theorem d_Rs_bitAt_1 : decode b_Rs_bitAt 1 = .ok (.istore_n 2, 1) := by decide +kernel
theorem d_Rs_bitAt_2 : decode b_Rs_bitAt 2 = .ok (.iconst 0, 1) := by decide +kernel
theorem d_Rs_bitAt_3 : decode b_Rs_bitAt 3 = .ok (.istore_n 3, 1) := by decide +kernel
theorem d_Rs_bitAt_4 : decode b_Rs_bitAt 4 = .ok (.iload_n 3, 1) := by decide +kernel
theorem d_Rs_bitAt_5 : decode b_Rs_bitAt 5 = .ok (.bipush 16, 2) := by decide +kernel
theorem d_Rs_bitAt_7 : decode b_Rs_bitAt 7 = .ok (.if_icmp .ge 26, 3) := by decide +kernel
theorem d_Rs_bitAt_10 : decode b_Rs_bitAt 10 = .ok (.iload_n 0, 1) := by decide +kernel
theorem d_Rs_bitAt_11 : decode b_Rs_bitAt 11 = .ok (.iload_n 3, 1) := by decide +kernel
theorem d_Rs_bitAt_12 : decode b_Rs_bitAt 12 = .ok (.ishr, 1) := by decide +kernel
theorem d_Rs_bitAt_13 : decode b_Rs_bitAt 13 = .ok (.iconst 1, 1) := by decide +kernel
theorem d_Rs_bitAt_14 : decode b_Rs_bitAt 14 = .ok (.iand, 1) := by decide +kernel
theorem d_Rs_bitAt_15 : decode b_Rs_bitAt 15 = .ok (.ifCond .eq 12, 3) := by decide +kernel
theorem d_Rs_bitAt_18 : decode b_Rs_bitAt 18 = .ok (.iload_n 2, 1) := by decide +kernel
theorem d_Rs_bitAt_19 : decode b_Rs_bitAt 19 = .ok (.ifCond .ne 5, 3) := by decide +kernel
theorem d_Rs_bitAt_22 : decode b_Rs_bitAt 22 = .ok (.iload_n 3, 1) := by decide +kernel
theorem d_Rs_bitAt_23 : decode b_Rs_bitAt 23 = .ok (.ireturn, 1) := by decide +kernel
theorem d_Rs_bitAt_24 : decode b_Rs_bitAt 24 = .ok (.iinc 2 (-1), 3) := by decide +kernel
theorem d_Rs_bitAt_27 : decode b_Rs_bitAt 27 = .ok (.iinc 3 1, 3) := by decide +kernel
theorem d_Rs_bitAt_30 : decode b_Rs_bitAt 30 = .ok (.goto (-26), 3) := by decide +kernel
theorem d_Rs_bitAt_33 : decode b_Rs_bitAt 33 = .ok (.iconst 0, 1) := by decide +kernel
theorem d_Rs_bitAt_34 : decode b_Rs_bitAt 34 = .ok (.ireturn, 1) := by decide +kernel
theorem d_Se_init_0 : decode b_Se_init 0 = .ok (.aload_n 0, 1) := by decide +kernel
theorem d_Se_init_1 : decode b_Se_init 1 = .ok (.invokespecial 3, 3) := by decide +kernel
theorem d_Se_init_4 : decode b_Se_init 4 = .ok (.aload_n 0, 1) := by decide +kernel
theorem d_Se_init_5 : decode b_Se_init 5 = .ok (.sipush 128, 3) := by decide +kernel
theorem d_Se_init_8 : decode b_Se_init 8 = .ok (.newarray .int, 2) := by decide +kernel
theorem d_Se_init_10 : decode b_Se_init 10 = .ok (.putfield 9, 3) := by decide +kernel
theorem d_Se_init_13 : decode b_Se_init 13 = .ok (.return_, 1) := by decide +kernel
theorem d_Se_read_0 : decode b_Se_read 0 = .ok (.aload_n 0, 1) := by decide +kernel
theorem d_Se_read_1 : decode b_Se_read 1 = .ok (.getfield 9, 3) := by decide +kernel
theorem d_Se_read_4 : decode b_Se_read 4 = .ok (.iconst 0, 1) := by decide +kernel
theorem d_Se_read_5 : decode b_Se_read 5 = .ok (.invokestatic 15, 3) := by decide +kernel
theorem d_Se_read_8 : decode b_Se_read 8 = .ok (.iconst 0, 1) := by decide +kernel
theorem d_Se_read_9 : decode b_Se_read 9 = .ok (.istore 4, 2) := by decide +kernel
theorem d_Se_read_11 : decode b_Se_read 11 = .ok (.iload 4, 2) := by decide +kernel
theorem d_Se_read_13 : decode b_Se_read 13 = .ok (.aload_n 1, 1) := by decide +kernel
theorem d_Se_read_14 : decode b_Se_read 14 = .ok (.getfield 21, 3) := by decide +kernel
theorem d_Se_read_17 : decode b_Se_read 17 = .ok (.if_icmp .ge 39, 3) := by decide +kernel
theorem d_Se_read_20 : decode b_Se_read 20 = .ok (.aload_n 1, 1) := by decide +kernel
theorem d_Se_read_21 : decode b_Se_read 21 = .ok (.getfield 27, 3) := by decide +kernel
theorem d_Se_read_24 : decode b_Se_read 24 = .ok (.iload 4, 2) := by decide +kernel
theorem d_Se_read_26 : decode b_Se_read 26 = .ok (.iaload, 1) := by decide +kernel
theorem d_Se_read_27 : decode b_Se_read 27 = .ok (.iload_n 2, 1) := by decide +kernel
theorem d_Se_read_28 : decode b_Se_read 28 = .ok (.if_icmp .gt 28, 3) := by decide +kernel
theorem d_Se_read_31 : decode b_Se_read 31 = .ok (.aload_n 0, 1) := by decide +kernel
theorem d_Se_read_32 : decode b_Se_read 32 = .ok (.aload_n 1, 1) := by decide +kernel
theorem d_Se_read_33 : decode b_Se_read 33 = .ok (.getfield 30, 3) := by decide +kernel
theorem d_Se_read_36 : decode b_Se_read 36 = .ok (.iload 4, 2) := by decide +kernel
theorem d_Se_read_38 : decode b_Se_read 38 = .ok (.iaload, 1) := by decide +kernel
theorem d_Se_read_39 : decode b_Se_read 39 = .ok (.aload_n 1, 1) := by decide +kernel
theorem d_Se_read_40 : decode b_Se_read 40 = .ok (.iload 4, 2) := by decide +kernel
theorem d_Se_read_42 : decode b_Se_read 42 = .ok (.iload_n 2, 1) := by decide +kernel
theorem d_Se_read_43 : decode b_Se_read 43 = .ok (.iload_n 3, 1) := by decide +kernel
theorem d_Se_read_44 : decode b_Se_read 44 = .ok (.invokevirtual 33, 3) := by decide +kernel
theorem d_Se_read_47 : decode b_Se_read 47 = .ok (.invokevirtual 37, 3) := by decide +kernel
theorem d_Se_read_50 : decode b_Se_read 50 = .ok (.iinc 4 1, 3) := by decide +kernel
theorem d_Se_read_53 : decode b_Se_read 53 = .ok (.goto (-42), 3) := by decide +kernel
theorem d_Se_read_56 : decode b_Se_read 56 = .ok (.return_, 1) := by decide +kernel
theorem d_Se_put_0 : decode b_Se_put 0 = .ok (.iload_n 1, 1) := by decide +kernel
theorem d_Se_put_1 : decode b_Se_put 1 = .ok (.bipush 16, 2) := by decide +kernel
theorem d_Se_put_3 : decode b_Se_put 3 = .ok (.idiv, 1) := by decide +kernel
theorem d_Se_put_4 : decode b_Se_put 4 = .ok (.istore_n 3, 1) := by decide +kernel
theorem d_Se_put_5 : decode b_Se_put 5 = .ok (.iload_n 3, 1) := by decide +kernel
theorem d_Se_put_6 : decode b_Se_put 6 = .ok (.ifCond .lt 12, 3) := by decide +kernel
theorem d_Se_put_9 : decode b_Se_put 9 = .ok (.iload_n 3, 1) := by decide +kernel
theorem d_Se_put_10 : decode b_Se_put 10 = .ok (.aload_n 0, 1) := by decide +kernel
theorem d_Se_put_11 : decode b_Se_put 11 = .ok (.getfield 9, 3) := by decide +kernel
theorem d_Se_put_14 : decode b_Se_put 14 = .ok (.arraylength, 1) := by decide +kernel
theorem d_Se_put_15 : decode b_Se_put 15 = .ok (.if_icmp .lt 4, 3) := by decide +kernel
theorem d_Se_put_18 : decode b_Se_put 18 = .ok (.return_, 1) := by decide +kernel
theorem d_Se_put_19 : decode b_Se_put 19 = .ok (.iconst 1, 1) := by decide +kernel
theorem d_Se_put_20 : decode b_Se_put 20 = .ok (.iload_n 1, 1) := by decide +kernel
theorem d_Se_put_21 : decode b_Se_put 21 = .ok (.bipush 16, 2) := by decide +kernel
theorem d_Se_put_23 : decode b_Se_put 23 = .ok (.irem, 1) := by decide +kernel
theorem d_Se_put_24 : decode b_Se_put 24 = .ok (.ishl, 1) := by decide +kernel
theorem d_Se_put_25 : decode b_Se_put 25 = .ok (.istore 4, 2) := by decide +kernel
theorem d_Se_put_27 : decode b_Se_put 27 = .ok (.aload_n 0, 1) := by decide +kernel
theorem d_Se_put_28 : decode b_Se_put 28 = .ok (.getfield 9, 3) := by decide +kernel
theorem d_Se_put_31 : decode b_Se_put 31 = .ok (.iload_n 3, 1) := by decide +kernel
theorem d_Se_put_32 : decode b_Se_put 32 = .ok (.iload_n 2, 1) := by decide +kernel
theorem d_Se_put_33 : decode b_Se_put 33 = .ok (.ifCond .eq 15, 3) := by decide +kernel
theorem d_Se_put_36 : decode b_Se_put 36 = .ok (.aload_n 0, 1) := by decide +kernel
theorem d_Se_put_37 : decode b_Se_put 37 = .ok (.getfield 9, 3) := by decide +kernel
theorem d_Se_put_40 : decode b_Se_put 40 = .ok (.iload_n 3, 1) := by decide +kernel
theorem d_Se_put_41 : decode b_Se_put 41 = .ok (.iaload, 1) := by decide +kernel
theorem d_Se_put_42 : decode b_Se_put 42 = .ok (.iload 4, 2) := by decide +kernel
theorem d_Se_put_44 : decode b_Se_put 44 = .ok (.ior, 1) := by decide +kernel
theorem d_Se_put_45 : decode b_Se_put 45 = .ok (.goto 14, 3) := by decide +kernel
theorem d_Se_put_48 : decode b_Se_put 48 = .ok (.aload_n 0, 1) := by decide +kernel
theorem d_Se_put_49 : decode b_Se_put 49 = .ok (.getfield 9, 3) := by decide +kernel
theorem d_Se_put_52 : decode b_Se_put 52 = .ok (.iload_n 3, 1) := by decide +kernel
theorem d_Se_put_53 : decode b_Se_put 53 = .ok (.iaload, 1) := by decide +kernel
theorem d_Se_put_54 : decode b_Se_put 54 = .ok (.iload 4, 2) := by decide +kernel
theorem d_Se_put_56 : decode b_Se_put 56 = .ok (.iconst (-1), 1) := by decide +kernel
theorem d_Se_put_57 : decode b_Se_put 57 = .ok (.ixor, 1) := by decide +kernel
theorem d_Se_put_58 : decode b_Se_put 58 = .ok (.iand, 1) := by decide +kernel
theorem d_Se_put_59 : decode b_Se_put 59 = .ok (.iastore, 1) := by decide +kernel
theorem d_Se_put_60 : decode b_Se_put 60 = .ok (.return_, 1) := by decide +kernel
theorem d_Se_objectsOf_0 : decode b_Se_objectsOf 0 = .ok (.iload_n 1, 1) := by decide +kernel
theorem d_Se_objectsOf_1 : decode b_Se_objectsOf 1 = .ok (.ifCond .lt 19, 3) := by decide +kernel
theorem d_Se_objectsOf_4 : decode b_Se_objectsOf 4 = .ok (.iload_n 1, 1) := by decide +kernel
theorem d_Se_objectsOf_5 : decode b_Se_objectsOf 5 = .ok (.bipush 16, 2) := by decide +kernel
theorem d_Se_objectsOf_7 : decode b_Se_objectsOf 7 = .ok (.if_icmp .ge 13, 3) := by decide +kernel
theorem d_Se_objectsOf_10 : decode b_Se_objectsOf 10 = .ok (.iload_n 2, 1) := by decide +kernel
theorem d_Se_objectsOf_11 : decode b_Se_objectsOf 11 = .ok (.ifCond .lt 9, 3) := by decide +kernel
theorem d_Se_objectsOf_14 : decode b_Se_objectsOf 14 = .ok (.iload_n 2, 1) := by decide +kernel
theorem d_Se_objectsOf_15 : decode b_Se_objectsOf 15 = .ok (.bipush 8, 2) := by decide +kernel
theorem d_Se_objectsOf_17 : decode b_Se_objectsOf 17 = .ok (.if_icmp .lt 5, 3) := by decide +kernel
theorem d_Se_objectsOf_20 : decode b_Se_objectsOf 20 = .ok (.iconst 0, 1) := by decide +kernel
theorem d_Se_objectsOf_21 : decode b_Se_objectsOf 21 = .ok (.ireturn, 1) := by decide +kernel
theorem d_Se_objectsOf_22 : decode b_Se_objectsOf 22 = .ok (.aload_n 0, 1) := by decide +kernel
theorem d_Se_objectsOf_23 : decode b_Se_objectsOf 23 = .ok (.getfield 9, 3) := by decide +kernel
theorem d_Se_objectsOf_26 : decode b_Se_objectsOf 26 = .ok (.iload_n 1, 1) := by decide +kernel
theorem d_Se_objectsOf_27 : decode b_Se_objectsOf 27 = .ok (.bipush 8, 2) := by decide +kernel
theorem d_Se_objectsOf_29 : decode b_Se_objectsOf 29 = .ok (.imul, 1) := by decide +kernel
theorem d_Se_objectsOf_30 : decode b_Se_objectsOf 30 = .ok (.iload_n 2, 1) := by decide +kernel
theorem d_Se_objectsOf_31 : decode b_Se_objectsOf 31 = .ok (.iadd, 1) := by decide +kernel
theorem d_Se_objectsOf_32 : decode b_Se_objectsOf 32 = .ok (.iaload, 1) := by decide +kernel
theorem d_Se_objectsOf_33 : decode b_Se_objectsOf 33 = .ok (.ireturn, 1) := by decide +kernel

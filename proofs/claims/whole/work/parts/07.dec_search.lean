theorem d_Sr_init_0 : decode b_Sr_init 0 = .ok (.aload_n 0, 1) := by decide +kernel
theorem d_Sr_init_1 : decode b_Sr_init 1 = .ok (.invokespecial 3, 3) := by decide +kernel
theorem d_Sr_init_4 : decode b_Sr_init 4 = .ok (.aload_n 0, 1) := by decide +kernel
theorem d_Sr_init_5 : decode b_Sr_init 5 = .ok (.iconst 4, 1) := by decide +kernel
theorem d_Sr_init_6 : decode b_Sr_init 6 = .ok (.newarray .int, 2) := by decide +kernel
theorem d_Sr_init_8 : decode b_Sr_init 8 = .ok (.putfield 9, 3) := by decide +kernel
theorem d_Sr_init_11 : decode b_Sr_init 11 = .ok (.aload_n 0, 1) := by decide +kernel
theorem d_Sr_init_12 : decode b_Sr_init 12 = .ok (.iconst 4, 1) := by decide +kernel
theorem d_Sr_init_13 : decode b_Sr_init 13 = .ok (.newarray .int, 2) := by decide +kernel
theorem d_Sr_init_15 : decode b_Sr_init 15 = .ok (.putfield 15, 3) := by decide +kernel
theorem d_Sr_init_18 : decode b_Sr_init 18 = .ok (.aload_n 0, 1) := by decide +kernel
theorem d_Sr_init_19 : decode b_Sr_init 19 = .ok (.aload_n 1, 1) := by decide +kernel
theorem d_Sr_init_20 : decode b_Sr_init 20 = .ok (.putfield 18, 3) := by decide +kernel
theorem d_Sr_init_23 : decode b_Sr_init 23 = .ok (.return_, 1) := by decide +kernel
theorem d_Sr_begin_0 : decode b_Sr_begin 0 = .ok (.iconst 0, 1) := by decide +kernel
theorem d_Sr_begin_1 : decode b_Sr_begin 1 = .ok (.istore_n 2, 1) := by decide +kernel
theorem d_Sr_begin_2 : decode b_Sr_begin 2 = .ok (.iload_n 2, 1) := by decide +kernel
theorem d_Sr_begin_3 : decode b_Sr_begin 3 = .ok (.iconst 4, 1) := by decide +kernel
theorem d_Sr_begin_4 : decode b_Sr_begin 4 = .ok (.if_icmp .ge 29, 3) := by decide +kernel
theorem d_Sr_begin_7 : decode b_Sr_begin 7 = .ok (.aload_n 0, 1) := by decide +kernel
theorem d_Sr_begin_8 : decode b_Sr_begin 8 = .ok (.getfield 9, 3) := by decide +kernel
theorem d_Sr_begin_11 : decode b_Sr_begin 11 = .ok (.iload_n 2, 1) := by decide +kernel
theorem d_Sr_begin_12 : decode b_Sr_begin 12 = .ok (.aload_n 1, 1) := by decide +kernel
theorem d_Sr_begin_13 : decode b_Sr_begin 13 = .ok (.iload_n 2, 1) := by decide +kernel
theorem d_Sr_begin_14 : decode b_Sr_begin 14 = .ok (.invokevirtual 22, 3) := by decide +kernel
theorem d_Sr_begin_17 : decode b_Sr_begin 17 = .ok (.ifCond .eq 8, 3) := by decide +kernel
theorem d_Sr_begin_20 : decode b_Sr_begin 20 = .ok (.ldc 28, 2) := by decide +kernel
theorem d_Sr_begin_22 : decode b_Sr_begin 22 = .ok (.goto 4, 3) := by decide +kernel
theorem d_Sr_begin_25 : decode b_Sr_begin 25 = .ok (.iconst 1, 1) := by decide +kernel
theorem d_Sr_begin_26 : decode b_Sr_begin 26 = .ok (.iastore, 1) := by decide +kernel
theorem d_Sr_begin_27 : decode b_Sr_begin 27 = .ok (.iinc 2 1, 3) := by decide +kernel
theorem d_Sr_begin_30 : decode b_Sr_begin 30 = .ok (.goto (-28), 3) := by decide +kernel
theorem d_Sr_begin_33 : decode b_Sr_begin 33 = .ok (.return_, 1) := by decide +kernel
theorem d_Sr_bind_0 : decode b_Sr_bind 0 = .ok (.iload_n 3, 1) := by decide +kernel
theorem d_Sr_bind_1 : decode b_Sr_bind 1 = .ok (.bipush 16, 2) := by decide +kernel
theorem d_Sr_bind_3 : decode b_Sr_bind 3 = .ok (.idiv, 1) := by decide +kernel
theorem d_Sr_bind_4 : decode b_Sr_bind 4 = .ok (.bipush 8, 2) := by decide +kernel
theorem d_Sr_bind_6 : decode b_Sr_bind 6 = .ok (.idiv, 1) := by decide +kernel
theorem d_Sr_bind_7 : decode b_Sr_bind 7 = .ok (.istore 4, 2) := by decide +kernel
theorem d_Sr_bind_9 : decode b_Sr_bind 9 = .ok (.iload_n 3, 1) := by decide +kernel
theorem d_Sr_bind_10 : decode b_Sr_bind 10 = .ok (.bipush 16, 2) := by decide +kernel
theorem d_Sr_bind_12 : decode b_Sr_bind 12 = .ok (.idiv, 1) := by decide +kernel
theorem d_Sr_bind_13 : decode b_Sr_bind 13 = .ok (.bipush 8, 2) := by decide +kernel
theorem d_Sr_bind_15 : decode b_Sr_bind 15 = .ok (.irem, 1) := by decide +kernel
theorem d_Sr_bind_16 : decode b_Sr_bind 16 = .ok (.istore 5, 2) := by decide +kernel
theorem d_Sr_bind_18 : decode b_Sr_bind 18 = .ok (.iload_n 3, 1) := by decide +kernel
theorem d_Sr_bind_19 : decode b_Sr_bind 19 = .ok (.bipush 16, 2) := by decide +kernel
theorem d_Sr_bind_21 : decode b_Sr_bind 21 = .ok (.irem, 1) := by decide +kernel
theorem d_Sr_bind_22 : decode b_Sr_bind 22 = .ok (.istore 6, 2) := by decide +kernel
theorem d_Sr_bind_24 : decode b_Sr_bind 24 = .ok (.aload_n 0, 1) := by decide +kernel
theorem d_Sr_bind_25 : decode b_Sr_bind 25 = .ok (.aload_n 1, 1) := by decide +kernel
theorem d_Sr_bind_26 : decode b_Sr_bind 26 = .ok (.iload_n 2, 1) := by decide +kernel
theorem d_Sr_bind_27 : decode b_Sr_bind 27 = .ok (.iconst 0, 1) := by decide +kernel
theorem d_Sr_bind_28 : decode b_Sr_bind 28 = .ok (.invokevirtual 29, 3) := by decide +kernel
theorem d_Sr_bind_31 : decode b_Sr_bind 31 = .ok (.iconst 1, 1) := by decide +kernel
theorem d_Sr_bind_32 : decode b_Sr_bind 32 = .ok (.iload 4, 2) := by decide +kernel
theorem d_Sr_bind_34 : decode b_Sr_bind 34 = .ok (.ishl, 1) := by decide +kernel
theorem d_Sr_bind_35 : decode b_Sr_bind 35 = .ok (.invokevirtual 33, 3) := by decide +kernel
theorem d_Sr_bind_38 : decode b_Sr_bind 38 = .ok (.ifCond .eq 41, 3) := by decide +kernel
theorem d_Sr_bind_41 : decode b_Sr_bind 41 = .ok (.aload_n 0, 1) := by decide +kernel
theorem d_Sr_bind_42 : decode b_Sr_bind 42 = .ok (.aload_n 1, 1) := by decide +kernel
theorem d_Sr_bind_43 : decode b_Sr_bind 43 = .ok (.iload_n 2, 1) := by decide +kernel
theorem d_Sr_bind_44 : decode b_Sr_bind 44 = .ok (.iconst 1, 1) := by decide +kernel
theorem d_Sr_bind_45 : decode b_Sr_bind 45 = .ok (.invokevirtual 29, 3) := by decide +kernel
theorem d_Sr_bind_48 : decode b_Sr_bind 48 = .ok (.iconst 1, 1) := by decide +kernel
theorem d_Sr_bind_49 : decode b_Sr_bind 49 = .ok (.iload 5, 2) := by decide +kernel
theorem d_Sr_bind_51 : decode b_Sr_bind 51 = .ok (.ishl, 1) := by decide +kernel
theorem d_Sr_bind_52 : decode b_Sr_bind 52 = .ok (.invokevirtual 33, 3) := by decide +kernel
theorem d_Sr_bind_55 : decode b_Sr_bind 55 = .ok (.ifCond .eq 24, 3) := by decide +kernel
theorem d_Sr_bind_58 : decode b_Sr_bind 58 = .ok (.aload_n 0, 1) := by decide +kernel
theorem d_Sr_bind_59 : decode b_Sr_bind 59 = .ok (.aload_n 1, 1) := by decide +kernel
theorem d_Sr_bind_60 : decode b_Sr_bind 60 = .ok (.iload_n 2, 1) := by decide +kernel
theorem d_Sr_bind_61 : decode b_Sr_bind 61 = .ok (.iconst 2, 1) := by decide +kernel
theorem d_Sr_bind_62 : decode b_Sr_bind 62 = .ok (.invokevirtual 29, 3) := by decide +kernel
theorem d_Sr_bind_65 : decode b_Sr_bind 65 = .ok (.iconst 1, 1) := by decide +kernel
theorem d_Sr_bind_66 : decode b_Sr_bind 66 = .ok (.iload 6, 2) := by decide +kernel
theorem d_Sr_bind_68 : decode b_Sr_bind 68 = .ok (.ishl, 1) := by decide +kernel
theorem d_Sr_bind_69 : decode b_Sr_bind 69 = .ok (.invokevirtual 33, 3) := by decide +kernel
theorem d_Sr_bind_72 : decode b_Sr_bind 72 = .ok (.ifCond .eq 7, 3) := by decide +kernel
theorem d_Sr_bind_75 : decode b_Sr_bind 75 = .ok (.iconst 1, 1) := by decide +kernel
theorem d_Sr_bind_76 : decode b_Sr_bind 76 = .ok (.goto 4, 3) := by decide +kernel
theorem d_Sr_bind_79 : decode b_Sr_bind 79 = .ok (.iconst 0, 1) := by decide +kernel
theorem d_Sr_bind_80 : decode b_Sr_bind 80 = .ok (.ireturn, 1) := by decide +kernel
theorem d_Sr_run_0 : decode b_Sr_run 0 = .ok (.iconst 0, 1) := by decide +kernel
theorem d_Sr_run_1 : decode b_Sr_run 1 = .ok (.istore_n 3, 1) := by decide +kernel
theorem d_Sr_run_2 : decode b_Sr_run 2 = .ok (.iload_n 3, 1) := by decide +kernel
theorem d_Sr_run_3 : decode b_Sr_run 3 = .ok (.aload_n 1, 1) := by decide +kernel
theorem d_Sr_run_4 : decode b_Sr_run 4 = .ok (.getfield 37, 3) := by decide +kernel
theorem d_Sr_run_7 : decode b_Sr_run 7 = .ok (.if_icmp .ge 35, 3) := by decide +kernel
theorem d_Sr_run_10 : decode b_Sr_run 10 = .ok (.aload_n 0, 1) := by decide +kernel
theorem d_Sr_run_11 : decode b_Sr_run 11 = .ok (.aload_n 1, 1) := by decide +kernel
theorem d_Sr_run_12 : decode b_Sr_run 12 = .ok (.iload_n 3, 1) := by decide +kernel
theorem d_Sr_run_13 : decode b_Sr_run 13 = .ok (.iconst 0, 1) := by decide +kernel
theorem d_Sr_run_14 : decode b_Sr_run 14 = .ok (.invokevirtual 29, 3) := by decide +kernel
theorem d_Sr_run_17 : decode b_Sr_run 17 = .ok (.aload_n 1, 1) := by decide +kernel
theorem d_Sr_run_18 : decode b_Sr_run 18 = .ok (.iload_n 3, 1) := by decide +kernel
theorem d_Sr_run_19 : decode b_Sr_run 19 = .ok (.iconst 1, 1) := by decide +kernel
theorem d_Sr_run_20 : decode b_Sr_run 20 = .ok (.invokevirtual 29, 3) := by decide +kernel
theorem d_Sr_run_23 : decode b_Sr_run 23 = .ok (.aload_n 1, 1) := by decide +kernel
theorem d_Sr_run_24 : decode b_Sr_run 24 = .ok (.iload_n 3, 1) := by decide +kernel
theorem d_Sr_run_25 : decode b_Sr_run 25 = .ok (.iconst 2, 1) := by decide +kernel
theorem d_Sr_run_26 : decode b_Sr_run 26 = .ok (.invokevirtual 29, 3) := by decide +kernel
theorem d_Sr_run_29 : decode b_Sr_run 29 = .ok (.invokevirtual 41, 3) := by decide +kernel
theorem d_Sr_run_32 : decode b_Sr_run 32 = .ok (.ifCond .ne 4, 3) := by decide +kernel
theorem d_Sr_run_35 : decode b_Sr_run 35 = .ok (.return_, 1) := by decide +kernel
theorem d_Sr_run_36 : decode b_Sr_run 36 = .ok (.iinc 3 1, 3) := by decide +kernel
theorem d_Sr_run_39 : decode b_Sr_run 39 = .ok (.goto (-37), 3) := by decide +kernel
theorem d_Sr_run_42 : decode b_Sr_run 42 = .ok (.aload_n 0, 1) := by decide +kernel
theorem d_Sr_run_43 : decode b_Sr_run 43 = .ok (.aload_n 1, 1) := by decide +kernel
theorem d_Sr_run_44 : decode b_Sr_run 44 = .ok (.aload_n 2, 1) := by decide +kernel
theorem d_Sr_run_45 : decode b_Sr_run 45 = .ok (.iconst 0, 1) := by decide +kernel
theorem d_Sr_run_46 : decode b_Sr_run 46 = .ok (.iconst 0, 1) := by decide +kernel
theorem d_Sr_run_47 : decode b_Sr_run 47 = .ok (.invokevirtual 45, 3) := by decide +kernel
theorem d_Sr_run_50 : decode b_Sr_run 50 = .ok (.return_, 1) := by decide +kernel
theorem d_Sr_narrow_0 : decode b_Sr_narrow 0 = .ok (.aload_n 0, 1) := by decide +kernel
theorem d_Sr_narrow_1 : decode b_Sr_narrow 1 = .ok (.iload_n 1, 1) := by decide +kernel
theorem d_Sr_narrow_2 : decode b_Sr_narrow 2 = .ok (.invokevirtual 49, 3) := by decide +kernel
theorem d_Sr_narrow_5 : decode b_Sr_narrow 5 = .ok (.istore 4, 2) := by decide +kernel
theorem d_Sr_narrow_7 : decode b_Sr_narrow 7 = .ok (.aload_n 0, 1) := by decide +kernel
theorem d_Sr_narrow_8 : decode b_Sr_narrow 8 = .ok (.iload_n 2, 1) := by decide +kernel
theorem d_Sr_narrow_9 : decode b_Sr_narrow 9 = .ok (.invokevirtual 49, 3) := by decide +kernel
theorem d_Sr_narrow_12 : decode b_Sr_narrow 12 = .ok (.istore 5, 2) := by decide +kernel
theorem d_Sr_narrow_14 : decode b_Sr_narrow 14 = .ok (.aload_n 0, 1) := by decide +kernel
theorem d_Sr_narrow_15 : decode b_Sr_narrow 15 = .ok (.iload_n 3, 1) := by decide +kernel
theorem d_Sr_narrow_16 : decode b_Sr_narrow 16 = .ok (.invokevirtual 49, 3) := by decide +kernel
theorem d_Sr_narrow_19 : decode b_Sr_narrow 19 = .ok (.istore 6, 2) := by decide +kernel
theorem d_Sr_narrow_21 : decode b_Sr_narrow 21 = .ok (.iconst 0, 1) := by decide +kernel
theorem d_Sr_narrow_22 : decode b_Sr_narrow 22 = .ok (.istore 7, 2) := by decide +kernel
theorem d_Sr_narrow_24 : decode b_Sr_narrow 24 = .ok (.iconst 0, 1) := by decide +kernel
theorem d_Sr_narrow_25 : decode b_Sr_narrow 25 = .ok (.istore 8, 2) := by decide +kernel
theorem d_Sr_narrow_27 : decode b_Sr_narrow 27 = .ok (.iconst 0, 1) := by decide +kernel
theorem d_Sr_narrow_28 : decode b_Sr_narrow 28 = .ok (.istore 9, 2) := by decide +kernel
theorem d_Sr_narrow_30 : decode b_Sr_narrow 30 = .ok (.iconst 0, 1) := by decide +kernel
theorem d_Sr_narrow_31 : decode b_Sr_narrow 31 = .ok (.istore 10, 2) := by decide +kernel
theorem d_Sr_narrow_33 : decode b_Sr_narrow 33 = .ok (.iload 10, 2) := by decide +kernel
theorem d_Sr_narrow_35 : decode b_Sr_narrow 35 = .ok (.bipush 16, 2) := by decide +kernel
theorem d_Sr_narrow_37 : decode b_Sr_narrow 37 = .ok (.if_icmp .ge 98, 3) := by decide +kernel
theorem d_Sr_narrow_40 : decode b_Sr_narrow 40 = .ok (.iload 4, 2) := by decide +kernel
theorem d_Sr_narrow_42 : decode b_Sr_narrow 42 = .ok (.iload 10, 2) := by decide +kernel
theorem d_Sr_narrow_44 : decode b_Sr_narrow 44 = .ok (.ishr, 1) := by decide +kernel
theorem d_Sr_narrow_45 : decode b_Sr_narrow 45 = .ok (.iconst 1, 1) := by decide +kernel
theorem d_Sr_narrow_46 : decode b_Sr_narrow 46 = .ok (.iand, 1) := by decide +kernel
theorem d_Sr_narrow_47 : decode b_Sr_narrow 47 = .ok (.ifCond .ne 6, 3) := by decide +kernel
theorem d_Sr_narrow_50 : decode b_Sr_narrow 50 = .ok (.goto 79, 3) := by decide +kernel
theorem d_Sr_narrow_53 : decode b_Sr_narrow 53 = .ok (.iconst 0, 1) := by decide +kernel
theorem d_Sr_narrow_54 : decode b_Sr_narrow 54 = .ok (.istore 11, 2) := by decide +kernel
theorem d_Sr_narrow_56 : decode b_Sr_narrow 56 = .ok (.iload 11, 2) := by decide +kernel
theorem d_Sr_narrow_58 : decode b_Sr_narrow 58 = .ok (.bipush 8, 2) := by decide +kernel
theorem d_Sr_narrow_60 : decode b_Sr_narrow 60 = .ok (.if_icmp .ge 69, 3) := by decide +kernel
theorem d_Sr_narrow_63 : decode b_Sr_narrow 63 = .ok (.iload 5, 2) := by decide +kernel
theorem d_Sr_narrow_65 : decode b_Sr_narrow 65 = .ok (.iload 11, 2) := by decide +kernel
theorem d_Sr_narrow_67 : decode b_Sr_narrow 67 = .ok (.ishr, 1) := by decide +kernel
theorem d_Sr_narrow_68 : decode b_Sr_narrow 68 = .ok (.iconst 1, 1) := by decide +kernel
theorem d_Sr_narrow_69 : decode b_Sr_narrow 69 = .ok (.iand, 1) := by decide +kernel
theorem d_Sr_narrow_70 : decode b_Sr_narrow 70 = .ok (.ifCond .ne 7, 3) := by decide +kernel
theorem d_Sr_narrow_73 : decode b_Sr_narrow 73 = .ok (.iconst 0, 1) := by decide +kernel
theorem d_Sr_narrow_74 : decode b_Sr_narrow 74 = .ok (.goto 17, 3) := by decide +kernel
theorem d_Sr_narrow_77 : decode b_Sr_narrow 77 = .ok (.aload_n 0, 1) := by decide +kernel
theorem d_Sr_narrow_78 : decode b_Sr_narrow 78 = .ok (.getfield 18, 3) := by decide +kernel
theorem d_Sr_narrow_81 : decode b_Sr_narrow 81 = .ok (.iload 10, 2) := by decide +kernel
theorem d_Sr_narrow_83 : decode b_Sr_narrow 83 = .ok (.iload 11, 2) := by decide +kernel
theorem d_Sr_narrow_85 : decode b_Sr_narrow 85 = .ok (.invokevirtual 53, 3) := by decide +kernel
theorem d_Sr_narrow_88 : decode b_Sr_narrow 88 = .ok (.iload 6, 2) := by decide +kernel
theorem d_Sr_narrow_90 : decode b_Sr_narrow 90 = .ok (.iand, 1) := by decide +kernel
theorem d_Sr_narrow_91 : decode b_Sr_narrow 91 = .ok (.istore 12, 2) := by decide +kernel
theorem d_Sr_narrow_93 : decode b_Sr_narrow 93 = .ok (.iload 12, 2) := by decide +kernel
theorem d_Sr_narrow_95 : decode b_Sr_narrow 95 = .ok (.ifCond .eq 28, 3) := by decide +kernel
theorem d_Sr_narrow_98 : decode b_Sr_narrow 98 = .ok (.iload 7, 2) := by decide +kernel
theorem d_Sr_narrow_100 : decode b_Sr_narrow 100 = .ok (.iconst 1, 1) := by decide +kernel
theorem d_Sr_narrow_101 : decode b_Sr_narrow 101 = .ok (.iload 10, 2) := by decide +kernel
theorem d_Sr_narrow_103 : decode b_Sr_narrow 103 = .ok (.ishl, 1) := by decide +kernel
theorem d_Sr_narrow_104 : decode b_Sr_narrow 104 = .ok (.ior, 1) := by decide +kernel
theorem d_Sr_narrow_105 : decode b_Sr_narrow 105 = .ok (.istore 7, 2) := by decide +kernel
theorem d_Sr_narrow_107 : decode b_Sr_narrow 107 = .ok (.iload 8, 2) := by decide +kernel
theorem d_Sr_narrow_109 : decode b_Sr_narrow 109 = .ok (.iconst 1, 1) := by decide +kernel
theorem d_Sr_narrow_110 : decode b_Sr_narrow 110 = .ok (.iload 11, 2) := by decide +kernel
theorem d_Sr_narrow_112 : decode b_Sr_narrow 112 = .ok (.ishl, 1) := by decide +kernel
theorem d_Sr_narrow_113 : decode b_Sr_narrow 113 = .ok (.ior, 1) := by decide +kernel
theorem d_Sr_narrow_114 : decode b_Sr_narrow 114 = .ok (.istore 8, 2) := by decide +kernel
theorem d_Sr_narrow_116 : decode b_Sr_narrow 116 = .ok (.iload 9, 2) := by decide +kernel
theorem d_Sr_narrow_118 : decode b_Sr_narrow 118 = .ok (.iload 12, 2) := by decide +kernel
theorem d_Sr_narrow_120 : decode b_Sr_narrow 120 = .ok (.ior, 1) := by decide +kernel
theorem d_Sr_narrow_121 : decode b_Sr_narrow 121 = .ok (.istore 9, 2) := by decide +kernel
theorem d_Sr_narrow_123 : decode b_Sr_narrow 123 = .ok (.iinc 11 1, 3) := by decide +kernel
theorem d_Sr_narrow_126 : decode b_Sr_narrow 126 = .ok (.goto (-70), 3) := by decide +kernel
theorem d_Sr_narrow_129 : decode b_Sr_narrow 129 = .ok (.iinc 10 1, 3) := by decide +kernel
theorem d_Sr_narrow_132 : decode b_Sr_narrow 132 = .ok (.goto (-99), 3) := by decide +kernel
theorem d_Sr_narrow_135 : decode b_Sr_narrow 135 = .ok (.aload_n 0, 1) := by decide +kernel
theorem d_Sr_narrow_136 : decode b_Sr_narrow 136 = .ok (.iload_n 1, 1) := by decide +kernel
theorem d_Sr_narrow_137 : decode b_Sr_narrow 137 = .ok (.iload 7, 2) := by decide +kernel
theorem d_Sr_narrow_139 : decode b_Sr_narrow 139 = .ok (.invokevirtual 33, 3) := by decide +kernel
theorem d_Sr_narrow_142 : decode b_Sr_narrow 142 = .ok (.ifCond .eq 27, 3) := by decide +kernel
theorem d_Sr_narrow_145 : decode b_Sr_narrow 145 = .ok (.aload_n 0, 1) := by decide +kernel
theorem d_Sr_narrow_146 : decode b_Sr_narrow 146 = .ok (.iload_n 2, 1) := by decide +kernel
theorem d_Sr_narrow_147 : decode b_Sr_narrow 147 = .ok (.iload 8, 2) := by decide +kernel
theorem d_Sr_narrow_149 : decode b_Sr_narrow 149 = .ok (.invokevirtual 33, 3) := by decide +kernel
theorem d_Sr_narrow_152 : decode b_Sr_narrow 152 = .ok (.ifCond .eq 17, 3) := by decide +kernel
theorem d_Sr_narrow_155 : decode b_Sr_narrow 155 = .ok (.aload_n 0, 1) := by decide +kernel
theorem d_Sr_narrow_156 : decode b_Sr_narrow 156 = .ok (.iload_n 3, 1) := by decide +kernel
theorem d_Sr_narrow_157 : decode b_Sr_narrow 157 = .ok (.iload 9, 2) := by decide +kernel
theorem d_Sr_narrow_159 : decode b_Sr_narrow 159 = .ok (.invokevirtual 33, 3) := by decide +kernel
theorem d_Sr_narrow_162 : decode b_Sr_narrow 162 = .ok (.ifCond .eq 7, 3) := by decide +kernel
theorem d_Sr_narrow_165 : decode b_Sr_narrow 165 = .ok (.iconst 1, 1) := by decide +kernel
theorem d_Sr_narrow_166 : decode b_Sr_narrow 166 = .ok (.goto 4, 3) := by decide +kernel
theorem d_Sr_narrow_169 : decode b_Sr_narrow 169 = .ok (.iconst 0, 1) := by decide +kernel
theorem d_Sr_narrow_170 : decode b_Sr_narrow 170 = .ok (.ireturn, 1) := by decide +kernel
theorem d_Sr_extend_0 : decode b_Sr_extend 0 = .ok (.iload_n 3, 1) := by decide +kernel
theorem d_Sr_extend_1 : decode b_Sr_extend 1 = .ok (.ifCond .lt 8, 3) := by decide +kernel
theorem d_Sr_extend_4 : decode b_Sr_extend 4 = .ok (.iload_n 3, 1) := by decide +kernel
theorem d_Sr_extend_5 : decode b_Sr_extend 5 = .ok (.iconst 4, 1) := by decide +kernel
theorem d_Sr_extend_6 : decode b_Sr_extend 6 = .ok (.if_icmp .lt 4, 3) := by decide +kernel
theorem d_Sr_extend_9 : decode b_Sr_extend 9 = .ok (.return_, 1) := by decide +kernel
theorem d_Sr_extend_10 : decode b_Sr_extend 10 = .ok (.aload_n 0, 1) := by decide +kernel
theorem d_Sr_extend_11 : decode b_Sr_extend 11 = .ok (.getfield 9, 3) := by decide +kernel
theorem d_Sr_extend_14 : decode b_Sr_extend 14 = .ok (.iload_n 3, 1) := by decide +kernel
theorem d_Sr_extend_15 : decode b_Sr_extend 15 = .ok (.iaload, 1) := by decide +kernel
theorem d_Sr_extend_16 : decode b_Sr_extend 16 = .ok (.istore 5, 2) := by decide +kernel
theorem d_Sr_extend_18 : decode b_Sr_extend 18 = .ok (.iconst 0, 1) := by decide +kernel
theorem d_Sr_extend_19 : decode b_Sr_extend 19 = .ok (.istore 6, 2) := by decide +kernel
theorem d_Sr_extend_21 : decode b_Sr_extend 21 = .ok (.iload 6, 2) := by decide +kernel
theorem d_Sr_extend_23 : decode b_Sr_extend 23 = .ok (.aload_n 1, 1) := by decide +kernel
theorem d_Sr_extend_24 : decode b_Sr_extend 24 = .ok (.getfield 37, 3) := by decide +kernel
theorem d_Sr_extend_27 : decode b_Sr_extend 27 = .ok (.if_icmp .ge 37, 3) := by decide +kernel
theorem d_Sr_extend_30 : decode b_Sr_extend 30 = .ok (.iload 5, 2) := by decide +kernel
theorem d_Sr_extend_32 : decode b_Sr_extend 32 = .ok (.ifCond .eq 32, 3) := by decide +kernel
theorem d_Sr_extend_35 : decode b_Sr_extend 35 = .ok (.aload_n 1, 1) := by decide +kernel
theorem d_Sr_extend_36 : decode b_Sr_extend 36 = .ok (.getfield 58, 3) := by decide +kernel
theorem d_Sr_extend_39 : decode b_Sr_extend 39 = .ok (.iload 6, 2) := by decide +kernel
theorem d_Sr_extend_41 : decode b_Sr_extend 41 = .ok (.iaload, 1) := by decide +kernel
theorem d_Sr_extend_42 : decode b_Sr_extend 42 = .ok (.iload_n 3, 1) := by decide +kernel
theorem d_Sr_extend_43 : decode b_Sr_extend 43 = .ok (.if_icmp .ne 15, 3) := by decide +kernel
theorem d_Sr_extend_46 : decode b_Sr_extend 46 = .ok (.aload_n 0, 1) := by decide +kernel
theorem d_Sr_extend_47 : decode b_Sr_extend 47 = .ok (.aload_n 1, 1) := by decide +kernel
theorem d_Sr_extend_48 : decode b_Sr_extend 48 = .ok (.iload 6, 2) := by decide +kernel
theorem d_Sr_extend_50 : decode b_Sr_extend 50 = .ok (.iload_n 3, 1) := by decide +kernel
theorem d_Sr_extend_51 : decode b_Sr_extend 51 = .ok (.iload 5, 2) := by decide +kernel
theorem d_Sr_extend_53 : decode b_Sr_extend 53 = .ok (.invokevirtual 61, 3) := by decide +kernel
theorem d_Sr_extend_56 : decode b_Sr_extend 56 = .ok (.istore 5, 2) := by decide +kernel
theorem d_Sr_extend_58 : decode b_Sr_extend 58 = .ok (.iinc 6 1, 3) := by decide +kernel
theorem d_Sr_extend_61 : decode b_Sr_extend 61 = .ok (.goto (-40), 3) := by decide +kernel
theorem d_Sr_extend_64 : decode b_Sr_extend 64 = .ok (.iload_n 3, 1) := by decide +kernel
theorem d_Sr_extend_65 : decode b_Sr_extend 65 = .ok (.iconst 3, 1) := by decide +kernel
theorem d_Sr_extend_66 : decode b_Sr_extend 66 = .ok (.if_icmp .ne 12, 3) := by decide +kernel
theorem d_Sr_extend_69 : decode b_Sr_extend 69 = .ok (.aload_n 2, 1) := by decide +kernel
theorem d_Sr_extend_70 : decode b_Sr_extend 70 = .ok (.iload 4, 2) := by decide +kernel
theorem d_Sr_extend_72 : decode b_Sr_extend 72 = .ok (.iload 5, 2) := by decide +kernel
theorem d_Sr_extend_74 : decode b_Sr_extend 74 = .ok (.invokevirtual 65, 3) := by decide +kernel
theorem d_Sr_extend_77 : decode b_Sr_extend 77 = .ok (.return_, 1) := by decide +kernel
theorem d_Sr_extend_78 : decode b_Sr_extend 78 = .ok (.iconst 0, 1) := by decide +kernel
theorem d_Sr_extend_79 : decode b_Sr_extend 79 = .ok (.istore 6, 2) := by decide +kernel
theorem d_Sr_extend_81 : decode b_Sr_extend 81 = .ok (.iload 6, 2) := by decide +kernel
theorem d_Sr_extend_83 : decode b_Sr_extend 83 = .ok (.bipush 16, 2) := by decide +kernel
theorem d_Sr_extend_85 : decode b_Sr_extend 85 = .ok (.if_icmp .ge 59, 3) := by decide +kernel
theorem d_Sr_extend_88 : decode b_Sr_extend 88 = .ok (.iload 5, 2) := by decide +kernel
theorem d_Sr_extend_90 : decode b_Sr_extend 90 = .ok (.iload 6, 2) := by decide +kernel
theorem d_Sr_extend_92 : decode b_Sr_extend 92 = .ok (.ishr, 1) := by decide +kernel
theorem d_Sr_extend_93 : decode b_Sr_extend 93 = .ok (.ifCond .eq 51, 3) := by decide +kernel
theorem d_Sr_extend_96 : decode b_Sr_extend 96 = .ok (.aload_n 2, 1) := by decide +kernel
theorem d_Sr_extend_97 : decode b_Sr_extend 97 = .ok (.invokevirtual 71, 3) := by decide +kernel
theorem d_Sr_extend_100 : decode b_Sr_extend 100 = .ok (.ifCond .ne 44, 3) := by decide +kernel
theorem d_Sr_extend_103 : decode b_Sr_extend 103 = .ok (.iload 5, 2) := by decide +kernel
theorem d_Sr_extend_105 : decode b_Sr_extend 105 = .ok (.iload 6, 2) := by decide +kernel
theorem d_Sr_extend_107 : decode b_Sr_extend 107 = .ok (.ishr, 1) := by decide +kernel
theorem d_Sr_extend_108 : decode b_Sr_extend 108 = .ok (.iconst 1, 1) := by decide +kernel
theorem d_Sr_extend_109 : decode b_Sr_extend 109 = .ok (.iand, 1) := by decide +kernel
theorem d_Sr_extend_110 : decode b_Sr_extend 110 = .ok (.ifCond .eq 28, 3) := by decide +kernel
theorem d_Sr_extend_113 : decode b_Sr_extend 113 = .ok (.aload_n 0, 1) := by decide +kernel
theorem d_Sr_extend_114 : decode b_Sr_extend 114 = .ok (.getfield 15, 3) := by decide +kernel
theorem d_Sr_extend_117 : decode b_Sr_extend 117 = .ok (.iload_n 3, 1) := by decide +kernel
theorem d_Sr_extend_118 : decode b_Sr_extend 118 = .ok (.iload 6, 2) := by decide +kernel
theorem d_Sr_extend_120 : decode b_Sr_extend 120 = .ok (.iastore, 1) := by decide +kernel
theorem d_Sr_extend_121 : decode b_Sr_extend 121 = .ok (.aload_n 0, 1) := by decide +kernel
theorem d_Sr_extend_122 : decode b_Sr_extend 122 = .ok (.aload_n 1, 1) := by decide +kernel
theorem d_Sr_extend_123 : decode b_Sr_extend 123 = .ok (.aload_n 2, 1) := by decide +kernel
theorem d_Sr_extend_124 : decode b_Sr_extend 124 = .ok (.iload_n 3, 1) := by decide +kernel
theorem d_Sr_extend_125 : decode b_Sr_extend 125 = .ok (.iconst 1, 1) := by decide +kernel
theorem d_Sr_extend_126 : decode b_Sr_extend 126 = .ok (.iadd, 1) := by decide +kernel
theorem d_Sr_extend_127 : decode b_Sr_extend 127 = .ok (.iload 4, 2) := by decide +kernel
theorem d_Sr_extend_129 : decode b_Sr_extend 129 = .ok (.bipush 16, 2) := by decide +kernel
theorem d_Sr_extend_131 : decode b_Sr_extend 131 = .ok (.imul, 1) := by decide +kernel
theorem d_Sr_extend_132 : decode b_Sr_extend 132 = .ok (.iload 6, 2) := by decide +kernel
theorem d_Sr_extend_134 : decode b_Sr_extend 134 = .ok (.iadd, 1) := by decide +kernel
theorem d_Sr_extend_135 : decode b_Sr_extend 135 = .ok (.invokevirtual 45, 3) := by decide +kernel
theorem d_Sr_extend_138 : decode b_Sr_extend 138 = .ok (.iinc 6 1, 3) := by decide +kernel
theorem d_Sr_extend_141 : decode b_Sr_extend 141 = .ok (.goto (-60), 3) := by decide +kernel
theorem d_Sr_extend_144 : decode b_Sr_extend 144 = .ok (.return_, 1) := by decide +kernel
theorem d_Sr_filter_0 : decode b_Sr_filter 0 = .ok (.iconst (-1), 1) := by decide +kernel
theorem d_Sr_filter_1 : decode b_Sr_filter 1 = .ok (.iload_n 3, 1) := by decide +kernel
theorem d_Sr_filter_2 : decode b_Sr_filter 2 = .ok (.isub, 1) := by decide +kernel
theorem d_Sr_filter_3 : decode b_Sr_filter 3 = .ok (.istore 5, 2) := by decide +kernel
theorem d_Sr_filter_5 : decode b_Sr_filter 5 = .ok (.aload_n 1, 1) := by decide +kernel
theorem d_Sr_filter_6 : decode b_Sr_filter 6 = .ok (.iload_n 2, 1) := by decide +kernel
theorem d_Sr_filter_7 : decode b_Sr_filter 7 = .ok (.iconst 0, 1) := by decide +kernel
theorem d_Sr_filter_8 : decode b_Sr_filter 8 = .ok (.invokevirtual 29, 3) := by decide +kernel
theorem d_Sr_filter_11 : decode b_Sr_filter 11 = .ok (.istore 6, 2) := by decide +kernel
theorem d_Sr_filter_13 : decode b_Sr_filter 13 = .ok (.aload_n 1, 1) := by decide +kernel
theorem d_Sr_filter_14 : decode b_Sr_filter 14 = .ok (.iload_n 2, 1) := by decide +kernel
theorem d_Sr_filter_15 : decode b_Sr_filter 15 = .ok (.iconst 1, 1) := by decide +kernel
theorem d_Sr_filter_16 : decode b_Sr_filter 16 = .ok (.invokevirtual 29, 3) := by decide +kernel
theorem d_Sr_filter_19 : decode b_Sr_filter 19 = .ok (.istore 7, 2) := by decide +kernel
theorem d_Sr_filter_21 : decode b_Sr_filter 21 = .ok (.aload_n 1, 1) := by decide +kernel
theorem d_Sr_filter_22 : decode b_Sr_filter 22 = .ok (.iload_n 2, 1) := by decide +kernel
theorem d_Sr_filter_23 : decode b_Sr_filter 23 = .ok (.iconst 2, 1) := by decide +kernel
theorem d_Sr_filter_24 : decode b_Sr_filter 24 = .ok (.invokevirtual 29, 3) := by decide +kernel
theorem d_Sr_filter_27 : decode b_Sr_filter 27 = .ok (.istore 8, 2) := by decide +kernel
theorem d_Sr_filter_29 : decode b_Sr_filter 29 = .ok (.iload 6, 2) := by decide +kernel
theorem d_Sr_filter_31 : decode b_Sr_filter 31 = .ok (.iload 5, 2) := by decide +kernel
theorem d_Sr_filter_33 : decode b_Sr_filter 33 = .ok (.if_icmp .eq 33, 3) := by decide +kernel
theorem d_Sr_filter_36 : decode b_Sr_filter 36 = .ok (.iload 7, 2) := by decide +kernel
theorem d_Sr_filter_38 : decode b_Sr_filter 38 = .ok (.iload 5, 2) := by decide +kernel
theorem d_Sr_filter_40 : decode b_Sr_filter 40 = .ok (.if_icmp .eq 26, 3) := by decide +kernel
theorem d_Sr_filter_43 : decode b_Sr_filter 43 = .ok (.iload 4, 2) := by decide +kernel
theorem d_Sr_filter_45 : decode b_Sr_filter 45 = .ok (.aload_n 0, 1) := by decide +kernel
theorem d_Sr_filter_46 : decode b_Sr_filter 46 = .ok (.getfield 18, 3) := by decide +kernel
theorem d_Sr_filter_49 : decode b_Sr_filter 49 = .ok (.aload_n 0, 1) := by decide +kernel
theorem d_Sr_filter_50 : decode b_Sr_filter 50 = .ok (.iload 6, 2) := by decide +kernel
theorem d_Sr_filter_52 : decode b_Sr_filter 52 = .ok (.invokevirtual 75, 3) := by decide +kernel
theorem d_Sr_filter_55 : decode b_Sr_filter 55 = .ok (.aload_n 0, 1) := by decide +kernel
theorem d_Sr_filter_56 : decode b_Sr_filter 56 = .ok (.iload 7, 2) := by decide +kernel
theorem d_Sr_filter_58 : decode b_Sr_filter 58 = .ok (.invokevirtual 75, 3) := by decide +kernel
theorem d_Sr_filter_61 : decode b_Sr_filter 61 = .ok (.invokevirtual 53, 3) := by decide +kernel
theorem d_Sr_filter_64 : decode b_Sr_filter 64 = .ok (.iand, 1) := by decide +kernel
theorem d_Sr_filter_65 : decode b_Sr_filter 65 = .ok (.ireturn, 1) := by decide +kernel
theorem d_Sr_filter_66 : decode b_Sr_filter 66 = .ok (.iconst 0, 1) := by decide +kernel
theorem d_Sr_filter_67 : decode b_Sr_filter 67 = .ok (.istore 9, 2) := by decide +kernel
theorem d_Sr_filter_69 : decode b_Sr_filter 69 = .ok (.iconst 0, 1) := by decide +kernel
theorem d_Sr_filter_70 : decode b_Sr_filter 70 = .ok (.istore 10, 2) := by decide +kernel
theorem d_Sr_filter_72 : decode b_Sr_filter 72 = .ok (.iload 10, 2) := by decide +kernel
theorem d_Sr_filter_74 : decode b_Sr_filter 74 = .ok (.bipush 16, 2) := by decide +kernel
theorem d_Sr_filter_76 : decode b_Sr_filter 76 = .ok (.if_icmp .ge 71, 3) := by decide +kernel
theorem d_Sr_filter_79 : decode b_Sr_filter 79 = .ok (.iload 4, 2) := by decide +kernel
theorem d_Sr_filter_81 : decode b_Sr_filter 81 = .ok (.iload 10, 2) := by decide +kernel
theorem d_Sr_filter_83 : decode b_Sr_filter 83 = .ok (.ishr, 1) := by decide +kernel
theorem d_Sr_filter_84 : decode b_Sr_filter 84 = .ok (.ifCond .eq 63, 3) := by decide +kernel
theorem d_Sr_filter_87 : decode b_Sr_filter 87 = .ok (.iload 4, 2) := by decide +kernel
theorem d_Sr_filter_89 : decode b_Sr_filter 89 = .ok (.iload 10, 2) := by decide +kernel
theorem d_Sr_filter_91 : decode b_Sr_filter 91 = .ok (.ishr, 1) := by decide +kernel
theorem d_Sr_filter_92 : decode b_Sr_filter 92 = .ok (.iconst 1, 1) := by decide +kernel
theorem d_Sr_filter_93 : decode b_Sr_filter 93 = .ok (.iand, 1) := by decide +kernel
theorem d_Sr_filter_94 : decode b_Sr_filter 94 = .ok (.ifCond .eq 47, 3) := by decide +kernel
theorem d_Sr_filter_97 : decode b_Sr_filter 97 = .ok (.aload_n 0, 1) := by decide +kernel
theorem d_Sr_filter_98 : decode b_Sr_filter 98 = .ok (.getfield 15, 3) := by decide +kernel
theorem d_Sr_filter_101 : decode b_Sr_filter 101 = .ok (.iload_n 3, 1) := by decide +kernel
theorem d_Sr_filter_102 : decode b_Sr_filter 102 = .ok (.iload 10, 2) := by decide +kernel
theorem d_Sr_filter_104 : decode b_Sr_filter 104 = .ok (.iastore, 1) := by decide +kernel
theorem d_Sr_filter_105 : decode b_Sr_filter 105 = .ok (.iload 9, 2) := by decide +kernel
theorem d_Sr_filter_107 : decode b_Sr_filter 107 = .ok (.aload_n 0, 1) := by decide +kernel
theorem d_Sr_filter_108 : decode b_Sr_filter 108 = .ok (.getfield 18, 3) := by decide +kernel
theorem d_Sr_filter_111 : decode b_Sr_filter 111 = .ok (.aload_n 0, 1) := by decide +kernel
theorem d_Sr_filter_112 : decode b_Sr_filter 112 = .ok (.iload 6, 2) := by decide +kernel
theorem d_Sr_filter_114 : decode b_Sr_filter 114 = .ok (.invokevirtual 75, 3) := by decide +kernel
theorem d_Sr_filter_117 : decode b_Sr_filter 117 = .ok (.aload_n 0, 1) := by decide +kernel
theorem d_Sr_filter_118 : decode b_Sr_filter 118 = .ok (.iload 7, 2) := by decide +kernel
theorem d_Sr_filter_120 : decode b_Sr_filter 120 = .ok (.invokevirtual 75, 3) := by decide +kernel
theorem d_Sr_filter_123 : decode b_Sr_filter 123 = .ok (.invokevirtual 53, 3) := by decide +kernel
theorem d_Sr_filter_126 : decode b_Sr_filter 126 = .ok (.aload_n 0, 1) := by decide +kernel
theorem d_Sr_filter_127 : decode b_Sr_filter 127 = .ok (.iload 8, 2) := by decide +kernel
theorem d_Sr_filter_129 : decode b_Sr_filter 129 = .ok (.invokevirtual 75, 3) := by decide +kernel
theorem d_Sr_filter_132 : decode b_Sr_filter 132 = .ok (.ishr, 1) := by decide +kernel
theorem d_Sr_filter_133 : decode b_Sr_filter 133 = .ok (.iconst 1, 1) := by decide +kernel
theorem d_Sr_filter_134 : decode b_Sr_filter 134 = .ok (.iand, 1) := by decide +kernel
theorem d_Sr_filter_135 : decode b_Sr_filter 135 = .ok (.iload 10, 2) := by decide +kernel
theorem d_Sr_filter_137 : decode b_Sr_filter 137 = .ok (.ishl, 1) := by decide +kernel
theorem d_Sr_filter_138 : decode b_Sr_filter 138 = .ok (.ior, 1) := by decide +kernel
theorem d_Sr_filter_139 : decode b_Sr_filter 139 = .ok (.istore 9, 2) := by decide +kernel
theorem d_Sr_filter_141 : decode b_Sr_filter 141 = .ok (.iinc 10 1, 3) := by decide +kernel
theorem d_Sr_filter_144 : decode b_Sr_filter 144 = .ok (.goto (-72), 3) := by decide +kernel
theorem d_Sr_filter_147 : decode b_Sr_filter 147 = .ok (.iload 9, 2) := by decide +kernel
theorem d_Sr_filter_149 : decode b_Sr_filter 149 = .ok (.ireturn, 1) := by decide +kernel
theorem d_Sr_valueOf_0 : decode b_Sr_valueOf 0 = .ok (.iconst (-1), 1) := by decide +kernel
theorem d_Sr_valueOf_1 : decode b_Sr_valueOf 1 = .ok (.iload_n 1, 1) := by decide +kernel
theorem d_Sr_valueOf_2 : decode b_Sr_valueOf 2 = .ok (.isub, 1) := by decide +kernel
theorem d_Sr_valueOf_3 : decode b_Sr_valueOf 3 = .ok (.istore_n 2, 1) := by decide +kernel
theorem d_Sr_valueOf_4 : decode b_Sr_valueOf 4 = .ok (.iload_n 2, 1) := by decide +kernel
theorem d_Sr_valueOf_5 : decode b_Sr_valueOf 5 = .ok (.ifCond .lt 17, 3) := by decide +kernel
theorem d_Sr_valueOf_8 : decode b_Sr_valueOf 8 = .ok (.iload_n 2, 1) := by decide +kernel
theorem d_Sr_valueOf_9 : decode b_Sr_valueOf 9 = .ok (.iconst 4, 1) := by decide +kernel
theorem d_Sr_valueOf_10 : decode b_Sr_valueOf 10 = .ok (.if_icmp .ge 12, 3) := by decide +kernel
theorem d_Sr_valueOf_13 : decode b_Sr_valueOf 13 = .ok (.aload_n 0, 1) := by decide +kernel
theorem d_Sr_valueOf_14 : decode b_Sr_valueOf 14 = .ok (.getfield 15, 3) := by decide +kernel
theorem d_Sr_valueOf_17 : decode b_Sr_valueOf 17 = .ok (.iload_n 2, 1) := by decide +kernel
theorem d_Sr_valueOf_18 : decode b_Sr_valueOf 18 = .ok (.iaload, 1) := by decide +kernel
theorem d_Sr_valueOf_19 : decode b_Sr_valueOf 19 = .ok (.goto 4, 3) := by decide +kernel
theorem d_Sr_valueOf_22 : decode b_Sr_valueOf 22 = .ok (.iload_n 1, 1) := by decide +kernel
theorem d_Sr_valueOf_23 : decode b_Sr_valueOf 23 = .ok (.ireturn, 1) := by decide +kernel
theorem d_Sr_allowed_0 : decode b_Sr_allowed 0 = .ok (.iconst (-1), 1) := by decide +kernel
theorem d_Sr_allowed_1 : decode b_Sr_allowed 1 = .ok (.iload_n 1, 1) := by decide +kernel
theorem d_Sr_allowed_2 : decode b_Sr_allowed 2 = .ok (.isub, 1) := by decide +kernel
theorem d_Sr_allowed_3 : decode b_Sr_allowed 3 = .ok (.istore_n 2, 1) := by decide +kernel
theorem d_Sr_allowed_4 : decode b_Sr_allowed 4 = .ok (.iload_n 2, 1) := by decide +kernel
theorem d_Sr_allowed_5 : decode b_Sr_allowed 5 = .ok (.ifCond .lt 17, 3) := by decide +kernel
theorem d_Sr_allowed_8 : decode b_Sr_allowed 8 = .ok (.iload_n 2, 1) := by decide +kernel
theorem d_Sr_allowed_9 : decode b_Sr_allowed 9 = .ok (.iconst 4, 1) := by decide +kernel
theorem d_Sr_allowed_10 : decode b_Sr_allowed 10 = .ok (.if_icmp .ge 12, 3) := by decide +kernel
theorem d_Sr_allowed_13 : decode b_Sr_allowed 13 = .ok (.aload_n 0, 1) := by decide +kernel
theorem d_Sr_allowed_14 : decode b_Sr_allowed 14 = .ok (.getfield 9, 3) := by decide +kernel
theorem d_Sr_allowed_17 : decode b_Sr_allowed 17 = .ok (.iload_n 2, 1) := by decide +kernel
theorem d_Sr_allowed_18 : decode b_Sr_allowed 18 = .ok (.iaload, 1) := by decide +kernel
theorem d_Sr_allowed_19 : decode b_Sr_allowed 19 = .ok (.goto 6, 3) := by decide +kernel
theorem d_Sr_allowed_22 : decode b_Sr_allowed 22 = .ok (.iconst 1, 1) := by decide +kernel
theorem d_Sr_allowed_23 : decode b_Sr_allowed 23 = .ok (.iload_n 1, 1) := by decide +kernel
theorem d_Sr_allowed_24 : decode b_Sr_allowed 24 = .ok (.ishl, 1) := by decide +kernel
theorem d_Sr_allowed_25 : decode b_Sr_allowed 25 = .ok (.ireturn, 1) := by decide +kernel
theorem d_Sr_keep_0 : decode b_Sr_keep 0 = .ok (.iconst (-1), 1) := by decide +kernel
theorem d_Sr_keep_1 : decode b_Sr_keep 1 = .ok (.iload_n 1, 1) := by decide +kernel
theorem d_Sr_keep_2 : decode b_Sr_keep 2 = .ok (.isub, 1) := by decide +kernel
theorem d_Sr_keep_3 : decode b_Sr_keep 3 = .ok (.istore_n 3, 1) := by decide +kernel
theorem d_Sr_keep_4 : decode b_Sr_keep 4 = .ok (.iload_n 3, 1) := by decide +kernel
theorem d_Sr_keep_5 : decode b_Sr_keep 5 = .ok (.ifCond .lt 18, 3) := by decide +kernel
theorem d_Sr_keep_8 : decode b_Sr_keep 8 = .ok (.iload_n 3, 1) := by decide +kernel
theorem d_Sr_keep_9 : decode b_Sr_keep 9 = .ok (.iconst 4, 1) := by decide +kernel
theorem d_Sr_keep_10 : decode b_Sr_keep 10 = .ok (.if_icmp .ge 13, 3) := by decide +kernel
theorem d_Sr_keep_13 : decode b_Sr_keep 13 = .ok (.aload_n 0, 1) := by decide +kernel
theorem d_Sr_keep_14 : decode b_Sr_keep 14 = .ok (.getfield 9, 3) := by decide +kernel
theorem d_Sr_keep_17 : decode b_Sr_keep 17 = .ok (.iload_n 3, 1) := by decide +kernel
theorem d_Sr_keep_18 : decode b_Sr_keep 18 = .ok (.dup2, 1) := by decide +kernel
theorem d_Sr_keep_19 : decode b_Sr_keep 19 = .ok (.iaload, 1) := by decide +kernel
theorem d_Sr_keep_20 : decode b_Sr_keep 20 = .ok (.iload_n 2, 1) := by decide +kernel
theorem d_Sr_keep_21 : decode b_Sr_keep 21 = .ok (.iand, 1) := by decide +kernel
theorem d_Sr_keep_22 : decode b_Sr_keep 22 = .ok (.iastore, 1) := by decide +kernel
theorem d_Sr_keep_23 : decode b_Sr_keep 23 = .ok (.aload_n 0, 1) := by decide +kernel
theorem d_Sr_keep_24 : decode b_Sr_keep 24 = .ok (.iload_n 1, 1) := by decide +kernel
theorem d_Sr_keep_25 : decode b_Sr_keep 25 = .ok (.invokevirtual 49, 3) := by decide +kernel
theorem d_Sr_keep_28 : decode b_Sr_keep 28 = .ok (.iload_n 2, 1) := by decide +kernel
theorem d_Sr_keep_29 : decode b_Sr_keep 29 = .ok (.iand, 1) := by decide +kernel
theorem d_Sr_keep_30 : decode b_Sr_keep 30 = .ok (.ifCond .eq 7, 3) := by decide +kernel
theorem d_Sr_keep_33 : decode b_Sr_keep 33 = .ok (.iconst 1, 1) := by decide +kernel
theorem d_Sr_keep_34 : decode b_Sr_keep 34 = .ok (.goto 4, 3) := by decide +kernel
theorem d_Sr_keep_37 : decode b_Sr_keep 37 = .ok (.iconst 0, 1) := by decide +kernel
theorem d_Sr_keep_38 : decode b_Sr_keep 38 = .ok (.ireturn, 1) := by decide +kernel
